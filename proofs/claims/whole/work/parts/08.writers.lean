/-! OWN ROWS: the writers of the class's state -/
theorem stw_congr {cI : ClassId} {a : Nat → Nat} {g1 g2 : Nat → Nat → Int} (h0 : g1 0 = g2 0) (h1 : g1 1 = g2 1) (h2 : g1 2 = g2 2) (h3 : g1 3 = g2 3) (h4 : g1 4 = g2 4) (h5 : g1 5 = g2 5) (h6 : g1 6 = g2 6) : stw cI a g1 = stw cI a g2 := by
  simp only [stw, stf, h0, h1, h2, h3, h4, h5, h6]
def zfil (f : Nat → Int) (i : Nat) (c : Int) : Nat → Int := fun k => if k < i then c else f k
theorem zfil_step (f : Nat → Int) (i : Nat) (c : Int) : zset (zfil f i c) i c = zfil f (i + 1) c := by
  funext k
  unfold zset zfil
  by_cases h : k = i
  · rw [if_pos h, if_pos (by omega)]
  · rw [if_neg h]
    by_cases q : k < i
    · rw [if_pos q, if_pos (by omega)]
    · rw [if_neg q, if_neg (by omega)]
theorem zfil_0 (f : Nat → Int) (c : Int) : zfil f 0 c = f := by
  funext k
  exact if_neg (by omega)
def sBg (g : Nat → Nat → Int) (n : Int) (i j : Nat) : Nat → Nat → Int
  | 0 => zset (zset (g 0) 0 n) 1 0
  | 1 => zfil (g 1) i 0
  | 2 => zfil (g 2) i 0
  | 3 => zfil (g 3) i 0
  | 4 => zfil (g 4) i 1000
  | 5 => zfil (g 5) i 0
  | 6 => zfil (g 6) j 0
  | q + 7 => g (q + 7)
def sBeg (g : Nat → Nat → Int) (n : Int) : Nat → Nat → Int := sBg g n 10 100
def zcpy (f g : Nat → Int) (n : Nat) : Nat → Int := fun k => if k < n then f k else g k
/-- g with what a copy of g2 gives it -/
def sCpy (g g2 : Nat → Nat → Int) : Nat → Nat → Int
  | 0 => zcpy (g2 0) (g 0) 5
  | 1 => zcpy (g2 1) (g 1) 10
  | 2 => zcpy (g2 2) (g 2) 10
  | 3 => zcpy (g2 3) (g 3) 10
  | 4 => zcpy (g2 4) (g 4) 10
  | 5 => zcpy (g2 5) (g 5) 10
  | 6 => zcpy (g2 6) (g 6) 100
  | q + 7 => g (q + 7)
theorem zcpy_va (f g : Nat → Int) (n : Nat) : va_cpy (fun k => zI (f k)) (fun k => zI (g k)) 0 0 n = fun k => zI (zcpy f g n k) := by
  funext k
  unfold zcpy
  by_cases h : k < n
  · rw [pk_cpy_in (by omega) (by omega), if_pos h]
    show zI (f (0 + (k - 0))) = _
    rw [show 0 + (k - 0) = k by omega]
  · rw [pk_cpy_out (by omega), if_neg h]
section ZC
variable {p : Program} {l : Launch} {e : Env} {R : Room} {s : State} {m : MethodId} {args : Array Value} {below : List Frame} {meth : Method} {c : Code} {H : Heap} {locs : List Loc} {cells slots : Nat} {Q : State → Prop}
variable {cc : ByteArray} {pc : Nat} {ls : Array Slot} {rest : List Value} {D : va_G} {cl : List vw_C} {A : Nat → Prop} {a a0 : Nat} {tys : List (ClassId × FieldType)} {ws : va_W} {H0 : Heap}
theorem zr_copy (hx : p.tables.exec = Jvm.exec) (hb : c.code = cc) (hml : c.maxLocals = ls.size) {own : String} {index : Nat} (hown : s.vm.findClass own = some m.cls) (hlink : (Cond.methodLink own index arraycopyName).before args s = true) (hnat : (Cond.native arraycopyName).before args s = true) (hstat : (Cond.static arraycopyName).before args s = true) (hini : (Cond.initialized "java/lang/System").before args s = true)
    (hK : va_K D cl tys s) (hP : va_P D cl ws H) (hD : va_D A ws) (hS : va_S A H0 H locs) (q0 q1 : Nat) {c0 : ClassId} {n0 : Nat} {f g : Nat → Int} (ha0 : ws[q0]? = some (a0, .inl (c0, n0, .inl (fun k => zI (f k))))) (ha1 : ws[q1]? = some (a, .inl (c0, n0, .inl (fun k => zI (g k))))) (ht0 : tys[0]? = some (c0, .int))
    {z z1 z2 : Int} (k : Nat) (hz : z = (k : Int)) (h1 : z1 = ((0 : Nat) : Int)) (h2 : z2 = ((0 : Nat) : Int)) (hk : k ≤ n0) (hn : n0 < 2147483648)
    (hframes : 1 ≤ R.frames) (hlocals : (rest.map fun v => v.category).sum + (nativeFrameWords "java/lang/System" "arraycopy" 5 + 11) ≤ R.locals) (hdg : decode cc pc = .ok (.invokestatic index, 3))
    (kk : ∀ (H1 : Heap) (locs1 : List Loc), va_P D cl (ws.set q1 (a, .inl (c0, n0, .inl (fun j => zI (zcpy f g k j))))) H1 → va_D A (ws.set q1 (a, .inl (c0, n0, .inl (fun j => zI (zcpy f g k j))))) → va_S A H0 H1 locs1 → W p l e R s m args below meth c H1 locs1 cells slots Q (F0 m (pc + 3) ls rest)) : W p l e R s m args below meth c H locs cells slots Q (F0 m pc ls (.int (zI z) :: .int (zI z2) :: .ref a :: .int (zI z1) :: .ref a0 :: rest)) := by
  have e0 : (zI z1).toNatClampNeg = 0 := zI_clamp h1 (by omega)
  have e2 : (zI z2).toNatClampNeg = 0 := zI_clamp h2 (by omega)
  have e1 : (zI z).toNatClampNeg = k := zI_clamp hz (by omega)
  have nn : ∀ y : Int, 0 ≤ y ∧ y ≤ 2147483647 → ¬ zI y < 0 := fun y hy h => by
    have := (zI_lt (a := y) (b := 0) (by omega) (by omega)).mp h
    omega
  refine va_copyi hx hb hml hown hlink hnat hstat hini hK hP hD hS q0 q1 0 0 ha0 ha1 ht0 ht0 rfl (nn z1 (by omega)) (nn z2 (by omega)) (nn z (by omega)) (by rw [e0, e1]; omega) (by rw [e2, e1]; omega) (fun _ _ => rfl) hframes hlocals hdg (fun H1 locs1 g1 g2 g3 => ?_)
  rw [e0, e1, e2, zcpy_va] at g1 g2
  exact kk H1 locs1 g1 g2 g3
end ZC
set_option maxHeartbeats 4000000 in
set_option maxRecDepth 100000 in
/-- settle -/
theorem c_X0_settle (l : Launch) (dC : Nat → ClassId) (dI : Nat → Nat → Nat) (cI cZ cS : ClassId) (a : Nat → Nat) (g : Nat → Nat → Int) (A : Nat) (x y h e1 : Int) (hA : A < 10) : Met l yX0_settle wsX0_settle ({ frames := 0, cells := 0, slots := 0, locals := 0 } : Room) (wr_Pc dC dI cI cZ cS (stw cI a g) [.ref (a 0), .int (zI (A : Int)), .int (zI x), .int (zI y), .int (zI h), .int (zI e1)]) (wr_Qc dC dI (stw cI a g) (stw cI a (sSet g A x y h e1)) none) 0 0 (wr_ad (stw cI a g)) := by
  refine wr_met (cc := cX0_settle) (maxL := 6) (ret := none) (by decide) rfl (Nat.le_of_ble_eq_true rfl) ?_
  intro p e s m below meth c ls hx hb hml hr hlocks hts hown hP hD hS hK hl
  have hl : lv_has ls 6 [(0, .ref (a 0)), (1, .int (zI (A : Int))), (2, .int (zI x)), (3, .int (zI y)), (4, .int (zI h)), (5, .int (zI e1))] := hl
  have hinX0 : ∀ w ∈ u_ws RX0 TX0 11, w ∈ wsX0_settle := by decide +kernel
  have f_21 := hts (.fieldLink RX0 21 "NetworkCoordinates$State" "xs" "[I") (by decide +kernel)
  have f_25 := hts (.fieldLink RX0 25 "NetworkCoordinates$State" "ys" "[I") (by decide +kernel)
  have f_28 := hts (.fieldLink RX0 28 "NetworkCoordinates$State" "heights" "[I") (by decide +kernel)
  have f_31 := hts (.fieldLink RX0 31 "NetworkCoordinates$State" "errors" "[I") (by decide +kernel)
  refine lv_aload_n hx hb dX0_settle_0 rfl (lv_at hl 0 rfl) ?_
  refine va_get (D := (dC, dI)) (ci := 0) (v := .ref (a 1)) (C := RX0) (T := TX0) (N := 11) hx hb hts hinX0 hown hK.1 hP 0 rfl rfl 5 (by decide) f_21 (fun _ h9 => h9) rfl dX0_settle_1 ?_
  refine lv_iload_n hx hb dX0_settle_4 rfl (lv_at hl 1 rfl) ?_
  refine lv_iload_n hx hb dX0_settle_5 rfl (lv_at hl 2 rfl) ?_
  refine zr_iast hx hb hK.1 hP hD hS 1 0 rfl rfl A (zset (g 1) A x) (by omega) (by omega) (Nat.le_of_ble_eq_true rfl) rfl dX0_settle_6 (fun H locs hP hD hS => ?_)
  have hP : va_P (dC, dI) vwCl (stw cI a (gset g 1 A x)) H := hP
  have hD : va_D (wr_ad (stw cI a g)) (stw cI a (gset g 1 A x)) := hD
  refine lv_aload_n hx hb dX0_settle_7 rfl (lv_at hl 0 rfl) ?_
  refine va_get (D := (dC, dI)) (ci := 0) (v := .ref (a 2)) (C := RX0) (T := TX0) (N := 11) hx hb hts hinX0 hown hK.1 hP 0 rfl rfl 6 (by decide) f_25 (fun _ h9 => h9) rfl dX0_settle_8 ?_
  refine lv_iload_n hx hb dX0_settle_11 rfl (lv_at hl 1 rfl) ?_
  refine lv_iload_n hx hb dX0_settle_12 rfl (lv_at hl 3 rfl) ?_
  refine zr_iast hx hb hK.1 hP hD hS 2 0 rfl rfl A (zset ((gset g 1 A x) 2) A y) (by omega) (by omega) (Nat.le_of_ble_eq_true rfl) rfl dX0_settle_13 (fun H locs hP hD hS => ?_)
  have hP : va_P (dC, dI) vwCl (stw cI a (gset (gset g 1 A x) 2 A y)) H := hP
  have hD : va_D (wr_ad (stw cI a g)) (stw cI a (gset (gset g 1 A x) 2 A y)) := hD
  refine lv_aload_n hx hb dX0_settle_14 rfl (lv_at hl 0 rfl) ?_
  refine va_get (D := (dC, dI)) (ci := 0) (v := .ref (a 3)) (C := RX0) (T := TX0) (N := 11) hx hb hts hinX0 hown hK.1 hP 0 rfl rfl 7 (by decide) f_28 (fun _ h9 => h9) rfl dX0_settle_15 ?_
  refine lv_iload_n hx hb dX0_settle_18 rfl (lv_at hl 1 rfl) ?_
  refine lv_iload hx hb dX0_settle_19 (lv_at hl 4 rfl) ?_
  refine zr_iast hx hb hK.1 hP hD hS 3 0 rfl rfl A (zset ((gset (gset g 1 A x) 2 A y) 3) A h) (by omega) (by omega) (Nat.le_of_ble_eq_true rfl) rfl dX0_settle_21 (fun H locs hP hD hS => ?_)
  have hP : va_P (dC, dI) vwCl (stw cI a (gset (gset (gset g 1 A x) 2 A y) 3 A h)) H := hP
  have hD : va_D (wr_ad (stw cI a g)) (stw cI a (gset (gset (gset g 1 A x) 2 A y) 3 A h)) := hD
  refine lv_aload_n hx hb dX0_settle_22 rfl (lv_at hl 0 rfl) ?_
  refine va_get (D := (dC, dI)) (ci := 0) (v := .ref (a 4)) (C := RX0) (T := TX0) (N := 11) hx hb hts hinX0 hown hK.1 hP 0 rfl rfl 8 (by decide) f_31 (fun _ h9 => h9) rfl dX0_settle_23 ?_
  refine lv_iload_n hx hb dX0_settle_26 rfl (lv_at hl 1 rfl) ?_
  refine lv_iload hx hb dX0_settle_27 (lv_at hl 5 rfl) ?_
  refine zr_iast hx hb hK.1 hP hD hS 4 0 rfl rfl A (zset ((gset (gset (gset g 1 A x) 2 A y) 3 A h) 4) A e1) (by omega) (by omega) (Nat.le_of_ble_eq_true rfl) rfl dX0_settle_29 (fun H locs hP hD hS => ?_)
  have hP : va_P (dC, dI) vwCl (stw cI a (gset (gset (gset (gset g 1 A x) 2 A y) 3 A h) 4 A e1)) H := hP
  have hD : va_D (wr_ad (stw cI a g)) (stw cI a (gset (gset (gset (gset g 1 A x) 2 A y) 3 A h) 4 A e1)) := hD
  exact wr_vret hx hb hr hlocks hP hS dX0_settle_30
set_option maxHeartbeats 4000000 in
set_option maxRecDepth 100000 in
/-- keepRtt -/
theorem c_X0_keepRtt (l : Launch) (dC : Nat → ClassId) (dI : Nat → Nat → Nat) (cI cZ cS : ClassId) (a : Nat → Nat) (g : Nat → Nat → Int) (A B : Nat) (z : Int) (hA : A < 10) (hB : B < 10) : Met l yX0_keepRtt wsX0_keepRtt ({ frames := 0, cells := 0, slots := 0, locals := 0 } : Room) (wr_Pc dC dI cI cZ cS (stw cI a g) [.ref (a 0), .int (zI (A : Int)), .int (zI (B : Int)), .int (zI z)]) (wr_Qc dC dI (stw cI a g) (stw cI a (gset (gset g 6 (10 * A + B) z) 6 (10 * B + A) z)) none) 0 0 (wr_ad (stw cI a g)) := by
  refine wr_met (cc := cX0_keepRtt) (maxL := 4) (ret := none) (by decide) rfl (Nat.le_of_ble_eq_true rfl) ?_
  intro p e s m below meth c ls hx hb hml hr hlocks hts hown hP hD hS hK hl
  have hl : lv_has ls 4 [(0, .ref (a 0)), (1, .int (zI (A : Int))), (2, .int (zI (B : Int))), (3, .int (zI z))] := hl
  have hinX0 : ∀ w ∈ u_ws RX0 TX0 11, w ∈ wsX0_keepRtt := by decide +kernel
  have f_37 := hts (.fieldLink RX0 37 "NetworkCoordinates$State" "rtts" "[I") (by decide +kernel)
  refine lv_aload_n hx hb dX0_keepRtt_0 rfl (lv_at hl 0 rfl) ?_
  refine va_get (D := (dC, dI)) (ci := 0) (v := .ref (a 6)) (C := RX0) (T := TX0) (N := 11) hx hb hts hinX0 hown hK.1 hP 0 rfl rfl 10 (by decide) f_37 (fun _ h9 => h9) rfl dX0_keepRtt_1 ?_
  refine zr_bipush hx hb dX0_keepRtt_4 (by decide) ?_
  refine lv_iload_n hx hb dX0_keepRtt_6 rfl (lv_at hl 1 rfl) ?_
  refine zr_imul hx hb dX0_keepRtt_7 ?_
  refine lv_iload_n hx hb dX0_keepRtt_8 rfl (lv_at hl 2 rfl) ?_
  refine zr_iadd hx hb dX0_keepRtt_9 ?_
  refine lv_iload_n hx hb dX0_keepRtt_10 rfl (lv_at hl 3 rfl) ?_
  refine zr_iast hx hb hK.1 hP hD hS 6 0 rfl rfl ((10 * A) + B) (zset (g 6) ((10 * A) + B) z) (by omega) (by omega) (Nat.le_of_ble_eq_true rfl) rfl dX0_keepRtt_11 (fun H locs hP hD hS => ?_)
  have hP : va_P (dC, dI) vwCl (stw cI a (gset g 6 (10 * A + B) z)) H := hP
  have hD : va_D (wr_ad (stw cI a g)) (stw cI a (gset g 6 (10 * A + B) z)) := hD
  refine lv_aload_n hx hb dX0_keepRtt_12 rfl (lv_at hl 0 rfl) ?_
  refine va_get (D := (dC, dI)) (ci := 0) (v := .ref (a 6)) (C := RX0) (T := TX0) (N := 11) hx hb hts hinX0 hown hK.1 hP 0 rfl rfl 10 (by decide) f_37 (fun _ h9 => h9) rfl dX0_keepRtt_13 ?_
  refine zr_bipush hx hb dX0_keepRtt_16 (by decide) ?_
  refine lv_iload_n hx hb dX0_keepRtt_18 rfl (lv_at hl 2 rfl) ?_
  refine zr_imul hx hb dX0_keepRtt_19 ?_
  refine lv_iload_n hx hb dX0_keepRtt_20 rfl (lv_at hl 1 rfl) ?_
  refine zr_iadd hx hb dX0_keepRtt_21 ?_
  refine lv_iload_n hx hb dX0_keepRtt_22 rfl (lv_at hl 3 rfl) ?_
  refine zr_iast hx hb hK.1 hP hD hS 6 0 rfl rfl ((10 * B) + A) (zset ((gset g 6 (10 * A + B) z) 6) ((10 * B) + A) z) (by omega) (by omega) (Nat.le_of_ble_eq_true rfl) rfl dX0_keepRtt_23 (fun H locs hP hD hS => ?_)
  have hP : va_P (dC, dI) vwCl (stw cI a (gset (gset g 6 (10 * A + B) z) 6 (10 * B + A) z)) H := hP
  have hD : va_D (wr_ad (stw cI a g)) (stw cI a (gset (gset g 6 (10 * A + B) z) 6 (10 * B + A) z)) := hD
  exact wr_vret hx hb hr hlocks hP hS dX0_keepRtt_24
set_option maxHeartbeats 4000000 in
set_option maxRecDepth 100000 in
/-- update -/
theorem c_X0_update (l : Launch) (dC : Nat → ClassId) (dI : Nat → Nat → Nat) (cI cZ cS : ClassId) (a : Nat → Nat) (g : Nat → Nat → Int) (r : Int) (hg : gB g r) (A B : Nat) (hA : A < 10) (hB : B < 10) (hk : 1 ≤ g 6 (10 * A + B)) : Met l yX0_update wsX0_update ({ frames := 3, cells := 0, slots := 0, locals := 89 } : Room) (wr_Pc dC dI cI cZ cS (stw cI a g) [.ref (a 0), .int (zI (A : Int)), .int (zI (B : Int))]) (wr_Qc dC dI (stw cI a g) (stw cI a (sUpd g A B)) none) 0 0 (wr_ad (stw cI a g)) := by
  refine wr_met (cc := cX0_update) (maxL := 8) (ret := none) (by decide) rfl (Nat.le_of_ble_eq_true rfl) ?_
  intro p e s m below meth c ls hx hb hml hr hlocks hts hown hP hD hS hK hl
  have hl : lv_has ls 8 [(0, .ref (a 0)), (1, .int (zI (A : Int))), (2, .int (zI (B : Int)))] := hl
  have s1 := sPrd_bd hg hA hB
  have s2 := sStp_bd hg hA hB s1
  refine lv_aload_n hx hb dX0_update_0 rfl (lv_at hl 0 rfl) ?_
  refine lv_iload_n hx hb dX0_update_1 rfl (lv_at hl 1 rfl) ?_
  refine lv_iload_n hx hb dX0_update_2 rfl (lv_at hl 2 rfl) ?_
  refine rd_callV (As := [.int (zI (A : Int)), .int (zI (B : Int))]) (rest := []) ⟨hx, hb, hml, hown, hts⟩ (c_X0_predicted l dC dI cI cZ cS a g r hg A B (by omega) (by omega)) (cwV 2 hts gX0_update_X0_predicted rfl rfl rfl (by decide +kernel) ⟨Nat.le_of_ble_eq_true rfl, Nat.le_of_ble_eq_true rfl⟩) hP hK 0 rfl rfl rfl hl.1 rfl (Nat.le_of_ble_eq_true rfl) dX0_update_3 ⟨Nat.zero_le _, Nat.zero_le _⟩ ?_
  refine lv_istore_n (lv' := [(3, .int (zI (sPrd g A B))), (0, .ref (a 0)), (1, .int (zI (A : Int))), (2, .int (zI (B : Int)))]) hx hb dX0_update_6 rfl hl (by decide) rfl (fun ls hl => ?_)
  refine lv_aload_n hx hb dX0_update_7 rfl (lv_at hl 1 rfl) ?_
  refine lv_iload_n hx hb dX0_update_8 rfl (lv_at hl 2 rfl) ?_
  refine lv_iload_n hx hb dX0_update_9 rfl (lv_at hl 3 rfl) ?_
  refine lv_iload_n hx hb dX0_update_10 rfl (lv_at hl 0 rfl) ?_
  refine rd_callV (As := [.int (zI (A : Int)), .int (zI (B : Int)), .int (zI (sPrd g A B))]) (rest := []) ⟨hx, hb, hml, hown, hts⟩ (c_X0_stepOf l dC dI cI cZ cS a g r hg A B (by omega) (by omega) (sPrd g A B) (by omega)) (cwV 3 hts gX0_update_X0_stepOf rfl rfl rfl (by decide +kernel) ⟨Nat.le_of_ble_eq_true rfl, Nat.le_of_ble_eq_true rfl⟩) hP hK 0 rfl rfl rfl hl.1 rfl (Nat.le_of_ble_eq_true rfl) dX0_update_11 ⟨Nat.zero_le _, Nat.zero_le _⟩ ?_
  refine lv_istore (lv' := [(4, .int (zI (sStp g A B (sPrd g A B)))), (3, .int (zI (sPrd g A B))), (0, .ref (a 0)), (1, .int (zI (A : Int))), (2, .int (zI (B : Int)))]) hx hb dX0_update_14 hl (by decide) rfl (fun ls hl => ?_)
  refine lv_aload_n hx hb dX0_update_16 rfl (lv_at hl 2 rfl) ?_
  refine lv_iload_n hx hb dX0_update_17 rfl (lv_at hl 3 rfl) ?_
  refine lv_iload_n hx hb dX0_update_18 rfl (lv_at hl 4 rfl) ?_
  refine lv_iload hx hb dX0_update_19 (lv_at hl 0 rfl) ?_
  refine lv_iload_n hx hb dX0_update_21 rfl (lv_at hl 1 rfl) ?_
  refine rd_callV (As := [.int (zI (A : Int)), .int (zI (B : Int)), .int (zI (sStp g A B (sPrd g A B))), .int (zI (sPrd g A B))]) (rest := []) ⟨hx, hb, hml, hown, hts⟩ (c_X0_xAfter l dC dI cI cZ cS a g r hg A B (by omega) (by omega) (sStp g A B (sPrd g A B)) (sPrd g A B) (by omega) (by omega)) (cwV 4 hts gX0_update_X0_xAfter rfl rfl rfl (by decide +kernel) ⟨Nat.le_of_ble_eq_true rfl, Nat.le_of_ble_eq_true rfl⟩) hP hK 0 rfl rfl rfl hl.1 rfl (Nat.le_of_ble_eq_true rfl) dX0_update_22 ⟨Nat.zero_le _, Nat.zero_le _⟩ ?_
  refine lv_istore (lv' := [(5, .int (zI (sX g A B (sStp g A B (sPrd g A B)) (sPrd g A B)))), (4, .int (zI (sStp g A B (sPrd g A B)))), (3, .int (zI (sPrd g A B))), (0, .ref (a 0)), (1, .int (zI (A : Int))), (2, .int (zI (B : Int)))]) hx hb dX0_update_25 hl (by decide) rfl (fun ls hl => ?_)
  refine lv_aload_n hx hb dX0_update_27 rfl (lv_at hl 3 rfl) ?_
  refine lv_iload_n hx hb dX0_update_28 rfl (lv_at hl 4 rfl) ?_
  refine lv_iload_n hx hb dX0_update_29 rfl (lv_at hl 5 rfl) ?_
  refine lv_iload hx hb dX0_update_30 (lv_at hl 1 rfl) ?_
  refine lv_iload_n hx hb dX0_update_32 rfl (lv_at hl 2 rfl) ?_
  refine rd_callV (As := [.int (zI (A : Int)), .int (zI (B : Int)), .int (zI (sStp g A B (sPrd g A B))), .int (zI (sPrd g A B))]) (rest := []) ⟨hx, hb, hml, hown, hts⟩ (c_X0_yAfter l dC dI cI cZ cS a g r hg A B (by omega) (by omega) (sStp g A B (sPrd g A B)) (sPrd g A B) (by omega) (by omega)) (cwV 4 hts gX0_update_X0_yAfter rfl rfl rfl (by decide +kernel) ⟨Nat.le_of_ble_eq_true rfl, Nat.le_of_ble_eq_true rfl⟩) hP hK 0 rfl rfl rfl hl.1 rfl (Nat.le_of_ble_eq_true rfl) dX0_update_33 ⟨Nat.zero_le _, Nat.zero_le _⟩ ?_
  refine lv_istore (lv' := [(6, .int (zI (sY g A B (sStp g A B (sPrd g A B)) (sPrd g A B)))), (5, .int (zI (sX g A B (sStp g A B (sPrd g A B)) (sPrd g A B)))), (4, .int (zI (sStp g A B (sPrd g A B)))), (3, .int (zI (sPrd g A B))), (0, .ref (a 0)), (1, .int (zI (A : Int))), (2, .int (zI (B : Int)))]) hx hb dX0_update_36 hl (by decide) rfl (fun ls hl => ?_)
  refine lv_aload_n hx hb dX0_update_38 rfl (lv_at hl 4 rfl) ?_
  refine lv_iload_n hx hb dX0_update_39 rfl (lv_at hl 5 rfl) ?_
  refine lv_iload_n hx hb dX0_update_40 rfl (lv_at hl 6 rfl) ?_
  refine lv_iload hx hb dX0_update_41 (lv_at hl 2 rfl) ?_
  refine lv_iload_n hx hb dX0_update_43 rfl (lv_at hl 3 rfl) ?_
  refine rd_callV (As := [.int (zI (A : Int)), .int (zI (B : Int)), .int (zI (sStp g A B (sPrd g A B))), .int (zI (sPrd g A B))]) (rest := []) ⟨hx, hb, hml, hown, hts⟩ (c_X0_heightAfter l dC dI cI cZ cS a g r hg A B (by omega) (by omega) (sStp g A B (sPrd g A B)) (sPrd g A B) (by omega) (by omega)) (cwV 4 hts gX0_update_X0_heightAfter rfl rfl rfl (by decide +kernel) ⟨Nat.le_of_ble_eq_true rfl, Nat.le_of_ble_eq_true rfl⟩) hP hK 0 rfl rfl rfl hl.1 rfl (Nat.le_of_ble_eq_true rfl) dX0_update_44 ⟨Nat.zero_le _, Nat.zero_le _⟩ ?_
  refine lv_istore (lv' := [(7, .int (zI (sH g A B (sStp g A B (sPrd g A B)) (sPrd g A B)))), (6, .int (zI (sY g A B (sStp g A B (sPrd g A B)) (sPrd g A B)))), (5, .int (zI (sX g A B (sStp g A B (sPrd g A B)) (sPrd g A B)))), (4, .int (zI (sStp g A B (sPrd g A B)))), (3, .int (zI (sPrd g A B))), (0, .ref (a 0)), (1, .int (zI (A : Int))), (2, .int (zI (B : Int)))]) hx hb dX0_update_47 hl (by decide) rfl (fun ls hl => ?_)
  refine lv_aload_n hx hb dX0_update_49 rfl (lv_at hl 5 rfl) ?_
  refine lv_iload_n hx hb dX0_update_50 rfl (lv_at hl 6 rfl) ?_
  refine lv_iload hx hb dX0_update_51 (lv_at hl 2 rfl) ?_
  refine lv_iload hx hb dX0_update_53 (lv_at hl 1 rfl) ?_
  refine lv_iload hx hb dX0_update_55 (lv_at hl 0 rfl) ?_
  refine lv_aload_n hx hb dX0_update_57 rfl (lv_at hl 5 rfl) ?_
  refine lv_iload_n hx hb dX0_update_58 rfl (lv_at hl 6 rfl) ?_
  refine lv_iload_n hx hb dX0_update_59 rfl (lv_at hl 7 rfl) ?_
  refine lv_iload_n hx hb dX0_update_60 rfl (lv_at hl 4 rfl) ?_
  refine rd_callV (As := [.int (zI (A : Int)), .int (zI (B : Int)), .int (zI (sPrd g A B))]) (rest := [.int (zI (sH g A B (sStp g A B (sPrd g A B)) (sPrd g A B))), .int (zI (sY g A B (sStp g A B (sPrd g A B)) (sPrd g A B))), .int (zI (sX g A B (sStp g A B (sPrd g A B)) (sPrd g A B))), .int (zI (A : Int)), .ref (a 0)]) ⟨hx, hb, hml, hown, hts⟩ (c_X0_errorAfter l dC dI cI cZ cS a g r hg A B (by omega) (by omega) (sPrd g A B) (by omega) (by omega)) (cwV 3 hts gX0_update_X0_errorAfter rfl rfl rfl (by decide +kernel) ⟨Nat.le_of_ble_eq_true rfl, Nat.le_of_ble_eq_true rfl⟩) hP hK 0 rfl rfl rfl hl.1 rfl (Nat.le_of_ble_eq_true rfl) dX0_update_61 ⟨Nat.zero_le _, Nat.zero_le _⟩ ?_
  refine wr_callV (As := [.int (zI (A : Int)), .int (zI (sX g A B (sStp g A B (sPrd g A B)) (sPrd g A B))), .int (zI (sY g A B (sStp g A B (sPrd g A B)) (sPrd g A B))), .int (zI (sH g A B (sStp g A B (sPrd g A B)) (sPrd g A B))), .int (zI (sErr g A B (sPrd g A B)))]) (rest := []) ⟨hx, hb, hml, hown, hts⟩ (c_X0_settle l dC dI cI cZ cS a g A (sX g A B (sStp g A B (sPrd g A B)) (sPrd g A B)) (sY g A B (sStp g A B (sPrd g A B)) (sPrd g A B)) (sH g A B (sStp g A B (sPrd g A B)) (sPrd g A B)) (sErr g A B (sPrd g A B)) (by omega)) (cwV 5 hts gX0_update_X0_settle rfl rfl rfl (by decide +kernel) ⟨Nat.le_of_ble_eq_true rfl, Nat.le_of_ble_eq_true rfl⟩) hP hD hS hK 0 rfl rfl rfl hl.1 rfl (Nat.le_of_ble_eq_true rfl) dX0_update_64 ⟨Nat.zero_le _, Nat.zero_le _⟩ (fun H locs hP1 hk1 hS => ?_)
  have hP : va_P (dC, dI) vwCl (stw cI a (sSet g A (sX g A B (sStp g A B (sPrd g A B)) (sPrd g A B)) (sY g A B (sStp g A B (sPrd g A B)) (sPrd g A B)) (sH g A B (sStp g A B (sPrd g A B)) (sPrd g A B)) (sErr g A B (sPrd g A B)))) H := hP1
  have hD : va_D (wr_ad (stw cI a g)) (stw cI a (sSet g A (sX g A B (sStp g A B (sPrd g A B)) (sPrd g A B)) (sY g A B (sStp g A B (sPrd g A B)) (sPrd g A B)) (sH g A B (sStp g A B (sPrd g A B)) (sPrd g A B)) (sErr g A B (sPrd g A B)))) := va_D_adr hD rfl
  exact wr_vret hx hb hr hlocks hP hS dX0_update_67
set_option maxHeartbeats 4000000 in
set_option maxRecDepth 100000 in
/-- playRound -/
theorem c_X0_playRound (l : Launch) (dC : Nat → ClassId) (dI : Nat → Nat → Nat) (cI cZ cS : ClassId) (a : Nat → Nat) (g : Nat → Nat → Int) (r : Int) (hg : gB g r) (hr1 : r ≤ 2000000000) : Met l yX0_playRound wsX0_playRound ({ frames := 4, cells := 0, slots := 0, locals := 116 } : Room) (wr_Pc dC dI cI cZ cS (stw cI a g) [.ref (a 0)]) (wr_Qc dC dI (stw cI a g) (stw cI a (sRnd g)) (some (.int (zI (sRndC g))))) 0 0 (wr_ad (stw cI a g)) := by
  refine wr_met (cc := cX0_playRound) (maxL := 6) (ret := (some .int)) (by decide) rfl (Nat.le_of_ble_eq_true rfl) ?_
  intro p e s m below meth c ls hx hb hml hr hlocks hts hown hP hD hS hK hl
  have hl : lv_has ls 6 [(0, .ref (a 0))] := hl
  have hinX0 : ∀ w ∈ u_ws RX0 TX0 11, w ∈ wsX0_playRound := by decide +kernel
  have f_44 := hts (.fieldLink RX0 44 "NetworkCoordinates$State" "nodes" "I") (by decide +kernel)
  have f_47 := hts (.fieldLink RX0 47 "NetworkCoordinates$State" "round" "I") (by decide +kernel)
  have b0 := hg.1
  have hN := gN_eq hg
  have hsh := sShf_bd hg
  refine lv_aload_n hx hb dX0_playRound_0 rfl (lv_at hl 0 rfl) ?_
  refine va_get (D := (dC, dI)) (ci := 0) (v := .int (zI (g 0 0))) (C := RX0) (T := TX0) (N := 11) hx hb hts hinX0 hown hK.1 hP 0 rfl rfl 0 (by decide) f_44 (fun _ h9 => h9) rfl dX0_playRound_1 ?_
  refine zr_iconst hx hb dX0_playRound_4 ?_
  refine zr_isub hx hb dX0_playRound_5 ?_
  refine lv_istore_n (lv' := [(1, .int (zI (g 0 0 - 1))), (0, .ref (a 0))]) hx hb dX0_playRound_6 rfl hl (by decide) rfl (fun ls hl => ?_)
  refine lv_iload_n hx hb dX0_playRound_7 rfl (lv_at hl 0 rfl) ?_
  refine zr_iconst hx hb dX0_playRound_8 ?_
  refine zr_icmp_ge (tgt := 14) hx hb dX0_playRound_9 (by decide) (by omega) (by omega) (fun c_9 => ?_) (fun c_9 => absurd c_9 (by omega))
  refine zr_iconst hx hb dX0_playRound_14 ?_
  refine lv_aload_n hx hb dX0_playRound_15 rfl (lv_at hl 1 rfl) ?_
  refine va_get (D := (dC, dI)) (ci := 0) (v := .int (zI (g 0 1))) (C := RX0) (T := TX0) (N := 11) hx hb hts hinX0 hown hK.1 hP 0 rfl rfl 1 (by decide) f_47 (fun _ h9 => h9) rfl dX0_playRound_16 ?_
  refine lv_iload_n hx hb dX0_playRound_19 rfl (lv_at hl 0 rfl) ?_
  refine rd_callS (As := [.int (zI (g 0 1)), .int (zI (g 0 0 - 1))]) (rest := [.int (zI 1)]) ⟨hx, hb, hml, hown, hts⟩ (c_J9_floorMod_7cf53 l dC dI cI cZ cS (g 0 1) (g 0 0 - 1) (by omega) (by omega)) (va_cwS 2 hts gX0_playRound_J9_floorMod_7cf53 rfl rfl rfl (by decide +kernel) ⟨Nat.le_of_ble_eq_true rfl, Nat.le_of_ble_eq_true rfl⟩) va_P_nil hK rfl hl.1 rfl (Nat.le_of_ble_eq_true rfl) dX0_playRound_20 ⟨Nat.zero_le _, Nat.zero_le _⟩ ?_
  refine zr_iadd hx hb dX0_playRound_23 ?_
  refine zr_topI ((1 + sShf g : Nat) : Int) (by omega) ?_
  refine lv_istore_n (lv' := [(2, .int (zI ((1 + sShf g : Nat) : Int))), (1, .int (zI (g 0 0 - 1))), (0, .ref (a 0))]) hx hb dX0_playRound_24 rfl hl (by decide) rfl (fun ls hl => ?_)
  refine zr_iconst hx hb dX0_playRound_25 ?_
  refine lv_istore_n (lv' := [(3, .int (zI 0)), (2, .int (zI ((1 + sShf g : Nat) : Int))), (1, .int (zI (g 0 0 - 1))), (0, .ref (a 0))]) hx hb dX0_playRound_26 rfl hl (by decide) rfl (fun ls hl => ?_)
  refine zr_iconst hx hb dX0_playRound_27 ?_
  refine lv_istore (lv' := [(4, .int (zI 0)), (3, .int (zI 0)), (2, .int (zI ((1 + sShf g : Nat) : Int))), (1, .int (zI (g 0 0 - 1))), (0, .ref (a 0))]) hx hb dX0_playRound_28 hl (by decide) rfl (fun ls hl => ?_)
  have loop : ∀ (k_loop i : Nat), i + k_loop = gN g → ∀ G : Nat → Nat → Int, G = sRow (gN g) (sShf g) g i → ∀ (H : Heap) (locs : List Loc), va_P (dC, dI) vwCl (stw cI a G) H → va_D (wr_ad (stw cI a g)) (stw cI a G) → va_S (wr_ad (stw cI a g)) s.heap H locs → ∀ ls : Array Slot, lv_has ls 6 [(4, .int (zI (i : Int))), (3, .int (zI (sCnt (gN g) (sShf g) g i))), (2, .int (zI ((1 + sShf g : Nat) : Int))), (0, .ref (a 0))] → W p l e ({ frames := 4, cells := 0, slots := 0, locals := 116 } : Room) s m [.ref (a 0)].toArray below meth c H locs 0 0 (MQ below (wr_Qc dC dI (stw cI a g) (stw cI a (sRnd g)) (some (.int (zI (sRndC g))))) [.ref (a 0)].toArray s 0 0 (wr_ad (stw cI a g))) (F0 m 30 ls []) := by
    intro k_loop
    induction k_loop with
    | zero =>
      intro i hi G hG H locs hP hD hS ls hl
      obtain ⟨hGB, hG0, hG5, hG6⟩ := sRow_inv hg hN.2.2 hsh.1 i (by omega)
      rw [← hG] at hGB hG0 hG5 hG6
      have e0 : G 0 0 = g 0 0 := by rw [hG0]
      have e1 : G 0 1 = g 0 1 := by rw [hG0]
      refine lv_iload hx hb dX0_playRound_30 (lv_at hl 0 rfl) ?_
      refine lv_aload_n hx hb dX0_playRound_32 rfl (lv_at hl 3 rfl) ?_
      refine va_get (D := (dC, dI)) (ci := 0) (v := .int (zI (G 0 0))) (C := RX0) (T := TX0) (N := 11) hx hb hts hinX0 hown hK.1 hP 0 rfl rfl 0 (by decide) f_44 (fun _ h9 => h9) rfl dX0_playRound_33 ?_
      refine zr_icmp_ge (tgt := 96) hx hb dX0_playRound_36 (by decide) (by omega) (by omega) (fun c_36 => ?_) (fun c_36 => absurd c_36 (by omega))
      refine lv_aload_n hx hb dX0_playRound_96 rfl (lv_at hl 3 rfl) ?_
      refine lv_dup hx hb dX0_playRound_97 rfl ?_
      refine va_get (D := (dC, dI)) (ci := 0) (v := .int (zI (G 0 1))) (C := RX0) (T := TX0) (N := 11) hx hb hts hinX0 hown hK.1 hP 0 rfl rfl 1 (by decide) f_47 (fun _ h9 => h9) rfl dX0_playRound_98 ?_
      refine zr_iconst hx hb dX0_playRound_101 ?_
      refine zr_iadd hx hb dX0_playRound_102 ?_
      refine zr_topI (g 0 1 + 1) (by rw [e1]) ?_
      refine va_put (D := (dC, dI)) (ci := 0) (v := .int (zI (g 0 1 + 1))) (ty := .int) (C := RX0) (T := TX0) (N := 11) hx hb hts hinX0 tyX0 tyX0_ok nmX0 hown hK.1 hP hD hS 0 rfl rfl 1 (by decide) f_47 (fun _ h9 => h9) rfl (by decide +kernel) rfl rfl (Nat.le_of_ble_eq_true rfl) dX0_playRound_103 (fun H locs hP hD hS => ?_)
      refine lv_iload_n hx hb dX0_playRound_106 rfl (lv_at hl 1 rfl) ?_
      have hi2 : i = gN g := by omega
      subst hi2
      subst hG
      exact wr_iret hx hb hr hlocks (show va_P (dC, dI) vwCl (stw cI a (sRnd g)) H from hP) hS rfl dX0_playRound_107
    | succ k_loop ih_loop =>
      intro i hi G hG H locs hP hD hS ls hl
      obtain ⟨hGB, hG0, hG5, hG6⟩ := sRow_inv hg hN.2.2 hsh.1 i (by omega)
      rw [← hG] at hGB hG0 hG5 hG6
      have e0 : G 0 0 = g 0 0 := by rw [hG0]
      have e1 : G 0 1 = g 0 1 := by rw [hG0]
      have hbd := sB_bd (n := gN g) (sh := sShf g) (i := i) (by omega) hsh.1
      refine lv_iload hx hb dX0_playRound_30 (lv_at hl 0 rfl) ?_
      refine lv_aload_n hx hb dX0_playRound_32 rfl (lv_at hl 3 rfl) ?_
      refine va_get (D := (dC, dI)) (ci := 0) (v := .int (zI (G 0 0))) (C := RX0) (T := TX0) (N := 11) hx hb hts hinX0 hown hK.1 hP 0 rfl rfl 0 (by decide) f_44 (fun _ h9 => h9) rfl dX0_playRound_33 ?_
      refine zr_icmp_ge (tgt := 96) hx hb dX0_playRound_36 (by decide) (by omega) (by omega) (fun c_36 => absurd c_36 (by omega)) (fun c_36 => ?_)
      refine lv_iload hx hb dX0_playRound_39 (lv_at hl 0 rfl) ?_
      refine lv_iload_n hx hb dX0_playRound_41 rfl (lv_at hl 2 rfl) ?_
      refine zr_iadd hx hb dX0_playRound_42 ?_
      refine lv_aload_n hx hb dX0_playRound_43 rfl (lv_at hl 3 rfl) ?_
      refine va_get (D := (dC, dI)) (ci := 0) (v := .int (zI (G 0 0))) (C := RX0) (T := TX0) (N := 11) hx hb hts hinX0 hown hK.1 hP 0 rfl rfl 0 (by decide) f_44 (fun _ h9 => h9) rfl dX0_playRound_44 ?_
      refine zr_icmp_ge (tgt := 57) hx hb dX0_playRound_47 (by decide) (by omega) (by omega) (fun c_47 => ?_) (fun c_47 => ?_)
      · refine lv_iload hx hb dX0_playRound_57 (lv_at hl 0 rfl) ?_
        refine lv_iload_n hx hb dX0_playRound_59 rfl (lv_at hl 2 rfl) ?_
        refine zr_iadd hx hb dX0_playRound_60 ?_
        refine lv_aload_n hx hb dX0_playRound_61 rfl (lv_at hl 3 rfl) ?_
        refine va_get (D := (dC, dI)) (ci := 0) (v := .int (zI (G 0 0))) (C := RX0) (T := TX0) (N := 11) hx hb hts hinX0 hown hK.1 hP 0 rfl rfl 0 (by decide) f_44 (fun _ h9 => h9) rfl dX0_playRound_62 ?_
        refine zr_isub hx hb dX0_playRound_65 ?_
        refine zr_topI ((sB (gN g) (sShf g) i : Nat) : Int) (by unfold sB; rw [if_neg (by omega)]; omega) ?_
        refine lv_istore (lv' := [(5, .int (zI ((sB (gN g) (sShf g) i : Nat) : Int))), (4, .int (zI (i : Int))), (3, .int (zI (sCnt (gN g) (sShf g) g i))), (2, .int (zI ((1 + sShf g : Nat) : Int))), (0, .ref (a 0))]) hx hb dX0_playRound_66 hl (by decide) rfl (fun ls hl => ?_)
        refine lv_aload_n hx hb dX0_playRound_68 rfl (lv_at hl 4 rfl) ?_
        refine lv_iload hx hb dX0_playRound_69 (lv_at hl 1 rfl) ?_
        refine lv_iload hx hb dX0_playRound_71 (lv_at hl 0 rfl) ?_
        refine rd_callV (As := [.int (zI (i : Int)), .int (zI ((sB (gN g) (sShf g) i : Nat) : Int))]) (rest := []) ⟨hx, hb, hml, hown, hts⟩ (c_X0_isKnown l dC dI cI cZ cS a G r hGB i (sB (gN g) (sShf g) i) (by omega) (by omega)) (cwV 2 hts gX0_playRound_X0_isKnown rfl rfl rfl (by decide +kernel) ⟨Nat.le_of_ble_eq_true rfl, Nat.le_of_ble_eq_true rfl⟩) hP hK 0 rfl rfl rfl hl.1 rfl (Nat.le_of_ble_eq_true rfl) dX0_playRound_73 ⟨Nat.zero_le _, Nat.zero_le _⟩ ?_
        refine zr_bif_eq (tgt := 90) hx hb dX0_playRound_76 (by decide) (fun c_76 => ?_) (fun c_76 => ?_)
        · rw [hG6] at c_76
          have hl : lv_has ls 6 [(5, .int (zI ((sB (gN g) (sShf g) i : Nat) : Int))), (4, .int (zI (i : Int))), (3, .int (zI (sCnt (gN g) (sShf g) g (i + 1)))), (2, .int (zI ((1 + sShf g : Nat) : Int))), (0, .ref (a 0))] := by rw [show sCnt (gN g) (sShf g) g (i + 1) = sCnt (gN g) (sShf g) g i from by unfold sCnt; rw [sm_succ, if_neg c_76]; omega]; exact hl
          refine zr_iinc (b := ((i + 1 : Nat) : Int)) (lv' := [(4, .int (zI ((i + 1 : Nat) : Int))), (5, .int (zI ((sB (gN g) (sShf g) i : Nat) : Int))), (3, .int (zI (sCnt (gN g) (sShf g) g (i + 1)))), (2, .int (zI ((1 + sShf g : Nat) : Int))), (0, .ref (a 0))]) hx hb dX0_playRound_90 hl (k := 1) rfl (by omega) (by decide) rfl (fun ls hl => ?_)
          refine lv_goto (tgt := 30) hx hb dX0_playRound_93 (by decide) ?_
          exact ih_loop (i + 1) (by omega) G (by rw [hG]; exact (if_neg c_76).symm) H locs hP hD hS ls (lv_sub hl [0, 2, 3, 4] rfl)
        · have c_76g : 1 ≤ g 6 (10 * i + sB (gN g) (sShf g) i) := by rw [← hG6]; exact c_76
          refine lv_aload_n hx hb dX0_playRound_79 rfl (lv_at hl 4 rfl) ?_
          refine lv_iload hx hb dX0_playRound_80 (lv_at hl 1 rfl) ?_
          refine lv_iload hx hb dX0_playRound_82 (lv_at hl 0 rfl) ?_
          refine wr_callV (As := [.int (zI (i : Int)), .int (zI ((sB (gN g) (sShf g) i : Nat) : Int))]) (rest := []) ⟨hx, hb, hml, hown, hts⟩ (c_X0_update l dC dI cI cZ cS a G r hGB i (sB (gN g) (sShf g) i) (by omega) (by omega) c_76) (cwV 2 hts gX0_playRound_X0_update rfl rfl rfl (by decide +kernel) ⟨Nat.le_of_ble_eq_true rfl, Nat.le_of_ble_eq_true rfl⟩) hP hD hS hK 0 rfl rfl rfl hl.1 rfl (Nat.le_of_ble_eq_true rfl) dX0_playRound_84 ⟨Nat.zero_le _, Nat.zero_le _⟩ (fun H locs hP1 hk1 hS => ?_)
          have hP : va_P (dC, dI) vwCl (stw cI a (sUpd G i (sB (gN g) (sShf g) i))) H := hP1
          have hD : va_D (wr_ad (stw cI a g)) (stw cI a (sUpd G i (sB (gN g) (sShf g) i))) := va_D_adr hD rfl
          refine zr_iinc (b := (sCnt (gN g) (sShf g) g (i + 1))) (lv' := [(3, .int (zI (sCnt (gN g) (sShf g) g (i + 1)))), (5, .int (zI ((sB (gN g) (sShf g) i : Nat) : Int))), (4, .int (zI (i : Int))), (2, .int (zI ((1 + sShf g : Nat) : Int))), (0, .ref (a 0))]) hx hb dX0_playRound_87 hl (k := 2) rfl (by unfold sCnt; rw [sm_succ, if_pos c_76g]) (by decide) rfl (fun ls hl => ?_)
          refine zr_iinc (b := ((i + 1 : Nat) : Int)) (lv' := [(4, .int (zI ((i + 1 : Nat) : Int))), (3, .int (zI (sCnt (gN g) (sShf g) g (i + 1)))), (5, .int (zI ((sB (gN g) (sShf g) i : Nat) : Int))), (2, .int (zI ((1 + sShf g : Nat) : Int))), (0, .ref (a 0))]) hx hb dX0_playRound_90 hl (k := 2) rfl (by omega) (by decide) rfl (fun ls hl => ?_)
          refine lv_goto (tgt := 30) hx hb dX0_playRound_93 (by decide) ?_
          exact ih_loop (i + 1) (by omega) (sUpd G i (sB (gN g) (sShf g) i)) (by rw [hG]; exact (if_pos c_76g).symm) H locs hP hD hS ls (lv_sub hl [0, 1, 3, 4] rfl)
      · refine lv_iload hx hb dX0_playRound_50 (lv_at hl 0 rfl) ?_
        refine lv_iload_n hx hb dX0_playRound_52 rfl (lv_at hl 2 rfl) ?_
        refine zr_iadd hx hb dX0_playRound_53 ?_
        refine zr_topI ((sB (gN g) (sShf g) i : Nat) : Int) (by unfold sB; rw [if_pos (by omega)]; omega) ?_
        refine lv_goto (tgt := 66) hx hb dX0_playRound_54 (by decide) ?_
        refine lv_istore (lv' := [(5, .int (zI ((sB (gN g) (sShf g) i : Nat) : Int))), (4, .int (zI (i : Int))), (3, .int (zI (sCnt (gN g) (sShf g) g i))), (2, .int (zI ((1 + sShf g : Nat) : Int))), (0, .ref (a 0))]) hx hb dX0_playRound_66 hl (by decide) rfl (fun ls hl => ?_)
        refine lv_aload_n hx hb dX0_playRound_68 rfl (lv_at hl 4 rfl) ?_
        refine lv_iload hx hb dX0_playRound_69 (lv_at hl 1 rfl) ?_
        refine lv_iload hx hb dX0_playRound_71 (lv_at hl 0 rfl) ?_
        refine rd_callV (As := [.int (zI (i : Int)), .int (zI ((sB (gN g) (sShf g) i : Nat) : Int))]) (rest := []) ⟨hx, hb, hml, hown, hts⟩ (c_X0_isKnown l dC dI cI cZ cS a G r hGB i (sB (gN g) (sShf g) i) (by omega) (by omega)) (cwV 2 hts gX0_playRound_X0_isKnown rfl rfl rfl (by decide +kernel) ⟨Nat.le_of_ble_eq_true rfl, Nat.le_of_ble_eq_true rfl⟩) hP hK 0 rfl rfl rfl hl.1 rfl (Nat.le_of_ble_eq_true rfl) dX0_playRound_73 ⟨Nat.zero_le _, Nat.zero_le _⟩ ?_
        refine zr_bif_eq (tgt := 90) hx hb dX0_playRound_76 (by decide) (fun c_76 => ?_) (fun c_76 => ?_)
        · rw [hG6] at c_76
          have hl : lv_has ls 6 [(5, .int (zI ((sB (gN g) (sShf g) i : Nat) : Int))), (4, .int (zI (i : Int))), (3, .int (zI (sCnt (gN g) (sShf g) g (i + 1)))), (2, .int (zI ((1 + sShf g : Nat) : Int))), (0, .ref (a 0))] := by rw [show sCnt (gN g) (sShf g) g (i + 1) = sCnt (gN g) (sShf g) g i from by unfold sCnt; rw [sm_succ, if_neg c_76]; omega]; exact hl
          refine zr_iinc (b := ((i + 1 : Nat) : Int)) (lv' := [(4, .int (zI ((i + 1 : Nat) : Int))), (5, .int (zI ((sB (gN g) (sShf g) i : Nat) : Int))), (3, .int (zI (sCnt (gN g) (sShf g) g (i + 1)))), (2, .int (zI ((1 + sShf g : Nat) : Int))), (0, .ref (a 0))]) hx hb dX0_playRound_90 hl (k := 1) rfl (by omega) (by decide) rfl (fun ls hl => ?_)
          refine lv_goto (tgt := 30) hx hb dX0_playRound_93 (by decide) ?_
          exact ih_loop (i + 1) (by omega) G (by rw [hG]; exact (if_neg c_76).symm) H locs hP hD hS ls (lv_sub hl [0, 2, 3, 4] rfl)
        · have c_76g : 1 ≤ g 6 (10 * i + sB (gN g) (sShf g) i) := by rw [← hG6]; exact c_76
          refine lv_aload_n hx hb dX0_playRound_79 rfl (lv_at hl 4 rfl) ?_
          refine lv_iload hx hb dX0_playRound_80 (lv_at hl 1 rfl) ?_
          refine lv_iload hx hb dX0_playRound_82 (lv_at hl 0 rfl) ?_
          refine wr_callV (As := [.int (zI (i : Int)), .int (zI ((sB (gN g) (sShf g) i : Nat) : Int))]) (rest := []) ⟨hx, hb, hml, hown, hts⟩ (c_X0_update l dC dI cI cZ cS a G r hGB i (sB (gN g) (sShf g) i) (by omega) (by omega) c_76) (cwV 2 hts gX0_playRound_X0_update rfl rfl rfl (by decide +kernel) ⟨Nat.le_of_ble_eq_true rfl, Nat.le_of_ble_eq_true rfl⟩) hP hD hS hK 0 rfl rfl rfl hl.1 rfl (Nat.le_of_ble_eq_true rfl) dX0_playRound_84 ⟨Nat.zero_le _, Nat.zero_le _⟩ (fun H locs hP1 hk1 hS => ?_)
          have hP : va_P (dC, dI) vwCl (stw cI a (sUpd G i (sB (gN g) (sShf g) i))) H := hP1
          have hD : va_D (wr_ad (stw cI a g)) (stw cI a (sUpd G i (sB (gN g) (sShf g) i))) := va_D_adr hD rfl
          refine zr_iinc (b := (sCnt (gN g) (sShf g) g (i + 1))) (lv' := [(3, .int (zI (sCnt (gN g) (sShf g) g (i + 1)))), (5, .int (zI ((sB (gN g) (sShf g) i : Nat) : Int))), (4, .int (zI (i : Int))), (2, .int (zI ((1 + sShf g : Nat) : Int))), (0, .ref (a 0))]) hx hb dX0_playRound_87 hl (k := 2) rfl (by unfold sCnt; rw [sm_succ, if_pos c_76g]) (by decide) rfl (fun ls hl => ?_)
          refine zr_iinc (b := ((i + 1 : Nat) : Int)) (lv' := [(4, .int (zI ((i + 1 : Nat) : Int))), (3, .int (zI (sCnt (gN g) (sShf g) g (i + 1)))), (5, .int (zI ((sB (gN g) (sShf g) i : Nat) : Int))), (2, .int (zI ((1 + sShf g : Nat) : Int))), (0, .ref (a 0))]) hx hb dX0_playRound_90 hl (k := 2) rfl (by omega) (by decide) rfl (fun ls hl => ?_)
          refine lv_goto (tgt := 30) hx hb dX0_playRound_93 (by decide) ?_
          exact ih_loop (i + 1) (by omega) (sUpd G i (sB (gN g) (sShf g) i)) (by rw [hG]; exact (if_pos c_76g).symm) H locs hP hD hS ls (lv_sub hl [0, 1, 3, 4] rfl)
  exact loop (gN g) 0 (by omega) g rfl s.heap [] hP hD hS ls (lv_sub hl [0, 1, 2, 4] rfl)
set_option maxHeartbeats 4000000 in
set_option maxRecDepth 100000 in
/-- begin -/
theorem c_X0_begin (l : Launch) (dC : Nat → ClassId) (dI : Nat → Nat → Nat) (cI cZ cS : ClassId) (a : Nat → Nat) (g : Nat → Nat → Int) (n : Int) : Met l yX0_begin wsX0_begin ({ frames := 1, cells := 0, slots := 0, locals := 25 } : Room) (wr_Pc dC dI cI cZ cS (stw cI a g) [.ref (a 0), .int (zI n)]) (wr_Qc dC dI (stw cI a g) (stw cI a (sBeg g n)) none) 0 0 (wr_ad (stw cI a g)) := by
  refine wr_met (cc := cX0_begin) (maxL := 3) (ret := none) (by decide) rfl (Nat.le_of_ble_eq_true rfl) ?_
  intro p e s m below meth c ls hx hb hml hr hlocks hts hown hP hD hS hK hl
  have hl : lv_has ls 3 [(0, .ref (a 0)), (1, .int (zI n))] := hl
  have hinX0 : ∀ w ∈ u_ws RX0 TX0 11, w ∈ wsX0_begin := by decide +kernel
  have f_44 := hts (.fieldLink RX0 44 "NetworkCoordinates$State" "nodes" "I") (by decide +kernel)
  have f_47 := hts (.fieldLink RX0 47 "NetworkCoordinates$State" "round" "I") (by decide +kernel)
  have f_37 := hts (.fieldLink RX0 37 "NetworkCoordinates$State" "rtts" "[I") (by decide +kernel)
  have f_34 := hts (.fieldLink RX0 34 "NetworkCoordinates$State" "lies" "[I") (by decide +kernel)
  refine lv_aload_n hx hb dX0_begin_0 rfl (lv_at hl 0 rfl) ?_
  refine lv_iload_n hx hb dX0_begin_1 rfl (lv_at hl 1 rfl) ?_
  refine va_put (D := (dC, dI)) (ci := 0) (v := .int (zI n)) (ty := .int) (C := RX0) (T := TX0) (N := 11) hx hb hts hinX0 tyX0 tyX0_ok nmX0 hown hK.1 hP hD hS 0 rfl rfl 0 (by decide) f_44 (fun _ h9 => h9) rfl (by decide +kernel) rfl rfl (Nat.le_of_ble_eq_true rfl) dX0_begin_2 (fun H locs hP hD hS => ?_)
  refine lv_aload_n hx hb dX0_begin_5 rfl (lv_at hl 0 rfl) ?_
  refine zr_iconst hx hb dX0_begin_6 ?_
  refine va_put (D := (dC, dI)) (ci := 0) (v := .int (zI 0)) (ty := .int) (C := RX0) (T := TX0) (N := 11) hx hb hts hinX0 tyX0 tyX0_ok nmX0 hown hK.1 hP hD hS 0 rfl rfl 1 (by decide) f_47 (fun _ h9 => h9) rfl (by decide +kernel) rfl rfl (Nat.le_of_ble_eq_true rfl) dX0_begin_7 (fun H locs hP hD hS => ?_)
  have hP : va_P (dC, dI) vwCl (stw cI a (sBg g n 0 0)) H := by rw [stw_congr (g1 := sBg g n 0 0) (g2 := fun q => match q with | 0 => zset (zset (g 0) 0 n) 1 0 | q + 1 => g (q + 1)) rfl (zfil_0 _ _) (zfil_0 _ _) (zfil_0 _ _) (zfil_0 _ _) (zfil_0 _ _) (zfil_0 _ _)]; exact hP
  have hD : va_D (wr_ad (stw cI a g)) (stw cI a (sBg g n 0 0)) := va_D_adr hD rfl
  refine zr_iconst hx hb dX0_begin_10 ?_
  refine lv_istore_n (lv' := [(2, .int (zI 0)), (0, .ref (a 0)), (1, .int (zI n))]) hx hb dX0_begin_11 rfl hl (by decide) rfl (fun ls hl => ?_)
  have loop2 : ∀ (k_loop i : Nat), i + k_loop = 100 → ∀ (H : Heap) (locs : List Loc), va_P (dC, dI) vwCl (stw cI a (sBg g n 10 i)) H → va_D (wr_ad (stw cI a g)) (stw cI a (sBg g n 10 i)) → va_S (wr_ad (stw cI a g)) s.heap H locs → ∀ ls : Array Slot, lv_has ls 3 [(2, .int (zI (i : Int))), (0, .ref (a 0)), (1, .int (zI n))] → W p l e ({ frames := 1, cells := 0, slots := 0, locals := 25 } : Room) s m [.ref (a 0), .int (zI n)].toArray below meth c H locs 0 0 (MQ below (wr_Qc dC dI (stw cI a g) (stw cI a (sBeg g n)) none) [.ref (a 0), .int (zI n)].toArray s 0 0 (wr_ad (stw cI a g))) (F0 m 44 ls []) := by
    intro k_loop
    induction k_loop with
    | zero =>
      intro i hi H locs hP hD hS ls hl
      refine lv_iload_n hx hb dX0_begin_44 rfl (lv_at hl 0 rfl) ?_
      refine lv_aload_n hx hb dX0_begin_45 rfl (lv_at hl 1 rfl) ?_
      refine va_get (D := (dC, dI)) (ci := 0) (v := .ref (a 6)) (C := RX0) (T := TX0) (N := 11) hx hb hts hinX0 hown hK.1 hP 0 rfl rfl 10 (by decide) f_37 (fun _ h9 => h9) rfl dX0_begin_46 ?_
      refine va_alen (v := zI 100) hx hb hK.1 hP 6 0 rfl rfl (show Int32.ofNat 100 = zI 100 by decide) dX0_begin_49 ?_
      refine zr_icmp_ge (tgt := 66) hx hb dX0_begin_50 (by decide) (by omega) (by omega) (fun c_50 => ?_) (fun c_50 => absurd c_50 (by omega))
      exact wr_vret hx hb hr hlocks (show va_P (dC, dI) vwCl (stw cI a (sBeg g n)) H by rw [show i = 100 by omega] at hP; exact hP) hS dX0_begin_66
    | succ k_loop ih_loop =>
      intro i hi H locs hP hD hS ls hl
      refine lv_iload_n hx hb dX0_begin_44 rfl (lv_at hl 0 rfl) ?_
      refine lv_aload_n hx hb dX0_begin_45 rfl (lv_at hl 1 rfl) ?_
      refine va_get (D := (dC, dI)) (ci := 0) (v := .ref (a 6)) (C := RX0) (T := TX0) (N := 11) hx hb hts hinX0 hown hK.1 hP 0 rfl rfl 10 (by decide) f_37 (fun _ h9 => h9) rfl dX0_begin_46 ?_
      refine va_alen (v := zI 100) hx hb hK.1 hP 6 0 rfl rfl (show Int32.ofNat 100 = zI 100 by decide) dX0_begin_49 ?_
      refine zr_icmp_ge (tgt := 66) hx hb dX0_begin_50 (by decide) (by omega) (by omega) (fun c_50 => absurd c_50 (by omega)) (fun c_50 => ?_)
      refine lv_aload_n hx hb dX0_begin_53 rfl (lv_at hl 1 rfl) ?_
      refine va_get (D := (dC, dI)) (ci := 0) (v := .ref (a 6)) (C := RX0) (T := TX0) (N := 11) hx hb hts hinX0 hown hK.1 hP 0 rfl rfl 10 (by decide) f_37 (fun _ h9 => h9) rfl dX0_begin_54 ?_
      refine lv_iload_n hx hb dX0_begin_57 rfl (lv_at hl 0 rfl) ?_
      refine zr_iconst hx hb dX0_begin_58 ?_
      refine zr_iast hx hb hK.1 hP hD hS 6 0 rfl rfl i (sBg g n 10 (i + 1) 6) (by omega) (by omega) (Nat.le_of_ble_eq_true rfl) (zfil_step _ _ _) dX0_begin_59 (fun H locs hP hD hS => ?_)
      refine zr_iinc (b := ((i + 1 : Nat) : Int)) (lv' := [(2, .int (zI ((i + 1 : Nat) : Int))), (0, .ref (a 0)), (1, .int (zI n))]) hx hb dX0_begin_60 hl (k := 0) rfl (by omega) (by decide) rfl (fun ls hl => ?_)
      refine lv_goto (tgt := 44) hx hb dX0_begin_63 (by decide) ?_
      exact ih_loop (i + 1) (by omega) H locs hP (va_D_adr hD rfl) hS ls (lv_sub hl [0, 1, 2] rfl)
  have loop1 : ∀ (k_loop i : Nat), i + k_loop = 10 → ∀ (H : Heap) (locs : List Loc), va_P (dC, dI) vwCl (stw cI a (sBg g n i 0)) H → va_D (wr_ad (stw cI a g)) (stw cI a (sBg g n i 0)) → va_S (wr_ad (stw cI a g)) s.heap H locs → ∀ ls : Array Slot, lv_has ls 3 [(2, .int (zI (i : Int))), (0, .ref (a 0)), (1, .int (zI n))] → W p l e ({ frames := 1, cells := 0, slots := 0, locals := 25 } : Room) s m [.ref (a 0), .int (zI n)].toArray below meth c H locs 0 0 (MQ below (wr_Qc dC dI (stw cI a g) (stw cI a (sBeg g n)) none) [.ref (a 0), .int (zI n)].toArray s 0 0 (wr_ad (stw cI a g))) (F0 m 12 ls []) := by
    intro k_loop
    induction k_loop with
    | zero =>
      intro i hi H locs hP hD hS ls hl
      refine lv_iload_n hx hb dX0_begin_12 rfl (lv_at hl 0 rfl) ?_
      refine zr_bipush hx hb dX0_begin_13 (by decide) ?_
      refine zr_icmp_ge (tgt := 42) hx hb dX0_begin_15 (by decide) (by omega) (by omega) (fun c_15 => ?_) (fun c_15 => absurd c_15 (by omega))
      refine zr_iconst hx hb dX0_begin_42 ?_
      refine lv_istore_n (lv' := [(2, .int (zI 0)), (0, .ref (a 0)), (1, .int (zI n))]) hx hb dX0_begin_43 rfl hl (by decide) rfl (fun ls hl => ?_)
      rw [show i = 10 by omega] at hP hD
      exact loop2 100 0 (by omega) H locs hP hD hS ls (lv_sub hl [0, 1, 2] rfl)
    | succ k_loop ih_loop =>
      intro i hi H locs hP hD hS ls hl
      refine lv_iload_n hx hb dX0_begin_12 rfl (lv_at hl 0 rfl) ?_
      refine zr_bipush hx hb dX0_begin_13 (by decide) ?_
      refine zr_icmp_ge (tgt := 42) hx hb dX0_begin_15 (by decide) (by omega) (by omega) (fun c_15 => absurd c_15 (by omega)) (fun c_15 => ?_)
      refine lv_aload_n hx hb dX0_begin_18 rfl (lv_at hl 1 rfl) ?_
      refine lv_iload_n hx hb dX0_begin_19 rfl (lv_at hl 0 rfl) ?_
      refine zr_iconst hx hb dX0_begin_20 ?_
      refine zr_iconst hx hb dX0_begin_21 ?_
      refine zr_iconst hx hb dX0_begin_22 ?_
      refine zr_sipush hx hb dX0_begin_23 (by decide) ?_
      refine wr_callV (As := [.int (zI (i : Int)), .int (zI 0), .int (zI 0), .int (zI 0), .int (zI 1000)]) (rest := []) ⟨hx, hb, hml, hown, hts⟩ (c_X0_settle l dC dI cI cZ cS a (sBg g n i 0) i 0 0 0 1000 (by omega)) (cwV 5 hts gX0_begin_X0_settle rfl rfl rfl (by decide +kernel) ⟨Nat.le_of_ble_eq_true rfl, Nat.le_of_ble_eq_true rfl⟩) hP hD hS hK 0 rfl rfl rfl hl.1 rfl (Nat.le_of_ble_eq_true rfl) dX0_begin_26 ⟨Nat.zero_le _, Nat.zero_le _⟩ (fun H locs hP1 hk1 hS => ?_)
      have hP : va_P (dC, dI) vwCl (stw cI a (sSet (sBg g n i 0) i 0 0 0 1000)) H := hP1
      have hD : va_D (wr_ad (stw cI a g)) (stw cI a (sSet (sBg g n i 0) i 0 0 0 1000)) := va_D_adr hD rfl
      refine lv_aload_n hx hb dX0_begin_29 rfl (lv_at hl 1 rfl) ?_
      refine va_get (D := (dC, dI)) (ci := 0) (v := .ref (a 5)) (C := RX0) (T := TX0) (N := 11) hx hb hts hinX0 hown hK.1 hP 0 rfl rfl 9 (by decide) f_34 (fun _ h9 => h9) rfl dX0_begin_30 ?_
      refine lv_iload_n hx hb dX0_begin_33 rfl (lv_at hl 0 rfl) ?_
      refine zr_iconst hx hb dX0_begin_34 ?_
      refine zr_iast hx hb hK.1 hP hD hS 5 0 rfl rfl i (zset ((sSet (sBg g n i 0) i 0 0 0 1000) 5) i 0) (by omega) (by omega) (Nat.le_of_ble_eq_true rfl) rfl dX0_begin_35 (fun H locs hP hD hS => ?_)
      refine zr_iinc (b := ((i + 1 : Nat) : Int)) (lv' := [(2, .int (zI ((i + 1 : Nat) : Int))), (0, .ref (a 0)), (1, .int (zI n))]) hx hb dX0_begin_36 hl (k := 0) rfl (by omega) (by decide) rfl (fun ls hl => ?_)
      refine lv_goto (tgt := 12) hx hb dX0_begin_39 (by decide) ?_
      have hP : va_P (dC, dI) vwCl (stw cI a (sBg g n (i + 1) 0)) H := by rw [stw_congr (g1 := sBg g n (i + 1) 0) (g2 := gset (sSet (sBg g n i 0) i 0 0 0 1000) 5 i 0) rfl (zfil_step _ _ _).symm (zfil_step _ _ _).symm (zfil_step _ _ _).symm (zfil_step _ _ _).symm (zfil_step _ _ _).symm rfl]; exact hP
      exact ih_loop (i + 1) (by omega) H locs hP (va_D_adr hD rfl) hS ls (lv_sub hl [0, 1, 2] rfl)
  exact loop1 10 0 (by omega) H locs hP hD hS ls (lv_sub hl [0, 1, 2] rfl)
set_option maxHeartbeats 4000000 in
set_option maxRecDepth 100000 in
/-- copyFrom -/
theorem c_X0_copyFrom (l : Launch) (dC : Nat → ClassId) (dI : Nat → Nat → Nat) (cI cZ cS : ClassId) (a b : Nat → Nat) (g g2 : Nat → Nat → Int) : Met l yX0_copyFrom wsX0_copyFrom ({ frames := 1, cells := 0, slots := 0, locals := 60 } : Room) (wr_Pc dC dI cI cZ cS (stw cI a g ++ stw cI b g2) [.ref (a 0), .ref (b 0)]) (wr_Qc dC dI (stw cI a g ++ stw cI b g2) (stw cI a (sCpy g g2) ++ stw cI b g2) none) 0 0 (wr_ad (stw cI a g ++ stw cI b g2)) := by
  refine wr_met (cc := cX0_copyFrom) (maxL := 2) (ret := none) (by decide) rfl (Nat.le_of_ble_eq_true rfl) ?_
  intro p e s m below meth c ls hx hb hml hr hlocks hts hown hP hD hS hK hl
  have hl : lv_has ls 2 [(0, .ref (a 0)), (1, .ref (b 0))] := hl
  have hinX0 : ∀ w ∈ u_ws RX0 TX0 11, w ∈ wsX0_copyFrom := by decide +kernel
  have f_44 := hts (.fieldLink RX0 44 "NetworkCoordinates$State" "nodes" "I") (by decide +kernel)
  have f_47 := hts (.fieldLink RX0 47 "NetworkCoordinates$State" "round" "I") (by decide +kernel)
  have f_9 := hts (.fieldLink RX0 9 "NetworkCoordinates$State" "errorGain" "I") (by decide +kernel)
  have f_15 := hts (.fieldLink RX0 15 "NetworkCoordinates$State" "moveGain" "I") (by decide +kernel)
  have f_18 := hts (.fieldLink RX0 18 "NetworkCoordinates$State" "maxStep" "I") (by decide +kernel)
  have f_21 := hts (.fieldLink RX0 21 "NetworkCoordinates$State" "xs" "[I") (by decide +kernel)
  have f_25 := hts (.fieldLink RX0 25 "NetworkCoordinates$State" "ys" "[I") (by decide +kernel)
  have f_28 := hts (.fieldLink RX0 28 "NetworkCoordinates$State" "heights" "[I") (by decide +kernel)
  have f_31 := hts (.fieldLink RX0 31 "NetworkCoordinates$State" "errors" "[I") (by decide +kernel)
  have f_34 := hts (.fieldLink RX0 34 "NetworkCoordinates$State" "lies" "[I") (by decide +kernel)
  have f_37 := hts (.fieldLink RX0 37 "NetworkCoordinates$State" "rtts" "[I") (by decide +kernel)
  refine lv_aload_n hx hb dX0_copyFrom_0 rfl (lv_at hl 0 rfl) ?_
  refine lv_aload_n hx hb dX0_copyFrom_1 rfl (lv_at hl 1 rfl) ?_
  refine va_get (D := (dC, dI)) (ci := 0) (v := .int (zI (g2 0 0))) (C := RX0) (T := TX0) (N := 11) hx hb hts hinX0 hown hK.1 hP 7 rfl rfl 0 (by decide) f_44 (fun _ h9 => h9) rfl dX0_copyFrom_2 ?_
  refine va_put (D := (dC, dI)) (ci := 0) (v := .int (zI (g2 0 0))) (ty := .int) (C := RX0) (T := TX0) (N := 11) hx hb hts hinX0 tyX0 tyX0_ok nmX0 hown hK.1 hP hD hS 0 rfl rfl 0 (by decide) f_44 (fun _ h9 => h9) rfl (by decide +kernel) rfl rfl (Nat.le_of_ble_eq_true rfl) dX0_copyFrom_5 (fun H locs hP hD hS => ?_)
  refine lv_aload_n hx hb dX0_copyFrom_8 rfl (lv_at hl 0 rfl) ?_
  refine lv_aload_n hx hb dX0_copyFrom_9 rfl (lv_at hl 1 rfl) ?_
  refine va_get (D := (dC, dI)) (ci := 0) (v := .int (zI (g2 0 1))) (C := RX0) (T := TX0) (N := 11) hx hb hts hinX0 hown hK.1 hP 7 rfl rfl 1 (by decide) f_47 (fun _ h9 => h9) rfl dX0_copyFrom_10 ?_
  refine va_put (D := (dC, dI)) (ci := 0) (v := .int (zI (g2 0 1))) (ty := .int) (C := RX0) (T := TX0) (N := 11) hx hb hts hinX0 tyX0 tyX0_ok nmX0 hown hK.1 hP hD hS 0 rfl rfl 1 (by decide) f_47 (fun _ h9 => h9) rfl (by decide +kernel) rfl rfl (Nat.le_of_ble_eq_true rfl) dX0_copyFrom_13 (fun H locs hP hD hS => ?_)
  refine lv_aload_n hx hb dX0_copyFrom_16 rfl (lv_at hl 0 rfl) ?_
  refine lv_aload_n hx hb dX0_copyFrom_17 rfl (lv_at hl 1 rfl) ?_
  refine va_get (D := (dC, dI)) (ci := 0) (v := .int (zI (g2 0 2))) (C := RX0) (T := TX0) (N := 11) hx hb hts hinX0 hown hK.1 hP 7 rfl rfl 2 (by decide) f_9 (fun _ h9 => h9) rfl dX0_copyFrom_18 ?_
  refine va_put (D := (dC, dI)) (ci := 0) (v := .int (zI (g2 0 2))) (ty := .int) (C := RX0) (T := TX0) (N := 11) hx hb hts hinX0 tyX0 tyX0_ok nmX0 hown hK.1 hP hD hS 0 rfl rfl 2 (by decide) f_9 (fun _ h9 => h9) rfl (by decide +kernel) rfl rfl (Nat.le_of_ble_eq_true rfl) dX0_copyFrom_21 (fun H locs hP hD hS => ?_)
  refine lv_aload_n hx hb dX0_copyFrom_24 rfl (lv_at hl 0 rfl) ?_
  refine lv_aload_n hx hb dX0_copyFrom_25 rfl (lv_at hl 1 rfl) ?_
  refine va_get (D := (dC, dI)) (ci := 0) (v := .int (zI (g2 0 3))) (C := RX0) (T := TX0) (N := 11) hx hb hts hinX0 hown hK.1 hP 7 rfl rfl 3 (by decide) f_15 (fun _ h9 => h9) rfl dX0_copyFrom_26 ?_
  refine va_put (D := (dC, dI)) (ci := 0) (v := .int (zI (g2 0 3))) (ty := .int) (C := RX0) (T := TX0) (N := 11) hx hb hts hinX0 tyX0 tyX0_ok nmX0 hown hK.1 hP hD hS 0 rfl rfl 3 (by decide) f_15 (fun _ h9 => h9) rfl (by decide +kernel) rfl rfl (Nat.le_of_ble_eq_true rfl) dX0_copyFrom_29 (fun H locs hP hD hS => ?_)
  refine lv_aload_n hx hb dX0_copyFrom_32 rfl (lv_at hl 0 rfl) ?_
  refine lv_aload_n hx hb dX0_copyFrom_33 rfl (lv_at hl 1 rfl) ?_
  refine va_get (D := (dC, dI)) (ci := 0) (v := .int (zI (g2 0 4))) (C := RX0) (T := TX0) (N := 11) hx hb hts hinX0 hown hK.1 hP 7 rfl rfl 4 (by decide) f_18 (fun _ h9 => h9) rfl dX0_copyFrom_34 ?_
  refine va_put (D := (dC, dI)) (ci := 0) (v := .int (zI (g2 0 4))) (ty := .int) (C := RX0) (T := TX0) (N := 11) hx hb hts hinX0 tyX0 tyX0_ok nmX0 hown hK.1 hP hD hS 0 rfl rfl 4 (by decide) f_18 (fun _ h9 => h9) rfl (by decide +kernel) rfl rfl (Nat.le_of_ble_eq_true rfl) dX0_copyFrom_37 (fun H locs hP hD hS => ?_)
  refine lv_aload_n hx hb dX0_copyFrom_40 rfl (lv_at hl 1 rfl) ?_
  refine va_get (D := (dC, dI)) (ci := 0) (v := .ref (b 1)) (C := RX0) (T := TX0) (N := 11) hx hb hts hinX0 hown hK.1 hP 7 rfl rfl 5 (by decide) f_21 (fun _ h9 => h9) rfl dX0_copyFrom_41 ?_
  refine zr_iconst hx hb dX0_copyFrom_44 ?_
  refine lv_aload_n hx hb dX0_copyFrom_45 rfl (lv_at hl 0 rfl) ?_
  refine va_get (D := (dC, dI)) (ci := 0) (v := .ref (a 1)) (C := RX0) (T := TX0) (N := 11) hx hb hts hinX0 hown hK.1 hP 0 rfl rfl 5 (by decide) f_21 (fun _ h9 => h9) rfl dX0_copyFrom_46 ?_
  refine zr_iconst hx hb dX0_copyFrom_49 ?_
  refine zr_bipush hx hb dX0_copyFrom_50 (by decide) ?_
  refine zr_copy hx hb (hml.trans hl.1.symm) hown (hts (.methodLink RX0 54 arraycopyName) (by decide +kernel)) (hts (.native arraycopyName) (by decide +kernel)) (hts (.static arraycopyName) (by decide +kernel)) (hts (.initialized "java/lang/System") (by decide +kernel)) hK.1 hP hD hS 8 1 rfl rfl rfl 10 rfl rfl rfl (by decide) (Nat.le_of_ble_eq_true rfl) (Nat.le_of_ble_eq_true rfl) (Nat.le_of_ble_eq_true rfl) dX0_copyFrom_52 (fun H locs hP hD hS => ?_)
  refine lv_aload_n hx hb dX0_copyFrom_55 rfl (lv_at hl 1 rfl) ?_
  refine va_get (D := (dC, dI)) (ci := 0) (v := .ref (b 2)) (C := RX0) (T := TX0) (N := 11) hx hb hts hinX0 hown hK.1 hP 7 rfl rfl 6 (by decide) f_25 (fun _ h9 => h9) rfl dX0_copyFrom_56 ?_
  refine zr_iconst hx hb dX0_copyFrom_59 ?_
  refine lv_aload_n hx hb dX0_copyFrom_60 rfl (lv_at hl 0 rfl) ?_
  refine va_get (D := (dC, dI)) (ci := 0) (v := .ref (a 2)) (C := RX0) (T := TX0) (N := 11) hx hb hts hinX0 hown hK.1 hP 0 rfl rfl 6 (by decide) f_25 (fun _ h9 => h9) rfl dX0_copyFrom_61 ?_
  refine zr_iconst hx hb dX0_copyFrom_64 ?_
  refine zr_bipush hx hb dX0_copyFrom_65 (by decide) ?_
  refine zr_copy hx hb (hml.trans hl.1.symm) hown (hts (.methodLink RX0 54 arraycopyName) (by decide +kernel)) (hts (.native arraycopyName) (by decide +kernel)) (hts (.static arraycopyName) (by decide +kernel)) (hts (.initialized "java/lang/System") (by decide +kernel)) hK.1 hP hD hS 9 2 rfl rfl rfl 10 rfl rfl rfl (by decide) (Nat.le_of_ble_eq_true rfl) (Nat.le_of_ble_eq_true rfl) (Nat.le_of_ble_eq_true rfl) dX0_copyFrom_67 (fun H locs hP hD hS => ?_)
  refine lv_aload_n hx hb dX0_copyFrom_70 rfl (lv_at hl 1 rfl) ?_
  refine va_get (D := (dC, dI)) (ci := 0) (v := .ref (b 3)) (C := RX0) (T := TX0) (N := 11) hx hb hts hinX0 hown hK.1 hP 7 rfl rfl 7 (by decide) f_28 (fun _ h9 => h9) rfl dX0_copyFrom_71 ?_
  refine zr_iconst hx hb dX0_copyFrom_74 ?_
  refine lv_aload_n hx hb dX0_copyFrom_75 rfl (lv_at hl 0 rfl) ?_
  refine va_get (D := (dC, dI)) (ci := 0) (v := .ref (a 3)) (C := RX0) (T := TX0) (N := 11) hx hb hts hinX0 hown hK.1 hP 0 rfl rfl 7 (by decide) f_28 (fun _ h9 => h9) rfl dX0_copyFrom_76 ?_
  refine zr_iconst hx hb dX0_copyFrom_79 ?_
  refine zr_bipush hx hb dX0_copyFrom_80 (by decide) ?_
  refine zr_copy hx hb (hml.trans hl.1.symm) hown (hts (.methodLink RX0 54 arraycopyName) (by decide +kernel)) (hts (.native arraycopyName) (by decide +kernel)) (hts (.static arraycopyName) (by decide +kernel)) (hts (.initialized "java/lang/System") (by decide +kernel)) hK.1 hP hD hS 10 3 rfl rfl rfl 10 rfl rfl rfl (by decide) (Nat.le_of_ble_eq_true rfl) (Nat.le_of_ble_eq_true rfl) (Nat.le_of_ble_eq_true rfl) dX0_copyFrom_82 (fun H locs hP hD hS => ?_)
  refine lv_aload_n hx hb dX0_copyFrom_85 rfl (lv_at hl 1 rfl) ?_
  refine va_get (D := (dC, dI)) (ci := 0) (v := .ref (b 4)) (C := RX0) (T := TX0) (N := 11) hx hb hts hinX0 hown hK.1 hP 7 rfl rfl 8 (by decide) f_31 (fun _ h9 => h9) rfl dX0_copyFrom_86 ?_
  refine zr_iconst hx hb dX0_copyFrom_89 ?_
  refine lv_aload_n hx hb dX0_copyFrom_90 rfl (lv_at hl 0 rfl) ?_
  refine va_get (D := (dC, dI)) (ci := 0) (v := .ref (a 4)) (C := RX0) (T := TX0) (N := 11) hx hb hts hinX0 hown hK.1 hP 0 rfl rfl 8 (by decide) f_31 (fun _ h9 => h9) rfl dX0_copyFrom_91 ?_
  refine zr_iconst hx hb dX0_copyFrom_94 ?_
  refine zr_bipush hx hb dX0_copyFrom_95 (by decide) ?_
  refine zr_copy hx hb (hml.trans hl.1.symm) hown (hts (.methodLink RX0 54 arraycopyName) (by decide +kernel)) (hts (.native arraycopyName) (by decide +kernel)) (hts (.static arraycopyName) (by decide +kernel)) (hts (.initialized "java/lang/System") (by decide +kernel)) hK.1 hP hD hS 11 4 rfl rfl rfl 10 rfl rfl rfl (by decide) (Nat.le_of_ble_eq_true rfl) (Nat.le_of_ble_eq_true rfl) (Nat.le_of_ble_eq_true rfl) dX0_copyFrom_97 (fun H locs hP hD hS => ?_)
  refine lv_aload_n hx hb dX0_copyFrom_100 rfl (lv_at hl 1 rfl) ?_
  refine va_get (D := (dC, dI)) (ci := 0) (v := .ref (b 5)) (C := RX0) (T := TX0) (N := 11) hx hb hts hinX0 hown hK.1 hP 7 rfl rfl 9 (by decide) f_34 (fun _ h9 => h9) rfl dX0_copyFrom_101 ?_
  refine zr_iconst hx hb dX0_copyFrom_104 ?_
  refine lv_aload_n hx hb dX0_copyFrom_105 rfl (lv_at hl 0 rfl) ?_
  refine va_get (D := (dC, dI)) (ci := 0) (v := .ref (a 5)) (C := RX0) (T := TX0) (N := 11) hx hb hts hinX0 hown hK.1 hP 0 rfl rfl 9 (by decide) f_34 (fun _ h9 => h9) rfl dX0_copyFrom_106 ?_
  refine zr_iconst hx hb dX0_copyFrom_109 ?_
  refine zr_bipush hx hb dX0_copyFrom_110 (by decide) ?_
  refine zr_copy hx hb (hml.trans hl.1.symm) hown (hts (.methodLink RX0 54 arraycopyName) (by decide +kernel)) (hts (.native arraycopyName) (by decide +kernel)) (hts (.static arraycopyName) (by decide +kernel)) (hts (.initialized "java/lang/System") (by decide +kernel)) hK.1 hP hD hS 12 5 rfl rfl rfl 10 rfl rfl rfl (by decide) (Nat.le_of_ble_eq_true rfl) (Nat.le_of_ble_eq_true rfl) (Nat.le_of_ble_eq_true rfl) dX0_copyFrom_112 (fun H locs hP hD hS => ?_)
  refine lv_aload_n hx hb dX0_copyFrom_115 rfl (lv_at hl 1 rfl) ?_
  refine va_get (D := (dC, dI)) (ci := 0) (v := .ref (b 6)) (C := RX0) (T := TX0) (N := 11) hx hb hts hinX0 hown hK.1 hP 7 rfl rfl 10 (by decide) f_37 (fun _ h9 => h9) rfl dX0_copyFrom_116 ?_
  refine zr_iconst hx hb dX0_copyFrom_119 ?_
  refine lv_aload_n hx hb dX0_copyFrom_120 rfl (lv_at hl 0 rfl) ?_
  refine va_get (D := (dC, dI)) (ci := 0) (v := .ref (a 6)) (C := RX0) (T := TX0) (N := 11) hx hb hts hinX0 hown hK.1 hP 0 rfl rfl 10 (by decide) f_37 (fun _ h9 => h9) rfl dX0_copyFrom_121 ?_
  refine zr_iconst hx hb dX0_copyFrom_124 ?_
  refine zr_bipush hx hb dX0_copyFrom_125 (by decide) ?_
  refine zr_copy hx hb (hml.trans hl.1.symm) hown (hts (.methodLink RX0 54 arraycopyName) (by decide +kernel)) (hts (.native arraycopyName) (by decide +kernel)) (hts (.static arraycopyName) (by decide +kernel)) (hts (.initialized "java/lang/System") (by decide +kernel)) hK.1 hP hD hS 13 6 rfl rfl rfl 100 rfl rfl rfl (by decide) (Nat.le_of_ble_eq_true rfl) (Nat.le_of_ble_eq_true rfl) (Nat.le_of_ble_eq_true rfl) dX0_copyFrom_127 (fun H locs hP hD hS => ?_)
  exact wr_vret hx hb hr hlocks (show va_P (dC, dI) vwCl (stw cI a (sCpy g g2) ++ stw cI b g2) H from hP) hS dX0_copyFrom_130
