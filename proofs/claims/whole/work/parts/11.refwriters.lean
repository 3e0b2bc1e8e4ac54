/-! OWN ROWS: the writers of the reference -/
theorem mdf_of {D : va_G} {cl : List vw_C} {cI cZ : ClassId} {b : Nat → Nat} {f : Nat → Int} {g : Nat → Nat → Int} {w S V o : Nat → Int} {H : Heap} (h : f = flat g) (hP : va_P D cl (mdf cI cZ b f w S V o) H) : va_P D cl (mdw cI cZ b g w S V o) H := by
  subst h
  exact hP
def wOut (g : Nat → Nat → Int) (a b : Nat) (w : Nat → Int) : Nat → Int
  | 0 => sX g a b (sStp g a b (sPrd g a b)) (sPrd g a b)
  | 1 => sY g a b (sStp g a b (sPrd g a b)) (sPrd g a b)
  | 2 => sH g a b (sStp g a b (sPrd g a b)) (sPrd g a b)
  | 3 => sErr g a b (sPrd g a b)
  | k + 4 => w (k + 4)
def wMeas (g : Nat → Nat → Int) (u v : Int) (w : Nat → Int) : Nat → Int := if sKf g u v = 0 then wOut g u.toNat v.toNat w else w
def wRow (n sh : Nat) (g : Nat → Nat → Int) (w : Nat → Int) : Nat → Nat → Int
  | 0 => w
  | i + 1 => if 1 ≤ g 6 (10 * i + sB n sh i) then wOut (sRow n sh g i) i (sB n sh i) (wRow n sh g w i) else wRow n sh g w i
def wRnd (g : Nat → Nat → Int) (w : Nat → Int) : Nat → Int := wRow (gN g) (sShf g) g w (gN g)
def wRun (g : Nat → Nat → Int) (w : Nat → Int) : Nat → Nat → Int
  | 0 => w
  | k + 1 => wRnd (sRun g k) (wRun g w k)
def wRunA (g : Nat → Nat → Int) (w : Nat → Int) (u : Int) : Nat → Int := if 1 ≤ u ∧ u ≤ 100 then wRun g w u.toNat else w
theorem sB_mod {n sh i : Nat} (hi : i < n) (hs : sh + 1 < n) : ((i : Int) + 1 + (sh : Int)) % (n : Int) = ((sB n sh i : Nat) : Int) := by
  have e : (i : Int) + 1 + (sh : Int) = ((i + 1 + sh : Nat) : Int) := by omega
  rw [e, ← Int.natCast_emod]
  congr 1
  unfold sB
  split
  · exact Nat.mod_eq_of_lt (by assumption)
  · rw [Nat.mod_eq_sub_mod (by omega), Nat.mod_eq_of_lt (by omega)]
theorem zset_swap (f : Nat → Int) (i j : Nat) (z : Int) : zset (zset f i z) j z = zset (zset f j z) i z := by
  funext k
  unfold zset
  repeat' split
  all_goals rfl
def tW (g : Nat → Nat → Int) (a b c : Nat) (w : Nat → Int) : Nat → Int := if 1 ≤ g 6 (10 * a + b) ∧ 1 ≤ g 6 (10 * b + c) ∧ 1 ≤ g 6 (10 * a + c) then (if 1 ≤ sOv g a b c then zset (zset (zset w 4 (w 4 + 1)) 5 (w 5 + 1)) 6 (if w 6 < sOv g a b c then sOv g a b c else w 6) else zset w 4 (w 4 + 1)) else w
def tO (g : Nat → Nat → Int) (a b c : Nat) (o : Nat → Int) : Nat → Int := if (1 ≤ g 6 (10 * a + b) ∧ 1 ≤ g 6 (10 * b + c) ∧ 1 ≤ g 6 (10 * a + c)) ∧ 1 ≤ sOv g a b c then zset (zset (zset o a (o a + 1)) b (zset o a (o a + 1) b + 1)) c (zset (zset o a (o a + 1)) b (zset o a (o a + 1) b + 1) c + 1) else o
def tS (g : Nat → Nat → Int) (a b c : Nat) (q : (Nat → Int) × (Nat → Int)) : (Nat → Int) × (Nat → Int) := (tW g a b c q.1, tO g a b c q.2)
def cC (g : Nat → Nat → Int) (a b : Nat) (q : (Nat → Int) × (Nat → Int)) : Nat → (Nat → Int) × (Nat → Int)
  | 0 => q
  | k + 1 => if b < k then tS g a b k (cC g a b q k) else cC g a b q k
def cB (g : Nat → Nat → Int) (n a : Nat) (q : (Nat → Int) × (Nat → Int)) : Nat → (Nat → Int) × (Nat → Int)
  | 0 => q
  | k + 1 => if a < k then cC g a k (cB g n a q k) n else cB g n a q k
def cA (g : Nat → Nat → Int) (n : Nat) (q : (Nat → Int) × (Nat → Int)) : Nat → (Nat → Int) × (Nat → Int)
  | 0 => q
  | k + 1 => cB g n k (cA g n q k) n
def cQ (g : Nat → Nat → Int) (w o : Nat → Int) : (Nat → Int) × (Nat → Int) := cA g (gN g) (zset (zset (zset w 4 0) 5 0) 6 (-1000005), zfil o 10 0) (gN g)
theorem cC_0 (g : Nat → Nat → Int) (a b : Nat) (q : (Nat → Int) × (Nat → Int)) : ∀ k, k ≤ b + 1 → cC g a b q k = q := by
  intro k
  induction k with
  | zero => exact fun _ => rfl
  | succ k ih =>
    intro h
    unfold cC
    rw [if_neg (by omega)]
    exact ih (by omega)
theorem cB_0 (g : Nat → Nat → Int) (n a : Nat) (q : (Nat → Int) × (Nat → Int)) : ∀ k, k ≤ a + 1 → cB g n a q k = q := by
  intro k
  induction k with
  | zero => exact fun _ => rfl
  | succ k ih =>
    intro h
    unfold cB
    rw [if_neg (by omega)]
    exact ih (by omega)
/-- the greatest excess so far stays in its range -/
def okq (q : (Nat → Int) × (Nat → Int)) : Prop := -1000005 ≤ q.1 6 ∧ q.1 6 ≤ 40000
theorem tS_ok {g : Nat → Nat → Int} {r : Int} (hg : gB g r) {a b c : Nat} (ha : a < 10) (hb : b < 10) (hc : c < 10) {q : (Nat → Int) × (Nat → Int)} (h : okq q) : okq (tS g a b c q) := by
  have h1 := (sExc_bd hg ha hb hc).2.1
  unfold okq tS tW at *
  dsimp only
  split
  · split
    · rw [zset_at]
      split <;> omega
    · rw [zset_ne (by decide)]
      exact h
  · exact h
theorem cC_ok {g : Nat → Nat → Int} {r : Int} (hg : gB g r) {a b : Nat} (ha : a < 10) (hb : b < 10) {q : (Nat → Int) × (Nat → Int)} (h : okq q) : ∀ k, k ≤ 10 → okq (cC g a b q k) := by
  intro k
  induction k with
  | zero => exact fun _ => h
  | succ k ih =>
    intro hk
    unfold cC
    split
    · exact tS_ok hg ha hb (by omega) (ih (by omega))
    · exact ih (by omega)
theorem cB_ok {g : Nat → Nat → Int} {r : Int} (hg : gB g r) {n a : Nat} (hn : n ≤ 10) (ha : a < 10) {q : (Nat → Int) × (Nat → Int)} (h : okq q) : ∀ k, k ≤ 10 → okq (cB g n a q k) := by
  intro k
  induction k with
  | zero => exact fun _ => h
  | succ k ih =>
    intro hk
    unfold cB
    split
    · exact cC_ok hg ha (by omega) (ih (by omega)) n hn
    · exact ih (by omega)
theorem cA_ok {g : Nat → Nat → Int} {r : Int} (hg : gB g r) {n : Nat} (hn : n ≤ 10) {q : (Nat → Int) × (Nat → Int)} (h : okq q) : ∀ k, k ≤ 10 → okq (cA g n q k) := by
  intro k
  induction k with
  | zero => exact fun _ => h
  | succ k ih =>
    intro hk
    unfold cA
    exact cB_ok hg hn (by omega) (ih (by omega)) n hn
def sSv (S f : Nat → Int) (s i : Nat) : Nat → Int := fun j => if 155 * s ≤ j ∧ j < 155 * s + i then f (j - 155 * s) else S j
theorem sSv_0 (S f : Nat → Int) (s : Nat) : sSv S f s 0 = S := by
  funext j
  exact if_neg (by omega)
theorem sSv_s (S f : Nat → Int) (s i : Nat) {k : Nat} {z : Int} (hk : k = 155 * s + i) (hz : z = f i) : zset (sSv S f s i) k z = sSv S f s (i + 1) := by
  subst hk
  subst hz
  funext j
  unfold zset sSv
  by_cases h : j = 155 * s + i
  · subst h
    rw [if_pos rfl, if_pos (by omega), show 155 * s + i - 155 * s = i by omega]
  · rw [if_neg h]
    by_cases q : 155 * s ≤ j ∧ j < 155 * s + i
    · rw [if_pos q, if_pos (by omega)]
    · rw [if_neg q, if_neg (by omega)]
def rsf (S f : Nat → Int) (s i : Nat) : Nat → Int := fun j => if j < i then S (155 * s + j) else f j
theorem rsf_0 (S f : Nat → Int) (s : Nat) : rsf S f s 0 = f := by
  funext j
  exact if_neg (by omega)
theorem rsf_s (S f : Nat → Int) (s i : Nat) : zset (rsf S f s i) i (S (155 * s + i)) = rsf S f s (i + 1) := by
  funext j
  unfold zset rsf
  by_cases h : j = i
  · subst h
    rw [if_pos rfl, if_pos (by omega)]
  · rw [if_neg h]
    by_cases q : j < i
    · rw [if_pos q, if_pos (by omega)]
    · rw [if_neg q, if_neg (by omega)]
def aSave (u : Int) : Int := if 0 ≤ u ∧ u ≤ 1 then 1 else -1000002
def nS (S : Nat → Int) (g : Nat → Nat → Int) (u : Int) : Nat → Int := if 0 ≤ u ∧ u ≤ 1 then sSv S (flat g) u.toNat 155 else S
def nV (V : Nat → Int) (u : Int) : Nat → Int := if 0 ≤ u ∧ u ≤ 1 then zset V u.toNat 1 else V
def aRest (V : Nat → Int) (u : Int) : Int := if 0 ≤ u ∧ u ≤ 1 then (if V u.toNat = 0 then -1000006 else 1) else -1000002
def fRest (S V : Nat → Int) (g : Nat → Nat → Int) (u : Int) : Nat → Int := if (0 ≤ u ∧ u ≤ 1) ∧ V u.toNat ≠ 0 then rsf S (flat g) u.toNat 155 else flat g
section ZB
variable {p : Program} {l : Launch} {e : Env} {R : Room} {s : State} {m : MethodId} {args : Array Value} {below : List Frame} {meth : Method} {c : Code} {H : Heap} {locs : List Loc} {cells slots : Nat} {Q : State → Prop}
variable {cc : ByteArray} {pc : Nat} {ls : Array Slot} {rest : List Value} {D : va_G} {cl : List vw_C} {A : Nat → Prop} {a1 : Nat} {tys : List (ClassId × FieldType)} {ws : va_W} {H0 : Heap}
theorem zr_zald (hx : p.tables.exec = Jvm.exec) (hb : c.code = cc) (hK : va_K D cl tys s) (hP : va_P D cl ws H) (q0 t0 : Nat) {cA : ClassId} {n : Nat} {f : Nat → Int} (ha : ws[q0]? = some (a1, .inl (cA, n, .inl (fun k => zI (f k))))) (ht : tys[t0]? = some (cA, .boolean)) {zi : Int} (k : Nat) (z : Int) (hi : zi = (k : Int)) (hk : k < n) (hn : n < 2147483648) (hz : f k = z) (hdg : decode cc pc = .ok (.baload, 1))
    (kk : W p l e R s m args below meth c H locs cells slots Q (F0 m (pc + 1) ls (.int (zI z) :: rest))) : W p l e R s m args below meth c H locs cells slots Q (F0 m pc ls (.int (zI zi) :: .ref a1 :: rest)) := by
  subst hz
  refine va_zald hx hb hK hP q0 t0 ha ht (zI_in hi hk hn) hdg ?_
  rw [zI_clamp hi (by omega)]
  exact kk
theorem zr_zast (hx : p.tables.exec = Jvm.exec) (hb : c.code = cc) (hK : va_K D cl tys s) (hP : va_P D cl ws H) (hD : va_D A ws) (hS : va_S A H0 H locs) (q0 t0 : Nat) {cA : ClassId} {n : Nat} {f : Nat → Int} (ha : ws[q0]? = some (a1, .inl (cA, n, .inl (fun k => zI (f k))))) (ht : tys[t0]? = some (cA, .boolean)) {zi z : Int} (k : Nat) (hz : z = 0 ∨ z = 1) (hi : zi = (k : Int)) (hk : k < n) (hn : n < 2147483648) (hdg : decode cc pc = .ok (.bastore, 1))
    (kk : ∀ (H1 : Heap) (locs1 : List Loc), va_P D cl (ws.set q0 (a1, .inl (cA, n, .inl (fun j => zI (zset f k z j))))) H1 → va_D A (ws.set q0 (a1, .inl (cA, n, .inl (fun j => zI (zset f k z j))))) → va_S A H0 H1 locs1 → W p l e R s m args below meth c H1 locs1 cells slots Q (F0 m (pc + 1) ls rest)) : W p l e R s m args below meth c H locs cells slots Q (F0 m pc ls (.int (zI z) :: .int (zI zi) :: .ref a1 :: rest)) := by
  refine va_zast hx hb hK hP hD hS q0 t0 ha ht (zI_in hi hk hn) hdg fun H1 locs1 g1 g2 g3 => ?_
  have e : vp_nar .boolean (zI z) = zI z := by rcases hz with rfl | rfl <;> decide
  rw [zI_clamp hi (by omega), e, zset_upd] at g1 g2
  exact kk H1 locs1 g1 g2 g3
end ZB
theorem gset6_swap (g : Nat → Nat → Int) (i j : Nat) (z : Int) : gset (gset g 6 i z) 6 j z = gset (gset g 6 j z) 6 i z := by
  funext q
  show cond (Nat.beq q 6) (zset (cond (Nat.beq q 6) (zset (g q) i z) (g q)) j z) (cond (Nat.beq q 6) (zset (g q) i z) (g q)) = cond (Nat.beq q 6) (zset (cond (Nat.beq q 6) (zset (g q) j z) (g q)) i z) (cond (Nat.beq q 6) (zset (g q) j z) (g q))
  cases Nat.beq q 6
  · rfl
  · exact zset_swap _ _ _ _
set_option maxHeartbeats 4000000 in
set_option maxRecDepth 100000 in
/-- set -/
theorem c_X2_set (l : Launch) (dC : Nat → ClassId) (dI : Nat → Nat → Nat) (cI cZ cS : ClassId) (b : Nat → Nat) (f w S V o : Nat → Int) (K : Nat) (hK1 : K < 155) (z : Int) : Met l yX2_set wsX2_set ({ frames := 0, cells := 0, slots := 0, locals := 0 } : Room) (wr_Pc dC dI cI cZ cS (mdf cI cZ b f w S V o) [.ref (b 0), .int (zI (K : Int)), .int (zI z)]) (wr_Qc dC dI (mdf cI cZ b f w S V o) (mdf cI cZ b (zset f K z) w S V o) (some (.int (zI (f K))))) 0 0 (wr_ad (mdf cI cZ b f w S V o)) := by
  refine wr_met (cc := cX2_set) (maxL := 4) (ret := (some .int)) (by decide) rfl (Nat.le_of_ble_eq_true rfl) ?_
  intro p e s m below meth c ls hx hb hml hr hlocks hts hown hP hD hS hK hl
  have hl : lv_has ls 4 [(0, .ref (b 0)), (1, .int (zI (K : Int))), (2, .int (zI z))] := hl
  have hinX2 : ∀ w ∈ u_ws RX2 TX2 11, w ∈ wsX2_set := by decide +kernel
  have f_7 := hts (.fieldLink RX2 7 "NetworkCoordinatesModel" "state" "[I") (by decide +kernel)
  refine lv_aload_n hx hb dX2_set_0 rfl (lv_at hl 0 rfl) ?_
  refine va_get (D := (dC, dI)) (ci := 2) (v := .ref (b 1)) (C := RX2) (T := TX2) (N := 11) hx hb hts hinX2 hown hK.1 hP 0 rfl rfl 0 (by decide) f_7 (fun _ h9 => h9) rfl dX2_set_1 ?_
  refine lv_iload_n hx hb dX2_set_4 rfl (lv_at hl 1 rfl) ?_
  refine zr_iald hx hb hK.1 hP 1 0 rfl rfl K (f K) (by omega) (by omega) (Nat.le_of_ble_eq_true rfl) rfl dX2_set_5 ?_
  refine lv_istore_n (lv' := [(3, .int (zI (f K))), (0, .ref (b 0)), (1, .int (zI (K : Int))), (2, .int (zI z))]) hx hb dX2_set_6 rfl hl (by decide) rfl (fun ls hl => ?_)
  refine lv_aload_n hx hb dX2_set_7 rfl (lv_at hl 1 rfl) ?_
  refine va_get (D := (dC, dI)) (ci := 2) (v := .ref (b 1)) (C := RX2) (T := TX2) (N := 11) hx hb hts hinX2 hown hK.1 hP 0 rfl rfl 0 (by decide) f_7 (fun _ h9 => h9) rfl dX2_set_8 ?_
  refine lv_iload_n hx hb dX2_set_11 rfl (lv_at hl 2 rfl) ?_
  refine lv_iload_n hx hb dX2_set_12 rfl (lv_at hl 3 rfl) ?_
  refine zr_iast hx hb hK.1 hP hD hS 1 0 rfl rfl K (zset f K z) (by omega) (by omega) (Nat.le_of_ble_eq_true rfl) rfl dX2_set_13 (fun H locs hP hD hS => ?_)
  refine lv_iload_n hx hb dX2_set_14 rfl (lv_at hl 0 rfl) ?_
  exact wr_iret hx hb hr hlocks hP hS rfl dX2_set_15
set_option maxHeartbeats 4000000 in
set_option maxRecDepth 100000 in
/-- begin -/
theorem c_X2_begin (l : Launch) (dC : Nat → ClassId) (dI : Nat → Nat → Nat) (cI cZ cS : ClassId) (b : Nat → Nat) (g : Nat → Nat → Int) (w S V o : Nat → Int) (n : Int) (hn : -2147483648 ≤ n ∧ n ≤ 2147483647) : Met l yX2_begin wsX2_begin ({ frames := 0, cells := 0, slots := 0, locals := 0 } : Room) (wr_Pc dC dI cI cZ cS (mdw cI cZ b g w S V o) [.ref (b 0), .int (zI n)]) (wr_Qc dC dI (mdw cI cZ b g w S V o) (mdw cI cZ b (sBeg g n) w S V o) none) 0 0 (wr_ad (mdw cI cZ b g w S V o)) := by
  refine wr_met (cc := cX2_begin) (maxL := 3) (ret := none) (by decide) rfl (Nat.le_of_ble_eq_true rfl) ?_
  intro p e s m below meth c ls hx hb hml hr hlocks hts hown hP hD hS hK hl
  have hl : lv_has ls 3 [(0, .ref (b 0)), (1, .int (zI n))] := hl
  have hinX2 : ∀ w ∈ u_ws RX2 TX2 11, w ∈ wsX2_begin := by decide +kernel
  have f_7 := hts (.fieldLink RX2 7 "NetworkCoordinatesModel" "state" "[I") (by decide +kernel)
  refine lv_aload_n hx hb dX2_begin_0 rfl (lv_at hl 0 rfl) ?_
  refine va_get (D := (dC, dI)) (ci := 2) (v := .ref (b 1)) (C := RX2) (T := TX2) (N := 11) hx hb hts hinX2 hown hK.1 hP 0 rfl rfl 0 (by decide) f_7 (fun _ h9 => h9) rfl dX2_begin_1 ?_
  refine zr_iconst hx hb dX2_begin_4 ?_
  refine lv_iload_n hx hb dX2_begin_5 rfl (lv_at hl 1 rfl) ?_
  refine zr_iast hx hb hK.1 hP hD hS 1 0 rfl rfl 0 (zset (flat g) 0 n) (by omega) (by omega) (Nat.le_of_ble_eq_true rfl) rfl dX2_begin_6 (fun H locs hP hD hS => ?_)
  refine lv_aload_n hx hb dX2_begin_7 rfl (lv_at hl 0 rfl) ?_
  refine va_get (D := (dC, dI)) (ci := 2) (v := .ref (b 1)) (C := RX2) (T := TX2) (N := 11) hx hb hts hinX2 hown hK.1 hP 0 rfl rfl 0 (by decide) f_7 (fun _ h9 => h9) rfl dX2_begin_8 ?_
  refine zr_iconst hx hb dX2_begin_11 ?_
  refine zr_iconst hx hb dX2_begin_12 ?_
  refine zr_iast hx hb hK.1 hP hD hS 1 0 rfl rfl 1 (bgf (flat g) n 5) (by omega) (by omega) (Nat.le_of_ble_eq_true rfl) (bgf_0 _ _) dX2_begin_13 (fun H locs hP hD hS => ?_)
  refine zr_iconst hx hb dX2_begin_14 ?_
  refine lv_istore_n (lv' := [(2, .int (zI 5)), (0, .ref (b 0)), (1, .int (zI n))]) hx hb dX2_begin_15 rfl hl (by decide) rfl (fun ls hl => ?_)
  have loop : ∀ (k_loop i : Nat), i + k_loop = 155 → 5 ≤ i → ∀ (H : Heap) (locs : List Loc), va_P (dC, dI) vwCl (mdf cI cZ b (bgf (flat g) n i) w S V o) H → va_D (wr_ad (mdw cI cZ b g w S V o)) (mdf cI cZ b (bgf (flat g) n i) w S V o) → va_S (wr_ad (mdw cI cZ b g w S V o)) s.heap H locs → ∀ ls : Array Slot, lv_has ls 3 [(2, .int (zI (i : Int))), (0, .ref (b 0)), (1, .int (zI n))] → W p l e ({ frames := 0, cells := 0, slots := 0, locals := 0 } : Room) s m [.ref (b 0), .int (zI n)].toArray below meth c H locs 0 0 (MQ below (wr_Qc dC dI (mdw cI cZ b g w S V o) (mdw cI cZ b (sBeg g n) w S V o) none) [.ref (b 0), .int (zI n)].toArray s 0 0 (wr_ad (mdw cI cZ b g w S V o))) (F0 m 16 ls []) := by
    intro k_loop
    induction k_loop with
    | zero =>
      intro i hi hi5 H locs hP hD hS ls hl
      refine lv_iload_n hx hb dX2_begin_16 rfl (lv_at hl 0 rfl) ?_
      refine zr_sipush hx hb dX2_begin_17 (by decide) ?_
      refine zr_icmp_ge (tgt := 54) hx hb dX2_begin_20 (by decide) (by omega) (by omega) (fun c_20 => ?_) (fun c_20 => absurd c_20 (by omega))
      exact wr_vret hx hb hr hlocks (mdf_of (by rw [show i = 155 by omega]; exact bgf_end g n) hP) hS dX2_begin_54
    | succ k_loop ih_loop =>
      intro i hi hi5 H locs hP hD hS ls hl
      refine lv_iload_n hx hb dX2_begin_16 rfl (lv_at hl 0 rfl) ?_
      refine zr_sipush hx hb dX2_begin_17 (by decide) ?_
      refine zr_icmp_ge (tgt := 54) hx hb dX2_begin_20 (by decide) (by omega) (by omega) (fun c_20 => absurd c_20 (by omega)) (fun c_20 => ?_)
      refine lv_aload_n hx hb dX2_begin_23 rfl (lv_at hl 1 rfl) ?_
      refine va_get (D := (dC, dI)) (ci := 2) (v := .ref (b 1)) (C := RX2) (T := TX2) (N := 11) hx hb hts hinX2 hown hK.1 hP 0 rfl rfl 0 (by decide) f_7 (fun _ h9 => h9) rfl dX2_begin_24 ?_
      refine lv_iload_n hx hb dX2_begin_27 rfl (lv_at hl 0 rfl) ?_
      refine lv_iload_n hx hb dX2_begin_28 rfl (lv_at hl 0 rfl) ?_
      refine zr_bipush hx hb dX2_begin_29 (by decide) ?_
      refine zr_icmp_lt (tgt := 46) hx hb dX2_begin_31 (by decide) (by omega) (by omega) (fun c_31 => ?_) (fun c_31 => ?_)
      · refine zr_iconst hx hb dX2_begin_46 ?_
        refine zr_iast hx hb hK.1 hP hD hS 1 0 rfl rfl i (bgf (flat g) n (i + 1)) (by omega) (by omega) (Nat.le_of_ble_eq_true rfl) (bgf_s _ _ hi5 (if_neg (by omega)).symm) dX2_begin_47 (fun H locs hP hD hS => ?_)
        refine zr_iinc (b := ((i + 1 : Nat) : Int)) (lv' := [(2, .int (zI ((i + 1 : Nat) : Int))), (0, .ref (b 0)), (1, .int (zI n))]) hx hb dX2_begin_48 hl (k := 0) rfl (by omega) (by decide) rfl (fun ls hl => ?_)
        refine lv_goto (tgt := 16) hx hb dX2_begin_51 (by decide) ?_
        exact ih_loop (i + 1) (by omega) (by omega) H locs hP (va_D_adr hD rfl) hS ls (lv_sub hl [0, 1, 2] rfl)
      · refine lv_iload_n hx hb dX2_begin_34 rfl (lv_at hl 0 rfl) ?_
        refine zr_bipush hx hb dX2_begin_35 (by decide) ?_
        refine zr_icmp_ge (tgt := 46) hx hb dX2_begin_37 (by decide) (by omega) (by omega) (fun c_37 => ?_) (fun c_37 => ?_)
        · refine zr_iconst hx hb dX2_begin_46 ?_
          refine zr_iast hx hb hK.1 hP hD hS 1 0 rfl rfl i (bgf (flat g) n (i + 1)) (by omega) (by omega) (Nat.le_of_ble_eq_true rfl) (bgf_s _ _ hi5 (if_neg (by omega)).symm) dX2_begin_47 (fun H locs hP hD hS => ?_)
          refine zr_iinc (b := ((i + 1 : Nat) : Int)) (lv' := [(2, .int (zI ((i + 1 : Nat) : Int))), (0, .ref (b 0)), (1, .int (zI n))]) hx hb dX2_begin_48 hl (k := 0) rfl (by omega) (by decide) rfl (fun ls hl => ?_)
          refine lv_goto (tgt := 16) hx hb dX2_begin_51 (by decide) ?_
          exact ih_loop (i + 1) (by omega) (by omega) H locs hP (va_D_adr hD rfl) hS ls (lv_sub hl [0, 1, 2] rfl)
        · refine zr_sipush hx hb dX2_begin_40 (by decide) ?_
          refine lv_goto (tgt := 47) hx hb dX2_begin_43 (by decide) ?_
          refine zr_iast hx hb hK.1 hP hD hS 1 0 rfl rfl i (bgf (flat g) n (i + 1)) (by omega) (by omega) (Nat.le_of_ble_eq_true rfl) (bgf_s _ _ hi5 (if_pos (by omega)).symm) dX2_begin_47 (fun H locs hP hD hS => ?_)
          refine zr_iinc (b := ((i + 1 : Nat) : Int)) (lv' := [(2, .int (zI ((i + 1 : Nat) : Int))), (0, .ref (b 0)), (1, .int (zI n))]) hx hb dX2_begin_48 hl (k := 0) rfl (by omega) (by decide) rfl (fun ls hl => ?_)
          refine lv_goto (tgt := 16) hx hb dX2_begin_51 (by decide) ?_
          exact ih_loop (i + 1) (by omega) (by omega) H locs hP (va_D_adr hD rfl) hS ls (lv_sub hl [0, 1, 2] rfl)
  exact loop 150 5 (by omega) (by omega) H locs hP hD hS ls (lv_sub hl [0, 1, 2] rfl)
set_option maxHeartbeats 4000000 in
set_option maxRecDepth 100000 in
/-- reset -/
theorem c_X2_reset (l : Launch) (dC : Nat → ClassId) (dI : Nat → Nat → Nat) (cI cZ cS : ClassId) (b : Nat → Nat) (g : Nat → Nat → Int) (w S V o : Nat → Int) (r : Int) (hg : gB g r) (n : Int) (hn : -2147483648 ≤ n ∧ n ≤ 2147483647) : Met l yX2_reset wsX2_reset ({ frames := 1, cells := 0, slots := 0, locals := 22 } : Room) (wr_Pc dC dI cI cZ cS (mdw cI cZ b g w S V o) [.ref (b 0), .int (zI n)]) (wr_Qc dC dI (mdw cI cZ b g w S V o) (mdw cI cZ b (nReset g n) w S V o) (some (.int (zI (aReset g n))))) 0 0 (wr_ad (mdw cI cZ b g w S V o)) := by
  refine wr_met (cc := cX2_reset) (maxL := 3) (ret := (some .int)) (by decide) rfl (Nat.le_of_ble_eq_true rfl) ?_
  intro p e s m below meth c ls hx hb hml hr hlocks hts hown hP hD hS hK hl
  have hl : lv_has ls 3 [(0, .ref (b 0)), (1, .int (zI n))] := hl
  have hinX2 : ∀ w ∈ u_ws RX2 TX2 11, w ∈ wsX2_reset := by decide +kernel
  have f_7 := hts (.fieldLink RX2 7 "NetworkCoordinatesModel" "state" "[I") (by decide +kernel)
  have k_35 := hts (.constant RX2 35 (-1000002)) (by decide +kernel)
  have b0 := hg.1
  refine lv_iload_n hx hb dX2_reset_0 rfl (lv_at hl 1 rfl) ?_
  refine zr_iconst hx hb dX2_reset_1 ?_
  refine zr_bipush hx hb dX2_reset_2 (by decide) ?_
  refine rd_callS (As := [.int (zI n), .int (zI 2), .int (zI 10)]) (rest := []) ⟨hx, hb, hml, hown, hts⟩ (c_X2_in l dC dI cI cZ cS n 2 10 (by omega) (by omega) (by omega)) (va_cwS 3 hts gX2_reset_X2_in rfl rfl rfl (by decide +kernel) ⟨Nat.le_of_ble_eq_true rfl, Nat.le_of_ble_eq_true rfl⟩) va_P_nil hK rfl hl.1 rfl (Nat.le_of_ble_eq_true rfl) dX2_reset_4 ⟨Nat.zero_le _, Nat.zero_le _⟩ ?_
  refine zr_bif_ne (tgt := 13) hx hb dX2_reset_7 (by decide) (fun c_7 => ?_) (fun c_7 => ?_)
  · refine lv_aload_n hx hb dX2_reset_13 rfl (lv_at hl 0 rfl) ?_
    refine va_get (D := (dC, dI)) (ci := 2) (v := .ref (b 1)) (C := RX2) (T := TX2) (N := 11) hx hb hts hinX2 hown hK.1 hP 0 rfl rfl 0 (by decide) f_7 (fun _ h9 => h9) rfl dX2_reset_14 ?_
    refine zr_iconst hx hb dX2_reset_17 ?_
    refine zr_iald hx hb hK.1 hP 1 0 rfl rfl 0 (g 0 0) (by omega) (by omega) (Nat.le_of_ble_eq_true rfl) (flat_0 (by decide)) dX2_reset_18 ?_
    refine lv_istore_n (lv' := [(2, .int (zI (g 0 0))), (0, .ref (b 0)), (1, .int (zI n))]) hx hb dX2_reset_19 rfl hl (by decide) rfl (fun ls hl => ?_)
    refine lv_aload_n hx hb dX2_reset_20 rfl (lv_at hl 1 rfl) ?_
    refine lv_iload_n hx hb dX2_reset_21 rfl (lv_at hl 2 rfl) ?_
    refine wr_callV (As := [.int (zI n)]) (rest := []) ⟨hx, hb, hml, hown, hts⟩ (c_X2_begin l dC dI cI cZ cS b g w S V o n (by omega)) (cwV 1 hts gX2_reset_X2_begin rfl rfl rfl (by decide +kernel) ⟨Nat.le_of_ble_eq_true rfl, Nat.le_of_ble_eq_true rfl⟩) hP hD hS hK 0 rfl rfl rfl hl.1 rfl (Nat.le_of_ble_eq_true rfl) dX2_reset_22 ⟨Nat.zero_le _, Nat.zero_le _⟩ (fun H locs hP1 hk1 hS => ?_)
    have hP : va_P (dC, dI) vwCl (mdw cI cZ b (sBeg g n) w S V o) H := hP1
    have hD : va_D (wr_ad (mdw cI cZ b g w S V o)) (mdw cI cZ b (sBeg g n) w S V o) := va_D_adr hD rfl
    refine lv_iload_n hx hb dX2_reset_25 rfl (lv_at hl 0 rfl) ?_
    exact wr_iret hx hb hr hlocks (show va_P (dC, dI) vwCl (mdw cI cZ b (nReset g n) w S V o) _ by rw [show nReset g n = sBeg g n from if_pos c_7]; exact hP) hS (by unfold aReset; rw [if_pos c_7]) dX2_reset_26
  · refine zr_ldc hx hb (-1000002) hown k_35 (by decide) dX2_reset_10 ?_
    exact wr_iret hx hb hr hlocks (show va_P (dC, dI) vwCl (mdw cI cZ b (nReset g n) w S V o) _ by rw [show nReset g n = g from if_neg c_7]; exact hP) hS (by unfold aReset; rw [if_neg c_7]) dX2_reset_12
set_option maxHeartbeats 4000000 in
set_option maxRecDepth 100000 in
/-- setRtt -/
theorem c_X2_setRtt (l : Launch) (dC : Nat → ClassId) (dI : Nat → Nat → Nat) (cI cZ cS : ClassId) (b : Nat → Nat) (g : Nat → Nat → Int) (w S V o : Nat → Int) (r : Int) (hg : gB g r) (u : Int) (hu : -2147483648 ≤ u ∧ u ≤ 2147483647) (v : Int) (hv : -2147483648 ≤ v ∧ v ≤ 2147483647) (z : Int) (hz : -2147483648 ≤ z ∧ z ≤ 2147483647) : Met l yX2_setRtt wsX2_setRtt ({ frames := 3, cells := 0, slots := 0, locals := 65 } : Room) (wr_Pc dC dI cI cZ cS (mdw cI cZ b g w S V o) [.ref (b 0), .int (zI u), .int (zI v), .int (zI z)]) (wr_Qc dC dI (mdw cI cZ b g w S V o) (mdw cI cZ b (nSetRtt g u v z) w S V o) (some (.int (zI (aSetRtt g u v z))))) 0 0 (wr_ad (mdw cI cZ b g w S V o)) := by
  refine wr_met (cc := cX2_setRtt) (maxL := 5) (ret := (some .int)) (by decide) rfl (Nat.le_of_ble_eq_true rfl) ?_
  intro p e s m below meth c ls hx hb hml hr hlocks hts hown hP hD hS hK hl
  have hl : lv_has ls 5 [(0, .ref (b 0)), (1, .int (zI u)), (2, .int (zI v)), (3, .int (zI z))] := hl
  have hinX2 : ∀ w ∈ u_ws RX2 TX2 11, w ∈ wsX2_setRtt := by decide +kernel
  have f_7 := hts (.fieldLink RX2 7 "NetworkCoordinatesModel" "state" "[I") (by decide +kernel)
  have k_35 := hts (.constant RX2 35 (-1000002)) (by decide +kernel)
  have b0 := hg.1
  have s0 := sPf_rng g u v
  refine lv_aload_n hx hb dX2_setRtt_0 rfl (lv_at hl 0 rfl) ?_
  refine lv_iload_n hx hb dX2_setRtt_1 rfl (lv_at hl 1 rfl) ?_
  refine lv_iload_n hx hb dX2_setRtt_2 rfl (lv_at hl 2 rfl) ?_
  refine rd_callV (As := [.int (zI u), .int (zI v)]) (rest := []) ⟨hx, hb, hml, hown, hts⟩ (c_X2_wrongPair l dC dI cI cZ cS b g w S V o r hg   u (by omega) v (by omega) ) (cwV 2 hts gX2_setRtt_X2_wrongPair rfl rfl rfl (by decide +kernel) ⟨Nat.le_of_ble_eq_true rfl, Nat.le_of_ble_eq_true rfl⟩) hP hK 0 rfl rfl rfl hl.1 rfl (Nat.le_of_ble_eq_true rfl) dX2_setRtt_3 ⟨Nat.zero_le _, Nat.zero_le _⟩ ?_
  refine lv_istore (lv' := [(4, .int (zI (sPf g u v))), (0, .ref (b 0)), (1, .int (zI u)), (2, .int (zI v)), (3, .int (zI z))]) hx hb dX2_setRtt_6 hl (by decide) rfl (fun ls hl => ?_)
  refine lv_iload hx hb dX2_setRtt_8 (lv_at hl 0 rfl) ?_
  refine zr_if_eq (tgt := 16) hx hb dX2_setRtt_10 (by decide) (by omega) (fun c_10 => ?_) (fun c_10 => ?_)
  · obtain ⟨A, B, rfl, rfl, hA2, hB2, hA, hB, hAB, eA, eB⟩ := z_nodes hg c_10
    have kAB := hg.2.2 A B hA hB
    refine lv_iload_n hx hb dX2_setRtt_16 rfl (lv_at hl 4 rfl) ?_
    refine zr_iconst hx hb dX2_setRtt_17 ?_
    refine zr_sipush hx hb dX2_setRtt_18 (by decide) ?_
    refine rd_callS (As := [.int (zI z), .int (zI 0), .int (zI 20000)]) (rest := []) ⟨hx, hb, hml, hown, hts⟩ (c_X2_in l dC dI cI cZ cS z 0 20000 (by omega) (by omega) (by omega)) (va_cwS 3 hts gX2_setRtt_X2_in rfl rfl rfl (by decide +kernel) ⟨Nat.le_of_ble_eq_true rfl, Nat.le_of_ble_eq_true rfl⟩) va_P_nil hK rfl hl.1 rfl (Nat.le_of_ble_eq_true rfl) dX2_setRtt_21 ⟨Nat.zero_le _, Nat.zero_le _⟩ ?_
    refine zr_bif_ne (tgt := 30) hx hb dX2_setRtt_24 (by decide) (fun c_24 => ?_) (fun c_24 => ?_)
    · refine lv_aload_n hx hb dX2_setRtt_30 rfl (lv_at hl 1 rfl) ?_
      refine va_get (D := (dC, dI)) (ci := 2) (v := .ref (b 1)) (C := RX2) (T := TX2) (N := 11) hx hb hts hinX2 hown hK.1 hP 0 rfl rfl 0 (by decide) f_7 (fun _ h9 => h9) rfl dX2_setRtt_31 ?_
      refine lv_iload_n hx hb dX2_setRtt_34 rfl (lv_at hl 3 rfl) ?_
      refine lv_iload_n hx hb dX2_setRtt_35 rfl (lv_at hl 2 rfl) ?_
      refine rd_callS (As := [.int (zI (B : Int)), .int (zI (A : Int))]) (rest := [.ref (b 1)]) ⟨hx, hb, hml, hown, hts⟩ (c_X2_cell l dC dI cI cZ cS B A) (va_cwS 2 hts gX2_setRtt_X2_cell rfl rfl rfl (by decide +kernel) ⟨Nat.le_of_ble_eq_true rfl, Nat.le_of_ble_eq_true rfl⟩) va_P_nil hK rfl hl.1 rfl (Nat.le_of_ble_eq_true rfl) dX2_setRtt_36 ⟨Nat.zero_le _, Nat.zero_le _⟩ ?_
      refine lv_iload_n hx hb dX2_setRtt_39 rfl (lv_at hl 4 rfl) ?_
      refine zr_iast hx hb hK.1 hP hD hS 1 0 rfl rfl (55 + (10 * B + A)) (flat (gset g 6 (10 * B + A) z)) (by omega) (by omega) (Nat.le_of_ble_eq_true rfl) flat_s6 dX2_setRtt_40 (fun H locs hP hD hS => ?_)
      refine lv_aload_n hx hb dX2_setRtt_41 rfl (lv_at hl 1 rfl) ?_
      refine lv_iload_n hx hb dX2_setRtt_42 rfl (lv_at hl 2 rfl) ?_
      refine lv_iload_n hx hb dX2_setRtt_43 rfl (lv_at hl 3 rfl) ?_
      refine rd_callS (As := [.int (zI (A : Int)), .int (zI (B : Int))]) (rest := [.ref (b 0)]) ⟨hx, hb, hml, hown, hts⟩ (c_X2_cell l dC dI cI cZ cS A B) (va_cwS 2 hts gX2_setRtt_X2_cell rfl rfl rfl (by decide +kernel) ⟨Nat.le_of_ble_eq_true rfl, Nat.le_of_ble_eq_true rfl⟩) va_P_nil hK rfl hl.1 rfl (Nat.le_of_ble_eq_true rfl) dX2_setRtt_44 ⟨Nat.zero_le _, Nat.zero_le _⟩ ?_
      refine lv_iload_n hx hb dX2_setRtt_47 rfl (lv_at hl 4 rfl) ?_
      refine wr_callVi (As := [.int (zI ((55 + (10 * A + B) : Nat) : Int)), .int (zI z)]) (rest := []) ⟨hx, hb, hml, hown, hts⟩ (c_X2_set l dC dI cI cZ cS b (flat (gset g 6 (10 * B + A) z)) w S V o (55 + (10 * A + B)) (by omega) z) (cwV 2 hts gX2_setRtt_X2_set rfl rfl rfl (by decide +kernel) ⟨Nat.le_of_ble_eq_true rfl, Nat.le_of_ble_eq_true rfl⟩) hP hD hS hK 0 rfl rfl rfl hl.1 rfl (Nat.le_of_ble_eq_true rfl) dX2_setRtt_48 ⟨Nat.zero_le _, Nat.zero_le _⟩ (fun H locs hP1 hk1 hS => ?_)
      have hP : va_P (dC, dI) vwCl (mdw cI cZ b (gset (gset g 6 (10 * B + A) z) 6 (10 * A + B) z) w S V o) H := mdf_of flat_s6 hP1
      have hD : va_D (wr_ad (mdw cI cZ b g w S V o)) (mdw cI cZ b (gset (gset g 6 (10 * B + A) z) 6 (10 * A + B) z) w S V o) := va_D_adr hD rfl
      refine zr_topI ((gset g 6 (10 * B + A) z) 6 (10 * A + B)) flat_6 ?_
      exact wr_iret hx hb hr hlocks (show va_P (dC, dI) vwCl (mdw cI cZ b (nSetRtt g (A : Int) (B : Int) z) w S V o) _ by rw [show nSetRtt g (A : Int) (B : Int) z = gset (gset g 6 (10 * A + B) z) 6 (10 * B + A) z from (if_pos ⟨c_10, c_24⟩).trans (by rw [eA, eB])]; exact mdf_of (congrArg flat (gset6_swap g (10 * B + A) (10 * A + B) z)) hP) hS (by unfold aSetRtt; rw [if_pos c_10, if_pos c_24, eA, eB]; exact zset_ne (by omega)) dX2_setRtt_51
    · refine zr_ldc hx hb (-1000002) hown k_35 (by decide) dX2_setRtt_27 ?_
      exact wr_iret hx hb hr hlocks (show va_P (dC, dI) vwCl (mdw cI cZ b (nSetRtt g (A : Int) (B : Int) z) w S V o) _ by rw [show nSetRtt g (A : Int) (B : Int) z = g from if_neg (fun q => c_24 q.2)]; exact hP) hS (by unfold aSetRtt; rw [if_pos c_10, if_neg c_24]) dX2_setRtt_29
  · refine lv_iload hx hb dX2_setRtt_13 (lv_at hl 0 rfl) ?_
    exact wr_iret hx hb hr hlocks (show va_P (dC, dI) vwCl (mdw cI cZ b (nSetRtt g u v z) w S V o) _ by rw [show nSetRtt g u v z = g from if_neg (fun q => c_10 q.1)]; exact hP) hS (by unfold aSetRtt; rw [if_neg c_10]) dX2_setRtt_15
set_option maxHeartbeats 4000000 in
set_option maxRecDepth 100000 in
/-- setLie -/
theorem c_X2_setLie (l : Launch) (dC : Nat → ClassId) (dI : Nat → Nat → Nat) (cI cZ cS : ClassId) (b : Nat → Nat) (g : Nat → Nat → Int) (w S V o : Nat → Int) (r : Int) (hg : gB g r) (u : Int) (hu : -2147483648 ≤ u ∧ u ≤ 2147483647) (z : Int) (hz : -2147483648 ≤ z ∧ z ≤ 2147483647) : Met l yX2_setLie wsX2_setLie ({ frames := 2, cells := 0, slots := 0, locals := 43 } : Room) (wr_Pc dC dI cI cZ cS (mdw cI cZ b g w S V o) [.ref (b 0), .int (zI u), .int (zI z)]) (wr_Qc dC dI (mdw cI cZ b g w S V o) (mdw cI cZ b (nSetLie g u z) w S V o) (some (.int (zI (aSetLie g u z))))) 0 0 (wr_ad (mdw cI cZ b g w S V o)) := by
  refine wr_met (cc := cX2_setLie) (maxL := 3) (ret := (some .int)) (by decide) rfl (Nat.le_of_ble_eq_true rfl) ?_
  intro p e s m below meth c ls hx hb hml hr hlocks hts hown hP hD hS hK hl
  have hl : lv_has ls 3 [(0, .ref (b 0)), (1, .int (zI u)), (2, .int (zI z))] := hl
  have k_35 := hts (.constant RX2 35 (-1000002)) (by decide +kernel)
  have k_40 := hts (.constant RX2 40 (-1000001)) (by decide +kernel)
  have b0 := hg.1
  refine lv_aload_n hx hb dX2_setLie_0 rfl (lv_at hl 0 rfl) ?_
  refine lv_iload_n hx hb dX2_setLie_1 rfl (lv_at hl 1 rfl) ?_
  refine rd_callV (As := [.int (zI u)]) (rest := []) ⟨hx, hb, hml, hown, hts⟩ (c_X2_isNode l dC dI cI cZ cS b g w S V o r hg   u (by omega) ) (cwV 1 hts gX2_setLie_X2_isNode rfl rfl rfl (by decide +kernel) ⟨Nat.le_of_ble_eq_true rfl, Nat.le_of_ble_eq_true rfl⟩) hP hK 0 rfl rfl rfl hl.1 rfl (Nat.le_of_ble_eq_true rfl) dX2_setLie_2 ⟨Nat.zero_le _, Nat.zero_le _⟩ ?_
  refine zr_bif_ne (tgt := 11) hx hb dX2_setLie_5 (by decide) (fun c_5 => ?_) (fun c_5 => ?_)
  · refine lv_iload_n hx hb dX2_setLie_11 rfl (lv_at hl 2 rfl) ?_
    refine zr_iconst hx hb dX2_setLie_12 ?_
    refine zr_sipush hx hb dX2_setLie_13 (by decide) ?_
    refine rd_callS (As := [.int (zI z), .int (zI 0), .int (zI 20000)]) (rest := []) ⟨hx, hb, hml, hown, hts⟩ (c_X2_in l dC dI cI cZ cS z 0 20000 (by omega) (by omega) (by omega)) (va_cwS 3 hts gX2_setLie_X2_in rfl rfl rfl (by decide +kernel) ⟨Nat.le_of_ble_eq_true rfl, Nat.le_of_ble_eq_true rfl⟩) va_P_nil hK rfl hl.1 rfl (Nat.le_of_ble_eq_true rfl) dX2_setLie_16 ⟨Nat.zero_le _, Nat.zero_le _⟩ ?_
    refine zr_bif_eq (tgt := 34) hx hb dX2_setLie_19 (by decide) (fun c_19 => ?_) (fun c_19 => ?_)
    · refine zr_ldc hx hb (-1000002) hown k_35 (by decide) dX2_setLie_34 ?_
      exact wr_iret hx hb hr hlocks (show va_P (dC, dI) vwCl (mdw cI cZ b (nSetLie g u z) w S V o) _ by rw [show nSetLie g u z = g from if_neg (fun q => c_19 q.2)]; exact hP) hS (by unfold aSetLie; rw [if_pos c_5, if_neg c_19]) dX2_setLie_36
    · obtain ⟨A, rfl⟩ : ∃ A : Nat, u = (A : Int) := ⟨u.toNat, by omega⟩
      have eA : ((A : Nat) : Int).toNat = A := by omega
      have hA : A < 10 := by omega
      refine lv_aload_n hx hb dX2_setLie_22 rfl (lv_at hl 0 rfl) ?_
      refine zr_bipush hx hb dX2_setLie_23 (by decide) ?_
      refine lv_iload_n hx hb dX2_setLie_25 rfl (lv_at hl 1 rfl) ?_
      refine zr_iadd hx hb dX2_setLie_26 ?_
      refine zr_topI ((45 + A : Nat) : Int) (by omega) ?_
      refine lv_iload_n hx hb dX2_setLie_27 rfl (lv_at hl 2 rfl) ?_
      refine wr_callVi (As := [.int (zI ((45 + A : Nat) : Int)), .int (zI z)]) (rest := []) ⟨hx, hb, hml, hown, hts⟩ (c_X2_set l dC dI cI cZ cS b (flat g) w S V o (45 + A) (by omega) z) (cwV 2 hts gX2_setLie_X2_set rfl rfl rfl (by decide +kernel) ⟨Nat.le_of_ble_eq_true rfl, Nat.le_of_ble_eq_true rfl⟩) hP hD hS hK 0 rfl rfl rfl hl.1 rfl (Nat.le_of_ble_eq_true rfl) dX2_setLie_28 ⟨Nat.zero_le _, Nat.zero_le _⟩ (fun H locs hP1 hk1 hS => ?_)
      have hP : va_P (dC, dI) vwCl (mdw cI cZ b (gset g 5 A z) w S V o) H := mdf_of (flat_s5 (by omega)) hP1
      have hD : va_D (wr_ad (mdw cI cZ b g w S V o)) (mdw cI cZ b (gset g 5 A z) w S V o) := va_D_adr hD rfl
      refine zr_topI (g 5 A) (flat_5 (by omega)) ?_
      refine lv_goto (tgt := 36) hx hb dX2_setLie_31 (by decide) ?_
      exact wr_iret hx hb hr hlocks (show va_P (dC, dI) vwCl (mdw cI cZ b (nSetLie g (A : Int) z) w S V o) _ by rw [show nSetLie g (A : Int) z = gset g 5 A z from (if_pos ⟨c_5, c_19⟩).trans (by rw [eA])]; exact hP) hS (by unfold aSetLie; rw [if_pos c_5, if_pos c_19, eA]) dX2_setLie_36
  · refine zr_ldc hx hb (-1000001) hown k_40 (by decide) dX2_setLie_8 ?_
    exact wr_iret hx hb hr hlocks (show va_P (dC, dI) vwCl (mdw cI cZ b (nSetLie g u z) w S V o) _ by rw [show nSetLie g u z = g from if_neg (fun q => c_5 q.1)]; exact hP) hS (by unfold aSetLie; rw [if_neg c_5]) dX2_setLie_10
set_option maxHeartbeats 4000000 in
set_option maxRecDepth 100000 in
/-- setGains -/
theorem c_X2_setGains (l : Launch) (dC : Nat → ClassId) (dI : Nat → Nat → Nat) (cI cZ cS : ClassId) (b : Nat → Nat) (g : Nat → Nat → Int) (w S V o : Nat → Int) (r : Int) (hg : gB g r) (u : Int) (hu : -2147483648 ≤ u ∧ u ≤ 2147483647) (v : Int) (hv : -2147483648 ≤ v ∧ v ≤ 2147483647) : Met l yX2_setGains wsX2_setGains ({ frames := 1, cells := 0, slots := 0, locals := 23 } : Room) (wr_Pc dC dI cI cZ cS (mdw cI cZ b g w S V o) [.ref (b 0), .int (zI u), .int (zI v)]) (wr_Qc dC dI (mdw cI cZ b g w S V o) (mdw cI cZ b (nSetGains g u v) w S V o) (some (.int (zI (aSetGains g u v))))) 0 0 (wr_ad (mdw cI cZ b g w S V o)) := by
  refine wr_met (cc := cX2_setGains) (maxL := 3) (ret := (some .int)) (by decide) rfl (Nat.le_of_ble_eq_true rfl) ?_
  intro p e s m below meth c ls hx hb hml hr hlocks hts hown hP hD hS hK hl
  have hl : lv_has ls 3 [(0, .ref (b 0)), (1, .int (zI u)), (2, .int (zI v))] := hl
  have k_35 := hts (.constant RX2 35 (-1000002)) (by decide +kernel)
  have b0 := hg.1
  refine lv_iload_n hx hb dX2_setGains_0 rfl (lv_at hl 1 rfl) ?_
  refine zr_iconst hx hb dX2_setGains_1 ?_
  refine zr_sipush hx hb dX2_setGains_2 (by decide) ?_
  refine rd_callS (As := [.int (zI u), .int (zI 1), .int (zI 1000)]) (rest := []) ⟨hx, hb, hml, hown, hts⟩ (c_X2_in l dC dI cI cZ cS u 1 1000 (by omega) (by omega) (by omega)) (va_cwS 3 hts gX2_setGains_X2_in rfl rfl rfl (by decide +kernel) ⟨Nat.le_of_ble_eq_true rfl, Nat.le_of_ble_eq_true rfl⟩) va_P_nil hK rfl hl.1 rfl (Nat.le_of_ble_eq_true rfl) dX2_setGains_5 ⟨Nat.zero_le _, Nat.zero_le _⟩ ?_
  refine zr_bif_eq (tgt := 22) hx hb dX2_setGains_8 (by decide) (fun c_8 => ?_) (fun c_8 => ?_)
  · refine zr_ldc hx hb (-1000002) hown k_35 (by decide) dX2_setGains_22 ?_
    exact wr_iret hx hb hr hlocks (show va_P (dC, dI) vwCl (mdw cI cZ b (nSetGains g u v) w S V o) _ by rw [show nSetGains g u v = g from if_neg (by omega)]; exact hP) hS (by unfold aSetGains; rw [if_neg (by omega)]) dX2_setGains_24
  · refine lv_iload_n hx hb dX2_setGains_11 rfl (lv_at hl 2 rfl) ?_
    refine zr_iconst hx hb dX2_setGains_12 ?_
    refine zr_sipush hx hb dX2_setGains_13 (by decide) ?_
    refine rd_callS (As := [.int (zI v), .int (zI 1), .int (zI 1000)]) (rest := []) ⟨hx, hb, hml, hown, hts⟩ (c_X2_in l dC dI cI cZ cS v 1 1000 (by omega) (by omega) (by omega)) (va_cwS 3 hts gX2_setGains_X2_in rfl rfl rfl (by decide +kernel) ⟨Nat.le_of_ble_eq_true rfl, Nat.le_of_ble_eq_true rfl⟩) va_P_nil hK rfl hl.1 rfl (Nat.le_of_ble_eq_true rfl) dX2_setGains_16 ⟨Nat.zero_le _, Nat.zero_le _⟩ ?_
    refine zr_bif_ne (tgt := 25) hx hb dX2_setGains_19 (by decide) (fun c_19 => ?_) (fun c_19 => ?_)
    · refine zr_sipush hx hb dX2_setGains_25 (by decide) ?_
      refine lv_aload_n hx hb dX2_setGains_28 rfl (lv_at hl 0 rfl) ?_
      refine zr_iconst hx hb dX2_setGains_29 ?_
      refine zr_topI ((2 : Nat) : Int) rfl ?_
      refine lv_iload_n hx hb dX2_setGains_30 rfl (lv_at hl 1 rfl) ?_
      refine wr_callVi (As := [.int (zI ((2 : Nat) : Int)), .int (zI u)]) (rest := [.int (zI 10000)]) ⟨hx, hb, hml, hown, hts⟩ (c_X2_set l dC dI cI cZ cS b (flat g) w S V o 2 (by omega) u) (cwV 2 hts gX2_setGains_X2_set rfl rfl rfl (by decide +kernel) ⟨Nat.le_of_ble_eq_true rfl, Nat.le_of_ble_eq_true rfl⟩) hP hD hS hK 0 rfl rfl rfl hl.1 rfl (Nat.le_of_ble_eq_true rfl) dX2_setGains_31 ⟨Nat.zero_le _, Nat.zero_le _⟩ (fun H locs hP1 hk1 hS => ?_)
      have hP : va_P (dC, dI) vwCl (mdw cI cZ b (gset g 0 2 u) w S V o) H := mdf_of (flat_s0 (by decide)) hP1
      have hD : va_D (wr_ad (mdw cI cZ b g w S V o)) (mdw cI cZ b (gset g 0 2 u) w S V o) := va_D_adr hD rfl
      refine zr_topI (g 0 2) (flat_0 (by decide)) ?_
      refine zr_imul hx hb dX2_setGains_34 ?_
      refine lv_aload_n hx hb dX2_setGains_35 rfl (lv_at hl 0 rfl) ?_
      refine zr_iconst hx hb dX2_setGains_36 ?_
      refine zr_topI ((3 : Nat) : Int) rfl ?_
      refine lv_iload_n hx hb dX2_setGains_37 rfl (lv_at hl 2 rfl) ?_
      refine wr_callVi (As := [.int (zI ((3 : Nat) : Int)), .int (zI v)]) (rest := [.int (zI (10000 * g 0 2))]) ⟨hx, hb, hml, hown, hts⟩ (c_X2_set l dC dI cI cZ cS b (flat (gset g 0 2 u)) w S V o 3 (by omega) v) (cwV 2 hts gX2_setGains_X2_set rfl rfl rfl (by decide +kernel) ⟨Nat.le_of_ble_eq_true rfl, Nat.le_of_ble_eq_true rfl⟩) hP hD hS hK 0 rfl rfl rfl hl.1 rfl (Nat.le_of_ble_eq_true rfl) dX2_setGains_38 ⟨Nat.zero_le _, Nat.zero_le _⟩ (fun H locs hP1 hk1 hS => ?_)
      have hP : va_P (dC, dI) vwCl (mdw cI cZ b (gset (gset g 0 2 u) 0 3 v) w S V o) H := mdf_of (flat_s0 (by decide)) hP1
      have hD : va_D (wr_ad (mdw cI cZ b g w S V o)) (mdw cI cZ b (gset (gset g 0 2 u) 0 3 v) w S V o) := va_D_adr hD rfl
      refine zr_topI ((gset g 0 2 u) 0 3) (flat_0 (by decide)) ?_
      refine zr_iadd hx hb dX2_setGains_41 ?_
      exact wr_iret hx hb hr hlocks (show va_P (dC, dI) vwCl (mdw cI cZ b (nSetGains g u v) w S V o) _ by rw [show nSetGains g u v = gset (gset g 0 2 u) 0 3 v from if_pos (by omega)]; exact hP) hS (by unfold aSetGains; rw [if_pos (by omega)]; rfl) dX2_setGains_42
    · refine zr_ldc hx hb (-1000002) hown k_35 (by decide) dX2_setGains_22 ?_
      exact wr_iret hx hb hr hlocks (show va_P (dC, dI) vwCl (mdw cI cZ b (nSetGains g u v) w S V o) _ by rw [show nSetGains g u v = g from if_neg (by omega)]; exact hP) hS (by unfold aSetGains; rw [if_neg (by omega)]) dX2_setGains_24
set_option maxHeartbeats 4000000 in
set_option maxRecDepth 100000 in
/-- setMaxStep -/
theorem c_X2_setMaxStep (l : Launch) (dC : Nat → ClassId) (dI : Nat → Nat → Nat) (cI cZ cS : ClassId) (b : Nat → Nat) (g : Nat → Nat → Int) (w S V o : Nat → Int) (r : Int) (hg : gB g r) (u : Int) (hu : -2147483648 ≤ u ∧ u ≤ 2147483647) : Met l yX2_setMaxStep wsX2_setMaxStep ({ frames := 1, cells := 0, slots := 0, locals := 23 } : Room) (wr_Pc dC dI cI cZ cS (mdw cI cZ b g w S V o) [.ref (b 0), .int (zI u)]) (wr_Qc dC dI (mdw cI cZ b g w S V o) (mdw cI cZ b (nSetMaxStep g u) w S V o) (some (.int (zI (aSetMaxStep g u))))) 0 0 (wr_ad (mdw cI cZ b g w S V o)) := by
  refine wr_met (cc := cX2_setMaxStep) (maxL := 2) (ret := (some .int)) (by decide) rfl (Nat.le_of_ble_eq_true rfl) ?_
  intro p e s m below meth c ls hx hb hml hr hlocks hts hown hP hD hS hK hl
  have hl : lv_has ls 2 [(0, .ref (b 0)), (1, .int (zI u))] := hl
  have k_35 := hts (.constant RX2 35 (-1000002)) (by decide +kernel)
  have b0 := hg.1
  refine lv_iload_n hx hb dX2_setMaxStep_0 rfl (lv_at hl 1 rfl) ?_
  refine zr_iconst hx hb dX2_setMaxStep_1 ?_
  refine zr_sipush hx hb dX2_setMaxStep_2 (by decide) ?_
  refine rd_callS (As := [.int (zI u), .int (zI 1), .int (zI 20000)]) (rest := []) ⟨hx, hb, hml, hown, hts⟩ (c_X2_in l dC dI cI cZ cS u 1 20000 (by omega) (by omega) (by omega)) (va_cwS 3 hts gX2_setMaxStep_X2_in rfl rfl rfl (by decide +kernel) ⟨Nat.le_of_ble_eq_true rfl, Nat.le_of_ble_eq_true rfl⟩) va_P_nil hK rfl hl.1 rfl (Nat.le_of_ble_eq_true rfl) dX2_setMaxStep_5 ⟨Nat.zero_le _, Nat.zero_le _⟩ ?_
  refine zr_bif_eq (tgt := 20) hx hb dX2_setMaxStep_8 (by decide) (fun c_8 => ?_) (fun c_8 => ?_)
  · refine zr_ldc hx hb (-1000002) hown k_35 (by decide) dX2_setMaxStep_20 ?_
    exact wr_iret hx hb hr hlocks (show va_P (dC, dI) vwCl (mdw cI cZ b (nSetMaxStep g u) w S V o) _ by rw [show nSetMaxStep g u = g from if_neg c_8]; exact hP) hS (by unfold aSetMaxStep; rw [if_neg c_8]) dX2_setMaxStep_22
  · refine lv_aload_n hx hb dX2_setMaxStep_11 rfl (lv_at hl 0 rfl) ?_
    refine zr_iconst hx hb dX2_setMaxStep_12 ?_
    refine zr_topI ((4 : Nat) : Int) rfl ?_
    refine lv_iload_n hx hb dX2_setMaxStep_13 rfl (lv_at hl 1 rfl) ?_
    refine wr_callVi (As := [.int (zI ((4 : Nat) : Int)), .int (zI u)]) (rest := []) ⟨hx, hb, hml, hown, hts⟩ (c_X2_set l dC dI cI cZ cS b (flat g) w S V o 4 (by omega) u) (cwV 2 hts gX2_setMaxStep_X2_set rfl rfl rfl (by decide +kernel) ⟨Nat.le_of_ble_eq_true rfl, Nat.le_of_ble_eq_true rfl⟩) hP hD hS hK 0 rfl rfl rfl hl.1 rfl (Nat.le_of_ble_eq_true rfl) dX2_setMaxStep_14 ⟨Nat.zero_le _, Nat.zero_le _⟩ (fun H locs hP1 hk1 hS => ?_)
    have hP : va_P (dC, dI) vwCl (mdw cI cZ b (gset g 0 4 u) w S V o) H := mdf_of (flat_s0 (by decide)) hP1
    have hD : va_D (wr_ad (mdw cI cZ b g w S V o)) (mdw cI cZ b (gset g 0 4 u) w S V o) := va_D_adr hD rfl
    refine zr_topI (g 0 4) (flat_0 (by decide)) ?_
    refine lv_goto (tgt := 22) hx hb dX2_setMaxStep_17 (by decide) ?_
    exact wr_iret hx hb hr hlocks (show va_P (dC, dI) vwCl (mdw cI cZ b (nSetMaxStep g u) w S V o) _ by rw [show nSetMaxStep g u = gset g 0 4 u from if_pos c_8]; exact hP) hS (by unfold aSetMaxStep; rw [if_pos c_8]) dX2_setMaxStep_22
set_option maxHeartbeats 4000000 in
set_option maxRecDepth 100000 in
/-- place -/
theorem c_X2_place (l : Launch) (dC : Nat → ClassId) (dI : Nat → Nat → Nat) (cI cZ cS : ClassId) (b : Nat → Nat) (g : Nat → Nat → Int) (w S V o : Nat → Int) (r : Int) (hg : gB g r) (u : Int) (hu : -2147483648 ≤ u ∧ u ≤ 2147483647) (x1 : Int) (hx1 : -2147483648 ≤ x1 ∧ x1 ≤ 2147483647) (y1 : Int) (hy1 : -2147483648 ≤ y1 ∧ y1 ≤ 2147483647) (z : Int) (hz : -2147483648 ≤ z ∧ z ≤ 2147483647) : Met l yX2_place wsX2_place ({ frames := 2, cells := 0, slots := 0, locals := 43 } : Room) (wr_Pc dC dI cI cZ cS (mdw cI cZ b g w S V o) [.ref (b 0), .int (zI u), .int (zI x1), .int (zI y1), .int (zI z)]) (wr_Qc dC dI (mdw cI cZ b g w S V o) (mdw cI cZ b (nPlace g u x1 y1 z) w S V o) (some (.int (zI (aPlace g u x1 y1 z))))) 0 0 (wr_ad (mdw cI cZ b g w S V o)) := by
  refine wr_met (cc := cX2_place) (maxL := 5) (ret := (some .int)) (by decide) rfl (Nat.le_of_ble_eq_true rfl) ?_
  intro p e s m below meth c ls hx hb hml hr hlocks hts hown hP hD hS hK hl
  have hl : lv_has ls 5 [(0, .ref (b 0)), (1, .int (zI u)), (2, .int (zI x1)), (3, .int (zI y1)), (4, .int (zI z))] := hl
  have hinX2 : ∀ w ∈ u_ws RX2 TX2 11, w ∈ wsX2_place := by decide +kernel
  have k_56 := hts (.constant RX2 56 (-100000)) (by decide +kernel)
  have k_57 := hts (.constant RX2 57 (100000)) (by decide +kernel)
  have k_35 := hts (.constant RX2 35 (-1000002)) (by decide +kernel)
  have f_7 := hts (.fieldLink RX2 7 "NetworkCoordinatesModel" "state" "[I") (by decide +kernel)
  have k_40 := hts (.constant RX2 40 (-1000001)) (by decide +kernel)
  have b0 := hg.1
  refine lv_aload_n hx hb dX2_place_0 rfl (lv_at hl 0 rfl) ?_
  refine lv_iload_n hx hb dX2_place_1 rfl (lv_at hl 1 rfl) ?_
  refine rd_callV (As := [.int (zI u)]) (rest := []) ⟨hx, hb, hml, hown, hts⟩ (c_X2_isNode l dC dI cI cZ cS b g w S V o r hg   u (by omega) ) (cwV 1 hts gX2_place_X2_isNode rfl rfl rfl (by decide +kernel) ⟨Nat.le_of_ble_eq_true rfl, Nat.le_of_ble_eq_true rfl⟩) hP hK 0 rfl rfl rfl hl.1 rfl (Nat.le_of_ble_eq_true rfl) dX2_place_2 ⟨Nat.zero_le _, Nat.zero_le _⟩ ?_
  refine zr_bif_ne (tgt := 11) hx hb dX2_place_5 (by decide) (fun c_5 => ?_) (fun c_5 => ?_)
  · refine lv_iload_n hx hb dX2_place_11 rfl (lv_at hl 2 rfl) ?_
    refine zr_ldc hx hb (-100000) hown k_56 (by decide) dX2_place_12 ?_
    refine zr_ldc hx hb (100000) hown k_57 (by decide) dX2_place_14 ?_
    refine rd_callS (As := [.int (zI x1), .int (zI (-100000)), .int (zI 100000)]) (rest := []) ⟨hx, hb, hml, hown, hts⟩ (c_X2_in l dC dI cI cZ cS x1 (-100000) 100000 (by omega) (by omega) (by omega)) (va_cwS 3 hts gX2_place_X2_in rfl rfl rfl (by decide +kernel) ⟨Nat.le_of_ble_eq_true rfl, Nat.le_of_ble_eq_true rfl⟩) va_P_nil hK rfl hl.1 rfl (Nat.le_of_ble_eq_true rfl) dX2_place_16 ⟨Nat.zero_le _, Nat.zero_le _⟩ ?_
    refine zr_bif_eq (tgt := 44) hx hb dX2_place_19 (by decide) (fun c_19 => ?_) (fun c_19 => ?_)
    · refine zr_ldc hx hb (-1000002) hown k_35 (by decide) dX2_place_44 ?_
      exact wr_iret hx hb hr hlocks (show va_P (dC, dI) vwCl (mdw cI cZ b (nPlace g u x1 y1 z) w S V o) _ by rw [show nPlace g u x1 y1 z = g from if_neg (by omega)]; exact hP) hS (by unfold aPlace; rw [if_pos c_5, if_neg (by omega)]) dX2_place_46
    · refine lv_iload_n hx hb dX2_place_22 rfl (lv_at hl 3 rfl) ?_
      refine zr_ldc hx hb (-100000) hown k_56 (by decide) dX2_place_23 ?_
      refine zr_ldc hx hb (100000) hown k_57 (by decide) dX2_place_25 ?_
      refine rd_callS (As := [.int (zI y1), .int (zI (-100000)), .int (zI 100000)]) (rest := []) ⟨hx, hb, hml, hown, hts⟩ (c_X2_in l dC dI cI cZ cS y1 (-100000) 100000 (by omega) (by omega) (by omega)) (va_cwS 3 hts gX2_place_X2_in rfl rfl rfl (by decide +kernel) ⟨Nat.le_of_ble_eq_true rfl, Nat.le_of_ble_eq_true rfl⟩) va_P_nil hK rfl hl.1 rfl (Nat.le_of_ble_eq_true rfl) dX2_place_27 ⟨Nat.zero_le _, Nat.zero_le _⟩ ?_
      refine zr_bif_eq (tgt := 44) hx hb dX2_place_30 (by decide) (fun c_30 => ?_) (fun c_30 => ?_)
      · refine zr_ldc hx hb (-1000002) hown k_35 (by decide) dX2_place_44 ?_
        exact wr_iret hx hb hr hlocks (show va_P (dC, dI) vwCl (mdw cI cZ b (nPlace g u x1 y1 z) w S V o) _ by rw [show nPlace g u x1 y1 z = g from if_neg (by omega)]; exact hP) hS (by unfold aPlace; rw [if_pos c_5, if_neg (by omega)]) dX2_place_46
      · refine lv_iload hx hb dX2_place_33 (lv_at hl 4 rfl) ?_
        refine zr_iconst hx hb dX2_place_35 ?_
        refine zr_ldc hx hb (100000) hown k_57 (by decide) dX2_place_36 ?_
        refine rd_callS (As := [.int (zI z), .int (zI 0), .int (zI 100000)]) (rest := []) ⟨hx, hb, hml, hown, hts⟩ (c_X2_in l dC dI cI cZ cS z 0 100000 (by omega) (by omega) (by omega)) (va_cwS 3 hts gX2_place_X2_in rfl rfl rfl (by decide +kernel) ⟨Nat.le_of_ble_eq_true rfl, Nat.le_of_ble_eq_true rfl⟩) va_P_nil hK rfl hl.1 rfl (Nat.le_of_ble_eq_true rfl) dX2_place_38 ⟨Nat.zero_le _, Nat.zero_le _⟩ ?_
        refine zr_bif_ne (tgt := 47) hx hb dX2_place_41 (by decide) (fun c_41 => ?_) (fun c_41 => ?_)
        · obtain ⟨A, rfl⟩ : ∃ A : Nat, u = (A : Int) := ⟨u.toNat, by omega⟩
          have eA : ((A : Nat) : Int).toNat = A := by omega
          have hA : A < 10 := by omega
          refine lv_aload_n hx hb dX2_place_47 rfl (lv_at hl 0 rfl) ?_
          refine va_get (D := (dC, dI)) (ci := 2) (v := .ref (b 1)) (C := RX2) (T := TX2) (N := 11) hx hb hts hinX2 hown hK.1 hP 0 rfl rfl 0 (by decide) f_7 (fun _ h9 => h9) rfl dX2_place_48 ?_
          refine zr_iconst hx hb dX2_place_51 ?_
          refine lv_iload_n hx hb dX2_place_52 rfl (lv_at hl 1 rfl) ?_
          refine zr_iadd hx hb dX2_place_53 ?_
          refine lv_iload_n hx hb dX2_place_54 rfl (lv_at hl 2 rfl) ?_
          refine zr_iast hx hb hK.1 hP hD hS 1 0 rfl rfl (5 + A) (flat (gset g 1 A x1)) (by omega) (by omega) (Nat.le_of_ble_eq_true rfl) (flat_s1 (by omega)) dX2_place_55 (fun H locs hP hD hS => ?_)
          refine lv_aload_n hx hb dX2_place_56 rfl (lv_at hl 0 rfl) ?_
          refine va_get (D := (dC, dI)) (ci := 2) (v := .ref (b 1)) (C := RX2) (T := TX2) (N := 11) hx hb hts hinX2 hown hK.1 hP 0 rfl rfl 0 (by decide) f_7 (fun _ h9 => h9) rfl dX2_place_57 ?_
          refine zr_bipush hx hb dX2_place_60 (by decide) ?_
          refine lv_iload_n hx hb dX2_place_62 rfl (lv_at hl 1 rfl) ?_
          refine zr_iadd hx hb dX2_place_63 ?_
          refine lv_iload_n hx hb dX2_place_64 rfl (lv_at hl 3 rfl) ?_
          refine zr_iast hx hb hK.1 hP hD hS 1 0 rfl rfl (15 + A) (flat (gset (gset g 1 A x1) 2 A y1)) (by omega) (by omega) (Nat.le_of_ble_eq_true rfl) (flat_s2 (by omega)) dX2_place_65 (fun H locs hP hD hS => ?_)
          refine lv_aload_n hx hb dX2_place_66 rfl (lv_at hl 0 rfl) ?_
          refine va_get (D := (dC, dI)) (ci := 2) (v := .ref (b 1)) (C := RX2) (T := TX2) (N := 11) hx hb hts hinX2 hown hK.1 hP 0 rfl rfl 0 (by decide) f_7 (fun _ h9 => h9) rfl dX2_place_67 ?_
          refine zr_bipush hx hb dX2_place_70 (by decide) ?_
          refine lv_iload_n hx hb dX2_place_72 rfl (lv_at hl 1 rfl) ?_
          refine zr_iadd hx hb dX2_place_73 ?_
          refine lv_iload hx hb dX2_place_74 (lv_at hl 4 rfl) ?_
          refine zr_iast hx hb hK.1 hP hD hS 1 0 rfl rfl (25 + A) (flat (gset (gset (gset g 1 A x1) 2 A y1) 3 A z)) (by omega) (by omega) (Nat.le_of_ble_eq_true rfl) (flat_s3 (by omega)) dX2_place_76 (fun H locs hP hD hS => ?_)
          refine lv_aload_n hx hb dX2_place_77 rfl (lv_at hl 0 rfl) ?_
          refine zr_bipush hx hb dX2_place_78 (by decide) ?_
          refine lv_iload_n hx hb dX2_place_80 rfl (lv_at hl 1 rfl) ?_
          refine zr_iadd hx hb dX2_place_81 ?_
          refine zr_topI ((35 + A : Nat) : Int) (by omega) ?_
          refine zr_sipush hx hb dX2_place_82 (by decide) ?_
          refine wr_callVi (As := [.int (zI ((35 + A : Nat) : Int)), .int (zI 1000)]) (rest := []) ⟨hx, hb, hml, hown, hts⟩ (c_X2_set l dC dI cI cZ cS b (flat (gset (gset (gset g 1 A x1) 2 A y1) 3 A z)) w S V o (35 + A) (by omega) 1000) (cwV 2 hts gX2_place_X2_set rfl rfl rfl (by decide +kernel) ⟨Nat.le_of_ble_eq_true rfl, Nat.le_of_ble_eq_true rfl⟩) hP hD hS hK 0 rfl rfl rfl hl.1 rfl (Nat.le_of_ble_eq_true rfl) dX2_place_85 ⟨Nat.zero_le _, Nat.zero_le _⟩ (fun H locs hP1 hk1 hS => ?_)
          have hP : va_P (dC, dI) vwCl (mdw cI cZ b (gset (gset (gset (gset g 1 A x1) 2 A y1) 3 A z) 4 A 1000) w S V o) H := mdf_of (flat_s4 (by omega)) hP1
          have hD : va_D (wr_ad (mdw cI cZ b g w S V o)) (mdw cI cZ b (gset (gset (gset (gset g 1 A x1) 2 A y1) 3 A z) 4 A 1000) w S V o) := va_D_adr hD rfl
          refine zr_topI ((gset (gset (gset g 1 A x1) 2 A y1) 3 A z) 4 A) (flat_4 (by omega)) ?_
          exact wr_iret hx hb hr hlocks (show va_P (dC, dI) vwCl (mdw cI cZ b (nPlace g (A : Int) x1 y1 z) w S V o) _ by rw [show nPlace g (A : Int) x1 y1 z = sSet g A x1 y1 z 1000 from (if_pos (by omega)).trans (by rw [eA])]; exact hP) hS (by unfold aPlace; rw [if_pos c_5, if_pos (by omega), eA]; rfl) dX2_place_88
        · refine zr_ldc hx hb (-1000002) hown k_35 (by decide) dX2_place_44 ?_
          exact wr_iret hx hb hr hlocks (show va_P (dC, dI) vwCl (mdw cI cZ b (nPlace g u x1 y1 z) w S V o) _ by rw [show nPlace g u x1 y1 z = g from if_neg (by omega)]; exact hP) hS (by unfold aPlace; rw [if_pos c_5, if_neg (by omega)]) dX2_place_46
  · refine zr_ldc hx hb (-1000001) hown k_40 (by decide) dX2_place_8 ?_
    exact wr_iret hx hb hr hlocks (show va_P (dC, dI) vwCl (mdw cI cZ b (nPlace g u x1 y1 z) w S V o) _ by rw [show nPlace g u x1 y1 z = g from if_neg (fun q => c_5 q.1)]; exact hP) hS (by unfold aPlace; rw [if_neg c_5]) dX2_place_10
set_option maxHeartbeats 4000000 in
set_option maxRecDepth 100000 in
/-- workOut -/
theorem c_X2_workOut (l : Launch) (dC : Nat → ClassId) (dI : Nat → Nat → Nat) (cI cZ cS : ClassId) (b : Nat → Nat) (g : Nat → Nat → Int) (w S V o : Nat → Int) (r : Int) (hg : gB g r) (A B : Nat) (hA : A < 10) (hB : B < 10) (hk : 1 ≤ g 6 (10 * A + B)) : Met l yX2_workOut wsX2_workOut ({ frames := 3, cells := 0, slots := 0, locals := 72 } : Room) (wr_Pc dC dI cI cZ cS (mdw cI cZ b g w S V o) [.ref (b 0), .int (zI (A : Int)), .int (zI (B : Int))]) (wr_Qc dC dI (mdw cI cZ b g w S V o) (mdw cI cZ b g (wOut g A B w) S V o) none) 0 0 (wr_ad (mdw cI cZ b g w S V o)) := by
  refine wr_met (cc := cX2_workOut) (maxL := 33) (ret := none) (by decide) rfl (Nat.le_of_ble_eq_true rfl) ?_
  intro p e s m below meth c ls hx hb hml hr hlocks hts hown hP hD hS hK hl
  have hl : lv_has ls 33 [(0, .ref (b 0)), (1, .int (zI (A : Int))), (2, .int (zI (B : Int)))] := hl
  have hinX2 : ∀ w ∈ u_ws RX2 TX2 11, w ∈ wsX2_workOut := by decide +kernel
  have f_7 := hts (.fieldLink RX2 7 "NetworkCoordinatesModel" "state" "[I") (by decide +kernel)
  have k_75 := hts (.constantLong RX2 75 (1000)) (by decide +kernel)
  have f_80 := hts (.fieldLink RX2 80 "NetworkCoordinatesModel" "newError" "I") (by decide +kernel)
  have k_56 := hts (.constant RX2 56 (-100000)) (by decide +kernel)
  have k_57 := hts (.constant RX2 57 (100000)) (by decide +kernel)
  have f_88 := hts (.fieldLink RX2 88 "NetworkCoordinatesModel" "newX" "I") (by decide +kernel)
  have f_91 := hts (.fieldLink RX2 91 "NetworkCoordinatesModel" "newY" "I") (by decide +kernel)
  have f_94 := hts (.fieldLink RX2 94 "NetworkCoordinatesModel" "newHeight" "I") (by decide +kernel)
  have b0 := hg.1
  have bA := hg.2.1 A hA
  have bB := hg.2.1 B hB
  have kAB := hg.2.2 A B hA hB
  have s1 := sSmp_bd hg hA hB
  have s2 := sPrd_bd hg hA hB
  have s2a := sAbs_bd (z := sPrd g A B - sSmp g A B) (A := 482842) (by omega)
  have s3 := sEs_bd hg hA hB hk s2
  have s4 := sErr_bd hg hA hB hk s2
  have s5 := sVe_bd hg hA hB
  have s6 := sWgt_bd hg hA hB
  have s7 := z_mul0 (a := g 0 2) (b := sWgt g A B) (A := 1000) (B := 1000) (by omega) s6
  have s8 := sVm_bd hg hA hB
  have s9 := z_mul0 (a := g 0 3) (b := sWgt g A B) (A := 1000) (B := 1000) (by omega) s6
  have s10 := sStp_bd hg hA hB s2
  have m1 := z_mul (a := sStp g A B (sPrd g A B)) (b := g 1 A - g 1 B) (A := 20000) (B := 200000) s10.2.2 (by omega)
  have t1 : -4000000000 ≤ (if sPrd g A B = 0 then sStp g A B (sPrd g A B) else (sStp g A B (sPrd g A B) * (g 1 A - g 1 B)).tdiv (sPrd g A B)) ∧ (if sPrd g A B = 0 then sStp g A B (sPrd g A B) else (sStp g A B (sPrd g A B) * (g 1 A - g 1 B)).tdiv (sPrd g A B)) ≤ 4000000000 := by
    by_cases q : sPrd g A B = 0
    · rw [if_pos q]; omega
    · rw [if_neg q]; exact z_tdiv m1 (by omega)
  have m2 := z_mul (a := sStp g A B (sPrd g A B)) (b := g 2 A - g 2 B) (A := 20000) (B := 200000) s10.2.2 (by omega)
  have t2 : -4000000000 ≤ (if sPrd g A B = 0 then 0 else (sStp g A B (sPrd g A B) * (g 2 A - g 2 B)).tdiv (sPrd g A B)) ∧ (if sPrd g A B = 0 then 0 else (sStp g A B (sPrd g A B) * (g 2 A - g 2 B)).tdiv (sPrd g A B)) ≤ 4000000000 := by
    by_cases q : sPrd g A B = 0
    · rw [if_pos q]; omega
    · rw [if_neg q]; exact z_tdiv m2 (by omega)
  have m3 := z_mul (a := sStp g A B (sPrd g A B)) (b := g 3 A + g 3 B) (A := 20000) (B := 200000) s10.2.2 (by omega)
  have t3 : -4000000000 ≤ (if sPrd g A B = 0 then 0 else (sStp g A B (sPrd g A B) * (g 3 A + g 3 B)).tdiv (sPrd g A B)) ∧ (if sPrd g A B = 0 then 0 else (sStp g A B (sPrd g A B) * (g 3 A + g 3 B)).tdiv (sPrd g A B)) ≤ 4000000000 := by
    by_cases q : sPrd g A B = 0
    · rw [if_pos q]; omega
    · rw [if_neg q]; exact z_tdiv m3 (by omega)
  refine lv_aload_n hx hb dX2_workOut_0 rfl (lv_at hl 0 rfl) ?_
  refine lv_iload_n hx hb dX2_workOut_1 rfl (lv_at hl 1 rfl) ?_
  refine lv_iload_n hx hb dX2_workOut_2 rfl (lv_at hl 2 rfl) ?_
  refine rd_callV (As := [.int (zI (A : Int)), .int (zI (B : Int))]) (rest := []) ⟨hx, hb, hml, hown, hts⟩ (c_X2_sample l dC dI cI cZ cS b g w S V o r hg A B (by omega) (by omega)  ) (cwV 2 hts gX2_workOut_X2_sample rfl rfl rfl (by decide +kernel) ⟨Nat.le_of_ble_eq_true rfl, Nat.le_of_ble_eq_true rfl⟩) hP hK 0 rfl rfl rfl hl.1 rfl (Nat.le_of_ble_eq_true rfl) dX2_workOut_3 ⟨Nat.zero_le _, Nat.zero_le _⟩ ?_
  refine zr_i2l hx hb (by omega) dX2_workOut_6 ?_
  refine lv_lstore_n (lv' := [(3, .long (zL (sSmp g A B))), (0, .ref (b 0)), (1, .int (zI (A : Int))), (2, .int (zI (B : Int)))]) hx hb dX2_workOut_7 rfl hl (by decide) rfl (fun ls hl => ?_)
  refine lv_aload_n hx hb dX2_workOut_8 rfl (lv_at hl 1 rfl) ?_
  refine lv_iload_n hx hb dX2_workOut_9 rfl (lv_at hl 2 rfl) ?_
  refine lv_iload_n hx hb dX2_workOut_10 rfl (lv_at hl 3 rfl) ?_
  refine rd_callV (As := [.int (zI (A : Int)), .int (zI (B : Int))]) (rest := []) ⟨hx, hb, hml, hown, hts⟩ (c_X2_predicted l dC dI cI cZ cS b g w S V o r hg A B (by omega) (by omega)  ) (cwV 2 hts gX2_workOut_X2_predicted rfl rfl rfl (by decide +kernel) ⟨Nat.le_of_ble_eq_true rfl, Nat.le_of_ble_eq_true rfl⟩) hP hK 0 rfl rfl rfl hl.1 rfl (Nat.le_of_ble_eq_true rfl) dX2_workOut_11 ⟨Nat.zero_le _, Nat.zero_le _⟩ ?_
  refine zr_i2l hx hb (by omega) dX2_workOut_14 ?_
  refine lv_lstore (lv' := [(5, .long (zL (sPrd g A B))), (3, .long (zL (sSmp g A B))), (0, .ref (b 0)), (1, .int (zI (A : Int))), (2, .int (zI (B : Int)))]) hx hb dX2_workOut_15 hl (by decide) rfl (fun ls hl => ?_)
  refine lv_aload_n hx hb dX2_workOut_17 rfl (lv_at hl 2 rfl) ?_
  refine va_get (D := (dC, dI)) (ci := 2) (v := .ref (b 1)) (C := RX2) (T := TX2) (N := 11) hx hb hts hinX2 hown hK.1 hP 0 rfl rfl 0 (by decide) f_7 (fun _ h9 => h9) rfl dX2_workOut_18 ?_
  refine zr_bipush hx hb dX2_workOut_21 (by decide) ?_
  refine lv_iload_n hx hb dX2_workOut_23 rfl (lv_at hl 3 rfl) ?_
  refine zr_iadd hx hb dX2_workOut_24 ?_
  refine zr_iald hx hb hK.1 hP 1 0 rfl rfl (35 + A) (g 4 A) (by omega) (by omega) (Nat.le_of_ble_eq_true rfl) (flat_4 (by omega)) dX2_workOut_25 ?_
  refine zr_i2l hx hb (by omega) dX2_workOut_26 ?_
  refine lv_lstore (lv' := [(7, .long (zL (g 4 A))), (5, .long (zL (sPrd g A B))), (3, .long (zL (sSmp g A B))), (0, .ref (b 0)), (1, .int (zI (A : Int))), (2, .int (zI (B : Int)))]) hx hb dX2_workOut_27 hl (by decide) rfl (fun ls hl => ?_)
  refine lv_aload_n hx hb dX2_workOut_29 rfl (lv_at hl 3 rfl) ?_
  refine va_get (D := (dC, dI)) (ci := 2) (v := .ref (b 1)) (C := RX2) (T := TX2) (N := 11) hx hb hts hinX2 hown hK.1 hP 0 rfl rfl 0 (by decide) f_7 (fun _ h9 => h9) rfl dX2_workOut_30 ?_
  refine zr_bipush hx hb dX2_workOut_33 (by decide) ?_
  refine lv_iload_n hx hb dX2_workOut_35 rfl (lv_at hl 5 rfl) ?_
  refine zr_iadd hx hb dX2_workOut_36 ?_
  refine zr_iald hx hb hK.1 hP 1 0 rfl rfl (35 + B) (g 4 B) (by omega) (by omega) (Nat.le_of_ble_eq_true rfl) (flat_4 (by omega)) dX2_workOut_37 ?_
  refine zr_i2l hx hb (by omega) dX2_workOut_38 ?_
  refine lv_lstore (lv' := [(9, .long (zL (g 4 B))), (7, .long (zL (g 4 A))), (5, .long (zL (sPrd g A B))), (3, .long (zL (sSmp g A B))), (0, .ref (b 0)), (1, .int (zI (A : Int))), (2, .int (zI (B : Int)))]) hx hb dX2_workOut_39 hl (by decide) rfl (fun ls hl => ?_)
  refine zr_ldc2 hx hb (1000) hown k_75 (by decide) dX2_workOut_41 ?_
  refine lv_lload hx hb dX2_workOut_44 (lv_at hl 1 rfl) ?_
  refine zr_lmul hx hb dX2_workOut_46 ?_
  refine lv_lload hx hb dX2_workOut_47 (lv_at hl 1 rfl) ?_
  refine lv_lload hx hb dX2_workOut_49 (lv_at hl 0 rfl) ?_
  refine zr_ladd hx hb dX2_workOut_51 ?_
  refine zr_ldiv hx hb (by omega) (by omega) dX2_workOut_52 ?_
  refine zr_topL (sWgt g A B) rfl ?_
  refine lv_lstore (lv' := [(11, .long (zL (sWgt g A B))), (9, .long (zL (g 4 B))), (7, .long (zL (g 4 A))), (5, .long (zL (sPrd g A B))), (3, .long (zL (sSmp g A B))), (0, .ref (b 0)), (1, .int (zI (A : Int))), (2, .int (zI (B : Int)))]) hx hb dX2_workOut_53 hl (by decide) rfl (fun ls hl => ?_)
  refine zr_ldc2 hx hb (1000) hown k_75 (by decide) dX2_workOut_55 ?_
  refine lv_lload hx hb dX2_workOut_58 (lv_at hl 3 rfl) ?_
  refine lv_lload_n hx hb dX2_workOut_60 rfl (lv_at hl 4 rfl) ?_
  refine zr_lsub hx hb dX2_workOut_61 ?_
  refine rd_callS (As := [.long (zL ((sPrd g A B) - (sSmp g A B)))]) (rest := [.long (zL 1000)]) ⟨hx, hb, hml, hown, hts⟩ (c_X2_plain l dC dI cI cZ cS ((sPrd g A B) - (sSmp g A B)) (by omega)) (va_cwS 1 hts gX2_workOut_X2_plain rfl rfl rfl (by decide +kernel) ⟨Nat.le_of_ble_eq_true rfl, Nat.le_of_ble_eq_true rfl⟩) va_P_nil hK rfl hl.1 rfl (Nat.le_of_ble_eq_true rfl) dX2_workOut_62 ⟨Nat.zero_le _, Nat.zero_le _⟩ ?_
  refine zr_lmul hx hb dX2_workOut_65 ?_
  refine lv_lload_n hx hb dX2_workOut_66 rfl (lv_at hl 4 rfl) ?_
  refine zr_ldiv hx hb (by omega) (by omega) dX2_workOut_67 ?_
  refine lv_lstore (lv' := [(13, .long (zL ((1000 * (sAbs ((sPrd g A B) - (sSmp g A B)))).tdiv (sSmp g A B)))), (11, .long (zL (sWgt g A B))), (9, .long (zL (g 4 B))), (7, .long (zL (g 4 A))), (5, .long (zL (sPrd g A B))), (3, .long (zL (sSmp g A B))), (0, .ref (b 0)), (1, .int (zI (A : Int))), (2, .int (zI (B : Int)))]) hx hb dX2_workOut_68 hl (by decide) rfl (fun ls hl => ?_)
  refine lv_lload hx hb dX2_workOut_70 (lv_at hl 0 rfl) ?_
  refine zr_ldc2 hx hb (1000) hown k_75 (by decide) dX2_workOut_72 ?_
  have j87 : ∀ ls : Array Slot, lv_has ls 33 [(11, .long (zL (sWgt g A B))), (7, .long (zL (g 4 A))), (5, .long (zL (sPrd g A B))), (3, .long (zL (sSmp g A B))), (0, .ref (b 0)), (1, .int (zI (A : Int))), (2, .int (zI (B : Int)))] → W p l e ({ frames := 3, cells := 0, slots := 0, locals := 72 } : Room) s m [.ref (b 0), .int (zI (A : Int)), .int (zI (B : Int))].toArray below meth c s.heap [] 0 0 (MQ below (wr_Qc dC dI (mdw cI cZ b g w S V o) (mdw cI cZ b g (wOut g A B w) S V o) none) [.ref (b 0), .int (zI (A : Int)), .int (zI (B : Int))].toArray s 0 0 (wr_ad (mdw cI cZ b g w S V o))) (F0 m 87 ls [.long (zL (sEs g A B (sPrd g A B)))]) := by
    intro ls hl
    refine lv_lstore (lv' := [(13, .long (zL (sEs g A B (sPrd g A B)))), (11, .long (zL (sWgt g A B))), (7, .long (zL (g 4 A))), (5, .long (zL (sPrd g A B))), (3, .long (zL (sSmp g A B))), (0, .ref (b 0)), (1, .int (zI (A : Int))), (2, .int (zI (B : Int)))]) hx hb dX2_workOut_87 hl (by decide) rfl (fun ls hl => ?_)
    refine lv_aload_n hx hb dX2_workOut_89 rfl (lv_at hl 5 rfl) ?_
    refine va_get (D := (dC, dI)) (ci := 2) (v := .ref (b 1)) (C := RX2) (T := TX2) (N := 11) hx hb hts hinX2 hown hK.1 hP 0 rfl rfl 0 (by decide) f_7 (fun _ h9 => h9) rfl dX2_workOut_90 ?_
    refine zr_iconst hx hb dX2_workOut_93 ?_
    refine zr_iald hx hb hK.1 hP 1 0 rfl rfl 2 (g 0 2) (by omega) (by omega) (Nat.le_of_ble_eq_true rfl) (flat_0 (by decide)) dX2_workOut_94 ?_
    refine zr_i2l hx hb (by omega) dX2_workOut_95 ?_
    refine lv_lload hx hb dX2_workOut_96 (lv_at hl 1 rfl) ?_
    refine zr_lmul hx hb dX2_workOut_98 ?_
    refine zr_ldc2 hx hb (1000) hown k_75 (by decide) dX2_workOut_99 ?_
    refine zr_ldiv hx hb (by omega) (by omega) dX2_workOut_102 ?_
    refine zr_topL (sVe g A B) rfl ?_
    refine lv_lstore (lv' := [(15, .long (zL (sVe g A B))), (13, .long (zL (sEs g A B (sPrd g A B)))), (11, .long (zL (sWgt g A B))), (7, .long (zL (g 4 A))), (5, .long (zL (sPrd g A B))), (3, .long (zL (sSmp g A B))), (0, .ref (b 0)), (1, .int (zI (A : Int))), (2, .int (zI (B : Int)))]) hx hb dX2_workOut_103 hl (by decide) rfl (fun ls hl => ?_)
    refine lv_lload hx hb dX2_workOut_105 (lv_at hl 1 rfl) ?_
    refine lv_lload hx hb dX2_workOut_107 (lv_at hl 0 rfl) ?_
    refine zr_lmul hx hb dX2_workOut_109 ?_
    refine lv_lload hx hb dX2_workOut_110 (lv_at hl 3 rfl) ?_
    refine zr_ldc2 hx hb (1000) hown k_75 (by decide) dX2_workOut_112 ?_
    refine lv_lload hx hb dX2_workOut_115 (lv_at hl 0 rfl) ?_
    refine zr_lsub hx hb dX2_workOut_117 ?_
    refine zr_lmul hx hb dX2_workOut_118 ?_
    refine zr_ladd hx hb dX2_workOut_119 ?_
    refine zr_ldc2 hx hb (1000) hown k_75 (by decide) dX2_workOut_120 ?_
    refine zr_ldiv hx hb (by omega) (by omega) dX2_workOut_123 ?_
    refine lv_lstore (lv' := [(17, .long (zL (((sEs g A B (sPrd g A B) * sVe g A B) + (g 4 A * (1000 - sVe g A B))).tdiv 1000))), (15, .long (zL (sVe g A B))), (13, .long (zL (sEs g A B (sPrd g A B)))), (11, .long (zL (sWgt g A B))), (7, .long (zL (g 4 A))), (5, .long (zL (sPrd g A B))), (3, .long (zL (sSmp g A B))), (0, .ref (b 0)), (1, .int (zI (A : Int))), (2, .int (zI (B : Int)))]) hx hb dX2_workOut_124 hl (by decide) rfl (fun ls hl => ?_)
    refine lv_aload_n hx hb dX2_workOut_126 rfl (lv_at hl 7 rfl) ?_
    refine lv_lload hx hb dX2_workOut_127 (lv_at hl 0 rfl) ?_
    refine zr_lconst hx hb 1 (by decide) dX2_workOut_129 ?_
    have j140 : ∀ ls : Array Slot, lv_has ls 33 [(11, .long (zL (sWgt g A B))), (5, .long (zL (sPrd g A B))), (3, .long (zL (sSmp g A B))), (0, .ref (b 0)), (1, .int (zI (A : Int))), (2, .int (zI (B : Int)))] → W p l e ({ frames := 3, cells := 0, slots := 0, locals := 72 } : Room) s m [.ref (b 0), .int (zI (A : Int)), .int (zI (B : Int))].toArray below meth c s.heap [] 0 0 (MQ below (wr_Qc dC dI (mdw cI cZ b g w S V o) (mdw cI cZ b g (wOut g A B w) S V o) none) [.ref (b 0), .int (zI (A : Int)), .int (zI (B : Int))].toArray s 0 0 (wr_ad (mdw cI cZ b g w S V o))) (F0 m 140 ls [.long (zL (sErr g A B (sPrd g A B))), .ref (b 0)]) := by
      intro ls hl
      refine zr_l2i hx hb dX2_workOut_140 ?_
      refine va_put (D := (dC, dI)) (ci := 2) (v := .int (zI (sErr g A B (sPrd g A B)))) (ty := .int) (C := RX2) (T := TX2) (N := 11) hx hb hts hinX2 tyX2 tyX2_ok nmX2 hown hK.1 hP hD hS 0 rfl rfl 6 (by decide) f_80 (fun _ h9 => h9) rfl (by decide +kernel) rfl rfl (Nat.le_of_ble_eq_true rfl) dX2_workOut_141 (fun H locs hP hD hS => ?_)
      refine lv_aload_n hx hb dX2_workOut_144 rfl (lv_at hl 3 rfl) ?_
      refine va_get (D := (dC, dI)) (ci := 2) (v := .ref (b 1)) (C := RX2) (T := TX2) (N := 11) hx hb hts hinX2 hown hK.1 hP 0 rfl rfl 0 (by decide) f_7 (fun _ h9 => h9) rfl dX2_workOut_145 ?_
      refine zr_iconst hx hb dX2_workOut_148 ?_
      refine zr_iald hx hb hK.1 hP 1 0 rfl rfl 3 (g 0 3) (by omega) (by omega) (Nat.le_of_ble_eq_true rfl) (flat_0 (by decide)) dX2_workOut_149 ?_
      refine zr_i2l hx hb (by omega) dX2_workOut_150 ?_
      refine lv_lload hx hb dX2_workOut_151 (lv_at hl 0 rfl) ?_
      refine zr_lmul hx hb dX2_workOut_153 ?_
      refine zr_ldc2 hx hb (1000) hown k_75 (by decide) dX2_workOut_154 ?_
      refine zr_ldiv hx hb (by omega) (by omega) dX2_workOut_157 ?_
      refine zr_topL (sVm g A B) rfl ?_
      refine lv_lstore (lv' := [(19, .long (zL (sVm g A B))), (11, .long (zL (sWgt g A B))), (5, .long (zL (sPrd g A B))), (3, .long (zL (sSmp g A B))), (0, .ref (b 0)), (1, .int (zI (A : Int))), (2, .int (zI (B : Int)))]) hx hb dX2_workOut_158 hl (by decide) rfl (fun ls hl => ?_)
      refine lv_lload_n hx hb dX2_workOut_160 rfl (lv_at hl 3 rfl) ?_
      refine lv_lload hx hb dX2_workOut_161 (lv_at hl 2 rfl) ?_
      refine zr_lsub hx hb dX2_workOut_163 ?_
      refine lv_lload hx hb dX2_workOut_164 (lv_at hl 0 rfl) ?_
      refine zr_lmul hx hb dX2_workOut_166 ?_
      refine zr_ldc2 hx hb (1000) hown k_75 (by decide) dX2_workOut_167 ?_
      refine zr_ldiv hx hb (by omega) (by omega) dX2_workOut_170 ?_
      refine lv_aload_n hx hb dX2_workOut_171 rfl (lv_at hl 4 rfl) ?_
      refine va_get (D := (dC, dI)) (ci := 2) (v := .ref (b 1)) (C := RX2) (T := TX2) (N := 11) hx hb hts hinX2 hown hK.1 hP 0 rfl rfl 0 (by decide) f_7 (fun _ h9 => h9) rfl dX2_workOut_172 ?_
      refine zr_iconst hx hb dX2_workOut_175 ?_
      refine zr_iald hx hb hK.1 hP 1 0 rfl rfl 4 (g 0 4) (by omega) (by omega) (Nat.le_of_ble_eq_true rfl) (flat_0 (by decide)) dX2_workOut_176 ?_
      refine zr_ineg hx hb dX2_workOut_177 ?_
      refine lv_aload_n hx hb dX2_workOut_178 rfl (lv_at hl 4 rfl) ?_
      refine va_get (D := (dC, dI)) (ci := 2) (v := .ref (b 1)) (C := RX2) (T := TX2) (N := 11) hx hb hts hinX2 hown hK.1 hP 0 rfl rfl 0 (by decide) f_7 (fun _ h9 => h9) rfl dX2_workOut_179 ?_
      refine zr_iconst hx hb dX2_workOut_182 ?_
      refine zr_iald hx hb hK.1 hP 1 0 rfl rfl 4 (g 0 4) (by omega) (by omega) (Nat.le_of_ble_eq_true rfl) (flat_0 (by decide)) dX2_workOut_183 ?_
      refine rd_callS (As := [.long (zL ((((sSmp g A B) - (sPrd g A B)) * sVm g A B).tdiv 1000)), .int (zI (-(g 0 4))), .int (zI (g 0 4))]) (rest := []) ⟨hx, hb, hml, hown, hts⟩ (c_X2_limited l dC dI cI cZ cS ((((sSmp g A B) - (sPrd g A B)) * sVm g A B).tdiv 1000) (-(g 0 4)) (g 0 4) (by omega) (by omega) (by omega)) (va_cwS 3 hts gX2_workOut_X2_limited rfl rfl rfl (by decide +kernel) ⟨Nat.le_of_ble_eq_true rfl, Nat.le_of_ble_eq_true rfl⟩) va_P_nil hK rfl hl.1 rfl (Nat.le_of_ble_eq_true rfl) dX2_workOut_184 ⟨Nat.zero_le _, Nat.zero_le _⟩ ?_
      refine zr_topI (sStp g A B (sPrd g A B)) rfl ?_
      refine zr_i2l hx hb (by omega) dX2_workOut_187 ?_
      refine lv_lstore (lv' := [(21, .long (zL (sStp g A B (sPrd g A B)))), (19, .long (zL (sVm g A B))), (11, .long (zL (sWgt g A B))), (5, .long (zL (sPrd g A B))), (3, .long (zL (sSmp g A B))), (0, .ref (b 0)), (1, .int (zI (A : Int))), (2, .int (zI (B : Int)))]) hx hb dX2_workOut_188 hl (by decide) rfl (fun ls hl => ?_)
      refine lv_aload_n hx hb dX2_workOut_190 rfl (lv_at hl 5 rfl) ?_
      refine va_get (D := (dC, dI)) (ci := 2) (v := .ref (b 1)) (C := RX2) (T := TX2) (N := 11) hx hb hts hinX2 hown hK.1 hP 0 rfl rfl 0 (by decide) f_7 (fun _ h9 => h9) rfl dX2_workOut_191 ?_
      refine zr_iconst hx hb dX2_workOut_194 ?_
      refine lv_iload_n hx hb dX2_workOut_195 rfl (lv_at hl 6 rfl) ?_
      refine zr_iadd hx hb dX2_workOut_196 ?_
      refine zr_iald hx hb hK.1 hP 1 0 rfl rfl (5 + A) (g 1 A) (by omega) (by omega) (Nat.le_of_ble_eq_true rfl) (flat_1 (by omega)) dX2_workOut_197 ?_
      refine zr_i2l hx hb (by omega) dX2_workOut_198 ?_
      refine lv_lstore (lv' := [(23, .long (zL (g 1 A))), (21, .long (zL (sStp g A B (sPrd g A B)))), (19, .long (zL (sVm g A B))), (11, .long (zL (sWgt g A B))), (5, .long (zL (sPrd g A B))), (3, .long (zL (sSmp g A B))), (0, .ref (b 0)), (1, .int (zI (A : Int))), (2, .int (zI (B : Int)))]) hx hb dX2_workOut_199 hl (by decide) rfl (fun ls hl => ?_)
      refine lv_aload_n hx hb dX2_workOut_201 rfl (lv_at hl 6 rfl) ?_
      refine va_get (D := (dC, dI)) (ci := 2) (v := .ref (b 1)) (C := RX2) (T := TX2) (N := 11) hx hb hts hinX2 hown hK.1 hP 0 rfl rfl 0 (by decide) f_7 (fun _ h9 => h9) rfl dX2_workOut_202 ?_
      refine zr_bipush hx hb dX2_workOut_205 (by decide) ?_
      refine lv_iload_n hx hb dX2_workOut_207 rfl (lv_at hl 7 rfl) ?_
      refine zr_iadd hx hb dX2_workOut_208 ?_
      refine zr_iald hx hb hK.1 hP 1 0 rfl rfl (15 + A) (g 2 A) (by omega) (by omega) (Nat.le_of_ble_eq_true rfl) (flat_2 (by omega)) dX2_workOut_209 ?_
      refine zr_i2l hx hb (by omega) dX2_workOut_210 ?_
      refine lv_lstore (lv' := [(25, .long (zL (g 2 A))), (23, .long (zL (g 1 A))), (21, .long (zL (sStp g A B (sPrd g A B)))), (19, .long (zL (sVm g A B))), (11, .long (zL (sWgt g A B))), (5, .long (zL (sPrd g A B))), (3, .long (zL (sSmp g A B))), (0, .ref (b 0)), (1, .int (zI (A : Int))), (2, .int (zI (B : Int)))]) hx hb dX2_workOut_211 hl (by decide) rfl (fun ls hl => ?_)
      refine lv_aload_n hx hb dX2_workOut_213 rfl (lv_at hl 7 rfl) ?_
      refine va_get (D := (dC, dI)) (ci := 2) (v := .ref (b 1)) (C := RX2) (T := TX2) (N := 11) hx hb hts hinX2 hown hK.1 hP 0 rfl rfl 0 (by decide) f_7 (fun _ h9 => h9) rfl dX2_workOut_214 ?_
      refine zr_bipush hx hb dX2_workOut_217 (by decide) ?_
      refine lv_iload_n hx hb dX2_workOut_219 rfl (lv_at hl 8 rfl) ?_
      refine zr_iadd hx hb dX2_workOut_220 ?_
      refine zr_iald hx hb hK.1 hP 1 0 rfl rfl (25 + A) (g 3 A) (by omega) (by omega) (Nat.le_of_ble_eq_true rfl) (flat_3 (by omega)) dX2_workOut_221 ?_
      refine zr_i2l hx hb (by omega) dX2_workOut_222 ?_
      refine lv_lstore (lv' := [(27, .long (zL (g 3 A))), (25, .long (zL (g 2 A))), (23, .long (zL (g 1 A))), (21, .long (zL (sStp g A B (sPrd g A B)))), (19, .long (zL (sVm g A B))), (11, .long (zL (sWgt g A B))), (5, .long (zL (sPrd g A B))), (3, .long (zL (sSmp g A B))), (0, .ref (b 0)), (1, .int (zI (A : Int))), (2, .int (zI (B : Int)))]) hx hb dX2_workOut_223 hl (by decide) rfl (fun ls hl => ?_)
      refine lv_lload hx hb dX2_workOut_225 (lv_at hl 6 rfl) ?_
      refine zr_lconst hx hb 0 (by decide) dX2_workOut_227 ?_
      have hP : va_P (dC, dI) vwCl (mdw cI cZ b g (fun k => if k = 3 then sErr g A B (sPrd g A B) else w k) S V o) H := hP
      have hD : va_D (wr_ad (mdw cI cZ b g w S V o)) (mdw cI cZ b g (fun k => if k = 3 then sErr g A B (sPrd g A B) else w k) S V o) := hD
      have j341 : ∀ (H : Heap) (locs : List Loc), va_P (dC, dI) vwCl (mdw cI cZ b g (fun k => if k = 3 then sErr g A B (sPrd g A B) else w k) S V o) H → va_D (wr_ad (mdw cI cZ b g w S V o)) (mdw cI cZ b g (fun k => if k = 3 then sErr g A B (sPrd g A B) else w k) S V o) → va_S (wr_ad (mdw cI cZ b g w S V o)) s.heap H locs → ∀ ls : Array Slot, lv_has ls 33 [(23, .long (zL (g 1 A + (if sPrd g A B = 0 then sStp g A B (sPrd g A B) else (sStp g A B (sPrd g A B) * (g 1 A - g 1 B)).tdiv (sPrd g A B))))), (25, .long (zL (g 2 A + (if sPrd g A B = 0 then 0 else (sStp g A B (sPrd g A B) * (g 2 A - g 2 B)).tdiv (sPrd g A B))))), (27, .long (zL (g 3 A + (if sPrd g A B = 0 then 0 else (sStp g A B (sPrd g A B) * (g 3 A + g 3 B)).tdiv (sPrd g A B))))), (0, .ref (b 0))] → W p l e ({ frames := 3, cells := 0, slots := 0, locals := 72 } : Room) s m [.ref (b 0), .int (zI (A : Int)), .int (zI (B : Int))].toArray below meth c H locs 0 0 (MQ below (wr_Qc dC dI (mdw cI cZ b g w S V o) (mdw cI cZ b g (wOut g A B w) S V o) none) [.ref (b 0), .int (zI (A : Int)), .int (zI (B : Int))].toArray s 0 0 (wr_ad (mdw cI cZ b g w S V o))) (F0 m 341 ls []) := by
        intro H locs hP hD hS ls hl
        refine lv_aload_n hx hb dX2_workOut_341 rfl (lv_at hl 3 rfl) ?_
        refine lv_lload hx hb dX2_workOut_342 (lv_at hl 0 rfl) ?_
        refine zr_ldc hx hb (-100000) hown k_56 (by decide) dX2_workOut_344 ?_
        refine zr_ldc hx hb (100000) hown k_57 (by decide) dX2_workOut_346 ?_
        refine rd_callS (As := [.long (zL (g 1 A + (if sPrd g A B = 0 then sStp g A B (sPrd g A B) else (sStp g A B (sPrd g A B) * (g 1 A - g 1 B)).tdiv (sPrd g A B)))), .int (zI (-100000)), .int (zI 100000)]) (rest := [.ref (b 0)]) ⟨hx, hb, hml, hown, hts⟩ (c_X2_limited l dC dI cI cZ cS (g 1 A + (if sPrd g A B = 0 then sStp g A B (sPrd g A B) else (sStp g A B (sPrd g A B) * (g 1 A - g 1 B)).tdiv (sPrd g A B))) (-100000) 100000 (by omega) (by omega) (by omega)) (va_cwS 3 hts gX2_workOut_X2_limited rfl rfl rfl (by decide +kernel) ⟨Nat.le_of_ble_eq_true rfl, Nat.le_of_ble_eq_true rfl⟩) va_P_nil hK rfl hl.1 rfl (Nat.le_of_ble_eq_true rfl) dX2_workOut_348 ⟨Nat.zero_le _, Nat.zero_le _⟩ ?_
        refine va_put (D := (dC, dI)) (ci := 2) (v := .int (zI (sLim (g 1 A + (if sPrd g A B = 0 then sStp g A B (sPrd g A B) else (sStp g A B (sPrd g A B) * (g 1 A - g 1 B)).tdiv (sPrd g A B))) (-100000) 100000))) (ty := .int) (C := RX2) (T := TX2) (N := 11) hx hb hts hinX2 tyX2 tyX2_ok nmX2 hown hK.1 hP hD hS 0 rfl rfl 3 (by decide) f_88 (fun _ h9 => h9) rfl (by decide +kernel) rfl rfl (Nat.le_of_ble_eq_true rfl) dX2_workOut_351 (fun H locs hP hD hS => ?_)
        refine lv_aload_n hx hb dX2_workOut_354 rfl (lv_at hl 3 rfl) ?_
        refine lv_lload hx hb dX2_workOut_355 (lv_at hl 1 rfl) ?_
        refine zr_ldc hx hb (-100000) hown k_56 (by decide) dX2_workOut_357 ?_
        refine zr_ldc hx hb (100000) hown k_57 (by decide) dX2_workOut_359 ?_
        refine rd_callS (As := [.long (zL (g 2 A + (if sPrd g A B = 0 then 0 else (sStp g A B (sPrd g A B) * (g 2 A - g 2 B)).tdiv (sPrd g A B)))), .int (zI (-100000)), .int (zI 100000)]) (rest := [.ref (b 0)]) ⟨hx, hb, hml, hown, hts⟩ (c_X2_limited l dC dI cI cZ cS (g 2 A + (if sPrd g A B = 0 then 0 else (sStp g A B (sPrd g A B) * (g 2 A - g 2 B)).tdiv (sPrd g A B))) (-100000) 100000 (by omega) (by omega) (by omega)) (va_cwS 3 hts gX2_workOut_X2_limited rfl rfl rfl (by decide +kernel) ⟨Nat.le_of_ble_eq_true rfl, Nat.le_of_ble_eq_true rfl⟩) va_P_nil hK rfl hl.1 rfl (Nat.le_of_ble_eq_true rfl) dX2_workOut_361 ⟨Nat.zero_le _, Nat.zero_le _⟩ ?_
        refine va_put (D := (dC, dI)) (ci := 2) (v := .int (zI (sLim (g 2 A + (if sPrd g A B = 0 then 0 else (sStp g A B (sPrd g A B) * (g 2 A - g 2 B)).tdiv (sPrd g A B))) (-100000) 100000))) (ty := .int) (C := RX2) (T := TX2) (N := 11) hx hb hts hinX2 tyX2 tyX2_ok nmX2 hown hK.1 hP hD hS 0 rfl rfl 4 (by decide) f_91 (fun _ h9 => h9) rfl (by decide +kernel) rfl rfl (Nat.le_of_ble_eq_true rfl) dX2_workOut_364 (fun H locs hP hD hS => ?_)
        refine lv_aload_n hx hb dX2_workOut_367 rfl (lv_at hl 3 rfl) ?_
        refine lv_lload hx hb dX2_workOut_368 (lv_at hl 2 rfl) ?_
        refine zr_iconst hx hb dX2_workOut_370 ?_
        refine zr_ldc hx hb (100000) hown k_57 (by decide) dX2_workOut_371 ?_
        refine rd_callS (As := [.long (zL (g 3 A + (if sPrd g A B = 0 then 0 else (sStp g A B (sPrd g A B) * (g 3 A + g 3 B)).tdiv (sPrd g A B)))), .int (zI 0), .int (zI 100000)]) (rest := [.ref (b 0)]) ⟨hx, hb, hml, hown, hts⟩ (c_X2_limited l dC dI cI cZ cS (g 3 A + (if sPrd g A B = 0 then 0 else (sStp g A B (sPrd g A B) * (g 3 A + g 3 B)).tdiv (sPrd g A B))) 0 100000 (by omega) (by omega) (by omega)) (va_cwS 3 hts gX2_workOut_X2_limited rfl rfl rfl (by decide +kernel) ⟨Nat.le_of_ble_eq_true rfl, Nat.le_of_ble_eq_true rfl⟩) va_P_nil hK rfl hl.1 rfl (Nat.le_of_ble_eq_true rfl) dX2_workOut_373 ⟨Nat.zero_le _, Nat.zero_le _⟩ ?_
        refine va_put (D := (dC, dI)) (ci := 2) (v := .int (zI (sLim (g 3 A + (if sPrd g A B = 0 then 0 else (sStp g A B (sPrd g A B) * (g 3 A + g 3 B)).tdiv (sPrd g A B))) 0 100000))) (ty := .int) (C := RX2) (T := TX2) (N := 11) hx hb hts hinX2 tyX2 tyX2_ok nmX2 hown hK.1 hP hD hS 0 rfl rfl 5 (by decide) f_94 (fun _ h9 => h9) rfl (by decide +kernel) rfl rfl (Nat.le_of_ble_eq_true rfl) dX2_workOut_376 (fun H locs hP hD hS => ?_)
        exact wr_vret hx hb hr hlocks (show va_P (dC, dI) vwCl (mdw cI cZ b g (wOut g A B w) S V o) H from hP) hS dX2_workOut_379
      refine zr_lcmp_ne (tgt := 242) hx hb dX2_workOut_228 dX2_workOut_229 (by decide) (by omega) (by omega) (fun c_228 => ?_) (fun c_228 => ?_)
      · refine lv_aload_n hx hb dX2_workOut_242 rfl (lv_at hl 8 rfl) ?_
        refine va_get (D := (dC, dI)) (ci := 2) (v := .ref (b 1)) (C := RX2) (T := TX2) (N := 11) hx hb hts hinX2 hown hK.1 hP 0 rfl rfl 0 (by decide) f_7 (fun _ h9 => h9) rfl dX2_workOut_243 ?_
        refine zr_iconst hx hb dX2_workOut_246 ?_
        refine lv_iload_n hx hb dX2_workOut_247 rfl (lv_at hl 9 rfl) ?_
        refine zr_iadd hx hb dX2_workOut_248 ?_
        refine zr_iald hx hb hK.1 hP 1 0 rfl rfl (5 + A) (g 1 A) (by omega) (by omega) (Nat.le_of_ble_eq_true rfl) (flat_1 (by omega)) dX2_workOut_249 ?_
        refine lv_aload_n hx hb dX2_workOut_250 rfl (lv_at hl 8 rfl) ?_
        refine va_get (D := (dC, dI)) (ci := 2) (v := .ref (b 1)) (C := RX2) (T := TX2) (N := 11) hx hb hts hinX2 hown hK.1 hP 0 rfl rfl 0 (by decide) f_7 (fun _ h9 => h9) rfl dX2_workOut_251 ?_
        refine zr_iconst hx hb dX2_workOut_254 ?_
        refine lv_iload_n hx hb dX2_workOut_255 rfl (lv_at hl 10 rfl) ?_
        refine zr_iadd hx hb dX2_workOut_256 ?_
        refine zr_iald hx hb hK.1 hP 1 0 rfl rfl (5 + B) (g 1 B) (by omega) (by omega) (Nat.le_of_ble_eq_true rfl) (flat_1 (by omega)) dX2_workOut_257 ?_
        refine zr_isub hx hb dX2_workOut_258 ?_
        refine zr_i2l hx hb (by omega) dX2_workOut_259 ?_
        refine lv_lstore (lv' := [(29, .long (zL (g 1 A - g 1 B))), (27, .long (zL (g 3 A))), (25, .long (zL (g 2 A))), (23, .long (zL (g 1 A))), (21, .long (zL (sStp g A B (sPrd g A B)))), (19, .long (zL (sVm g A B))), (11, .long (zL (sWgt g A B))), (5, .long (zL (sPrd g A B))), (3, .long (zL (sSmp g A B))), (0, .ref (b 0)), (1, .int (zI (A : Int))), (2, .int (zI (B : Int)))]) hx hb dX2_workOut_260 hl (by decide) rfl (fun ls hl => ?_)
        refine lv_aload_n hx hb dX2_workOut_262 rfl (lv_at hl 9 rfl) ?_
        refine va_get (D := (dC, dI)) (ci := 2) (v := .ref (b 1)) (C := RX2) (T := TX2) (N := 11) hx hb hts hinX2 hown hK.1 hP 0 rfl rfl 0 (by decide) f_7 (fun _ h9 => h9) rfl dX2_workOut_263 ?_
        refine zr_bipush hx hb dX2_workOut_266 (by decide) ?_
        refine lv_iload_n hx hb dX2_workOut_268 rfl (lv_at hl 10 rfl) ?_
        refine zr_iadd hx hb dX2_workOut_269 ?_
        refine zr_iald hx hb hK.1 hP 1 0 rfl rfl (15 + A) (g 2 A) (by omega) (by omega) (Nat.le_of_ble_eq_true rfl) (flat_2 (by omega)) dX2_workOut_270 ?_
        refine lv_aload_n hx hb dX2_workOut_271 rfl (lv_at hl 9 rfl) ?_
        refine va_get (D := (dC, dI)) (ci := 2) (v := .ref (b 1)) (C := RX2) (T := TX2) (N := 11) hx hb hts hinX2 hown hK.1 hP 0 rfl rfl 0 (by decide) f_7 (fun _ h9 => h9) rfl dX2_workOut_272 ?_
        refine zr_bipush hx hb dX2_workOut_275 (by decide) ?_
        refine lv_iload_n hx hb dX2_workOut_277 rfl (lv_at hl 11 rfl) ?_
        refine zr_iadd hx hb dX2_workOut_278 ?_
        refine zr_iald hx hb hK.1 hP 1 0 rfl rfl (15 + B) (g 2 B) (by omega) (by omega) (Nat.le_of_ble_eq_true rfl) (flat_2 (by omega)) dX2_workOut_279 ?_
        refine zr_isub hx hb dX2_workOut_280 ?_
        refine zr_i2l hx hb (by omega) dX2_workOut_281 ?_
        refine lv_lstore (lv' := [(31, .long (zL (g 2 A - g 2 B))), (29, .long (zL (g 1 A - g 1 B))), (27, .long (zL (g 3 A))), (25, .long (zL (g 2 A))), (23, .long (zL (g 1 A))), (21, .long (zL (sStp g A B (sPrd g A B)))), (19, .long (zL (sVm g A B))), (11, .long (zL (sWgt g A B))), (5, .long (zL (sPrd g A B))), (3, .long (zL (sSmp g A B))), (0, .ref (b 0)), (1, .int (zI (A : Int))), (2, .int (zI (B : Int)))]) hx hb dX2_workOut_282 hl (by decide) rfl (fun ls hl => ?_)
        refine lv_lload hx hb dX2_workOut_284 (lv_at hl 4 rfl) ?_
        refine lv_lload hx hb dX2_workOut_286 (lv_at hl 5 rfl) ?_
        refine lv_lload hx hb dX2_workOut_288 (lv_at hl 1 rfl) ?_
        refine zr_lmul hx hb dX2_workOut_290 ?_
        refine lv_lload hx hb dX2_workOut_291 (lv_at hl 8 rfl) ?_
        refine zr_ldiv hx hb (by omega) (by omega) dX2_workOut_293 ?_
        refine zr_ladd hx hb dX2_workOut_294 ?_
        refine lv_lstore (lv' := [(23, .long (zL (g 1 A + ((sStp g A B (sPrd g A B) * (g 1 A - g 1 B)).tdiv (sPrd g A B))))), (31, .long (zL (g 2 A - g 2 B))), (29, .long (zL (g 1 A - g 1 B))), (27, .long (zL (g 3 A))), (25, .long (zL (g 2 A))), (21, .long (zL (sStp g A B (sPrd g A B)))), (19, .long (zL (sVm g A B))), (11, .long (zL (sWgt g A B))), (5, .long (zL (sPrd g A B))), (3, .long (zL (sSmp g A B))), (0, .ref (b 0)), (1, .int (zI (A : Int))), (2, .int (zI (B : Int)))]) hx hb dX2_workOut_295 hl (by decide) rfl (fun ls hl => ?_)
        refine lv_lload hx hb dX2_workOut_297 (lv_at hl 4 rfl) ?_
        refine lv_lload hx hb dX2_workOut_299 (lv_at hl 5 rfl) ?_
        refine lv_lload hx hb dX2_workOut_301 (lv_at hl 1 rfl) ?_
        refine zr_lmul hx hb dX2_workOut_303 ?_
        refine lv_lload hx hb dX2_workOut_304 (lv_at hl 8 rfl) ?_
        refine zr_ldiv hx hb (by omega) (by omega) dX2_workOut_306 ?_
        refine zr_ladd hx hb dX2_workOut_307 ?_
        refine lv_lstore (lv' := [(25, .long (zL (g 2 A + ((sStp g A B (sPrd g A B) * (g 2 A - g 2 B)).tdiv (sPrd g A B))))), (23, .long (zL (g 1 A + ((sStp g A B (sPrd g A B) * (g 1 A - g 1 B)).tdiv (sPrd g A B))))), (31, .long (zL (g 2 A - g 2 B))), (29, .long (zL (g 1 A - g 1 B))), (27, .long (zL (g 3 A))), (21, .long (zL (sStp g A B (sPrd g A B)))), (19, .long (zL (sVm g A B))), (11, .long (zL (sWgt g A B))), (5, .long (zL (sPrd g A B))), (3, .long (zL (sSmp g A B))), (0, .ref (b 0)), (1, .int (zI (A : Int))), (2, .int (zI (B : Int)))]) hx hb dX2_workOut_308 hl (by decide) rfl (fun ls hl => ?_)
        refine lv_lload hx hb dX2_workOut_310 (lv_at hl 4 rfl) ?_
        refine lv_lload hx hb dX2_workOut_312 (lv_at hl 5 rfl) ?_
        refine lv_aload_n hx hb dX2_workOut_314 rfl (lv_at hl 10 rfl) ?_
        refine va_get (D := (dC, dI)) (ci := 2) (v := .ref (b 1)) (C := RX2) (T := TX2) (N := 11) hx hb hts hinX2 hown hK.1 hP 0 rfl rfl 0 (by decide) f_7 (fun _ h9 => h9) rfl dX2_workOut_315 ?_
        refine zr_bipush hx hb dX2_workOut_318 (by decide) ?_
        refine lv_iload_n hx hb dX2_workOut_320 rfl (lv_at hl 11 rfl) ?_
        refine zr_iadd hx hb dX2_workOut_321 ?_
        refine zr_iald hx hb hK.1 hP 1 0 rfl rfl (25 + A) (g 3 A) (by omega) (by omega) (Nat.le_of_ble_eq_true rfl) (flat_3 (by omega)) dX2_workOut_322 ?_
        refine lv_aload_n hx hb dX2_workOut_323 rfl (lv_at hl 10 rfl) ?_
        refine va_get (D := (dC, dI)) (ci := 2) (v := .ref (b 1)) (C := RX2) (T := TX2) (N := 11) hx hb hts hinX2 hown hK.1 hP 0 rfl rfl 0 (by decide) f_7 (fun _ h9 => h9) rfl dX2_workOut_324 ?_
        refine zr_bipush hx hb dX2_workOut_327 (by decide) ?_
        refine lv_iload_n hx hb dX2_workOut_329 rfl (lv_at hl 12 rfl) ?_
        refine zr_iadd hx hb dX2_workOut_330 ?_
        refine zr_iald hx hb hK.1 hP 1 0 rfl rfl (25 + B) (g 3 B) (by omega) (by omega) (Nat.le_of_ble_eq_true rfl) (flat_3 (by omega)) dX2_workOut_331 ?_
        refine zr_iadd hx hb dX2_workOut_332 ?_
        refine zr_i2l hx hb (by omega) dX2_workOut_333 ?_
        refine zr_lmul hx hb dX2_workOut_334 ?_
        refine lv_lload hx hb dX2_workOut_335 (lv_at hl 8 rfl) ?_
        refine zr_ldiv hx hb (by omega) (by omega) dX2_workOut_337 ?_
        refine zr_ladd hx hb dX2_workOut_338 ?_
        refine lv_lstore (lv' := [(27, .long (zL (g 3 A + ((sStp g A B (sPrd g A B) * (g 3 A + g 3 B)).tdiv (sPrd g A B))))), (25, .long (zL (g 2 A + ((sStp g A B (sPrd g A B) * (g 2 A - g 2 B)).tdiv (sPrd g A B))))), (23, .long (zL (g 1 A + ((sStp g A B (sPrd g A B) * (g 1 A - g 1 B)).tdiv (sPrd g A B))))), (31, .long (zL (g 2 A - g 2 B))), (29, .long (zL (g 1 A - g 1 B))), (21, .long (zL (sStp g A B (sPrd g A B)))), (19, .long (zL (sVm g A B))), (11, .long (zL (sWgt g A B))), (5, .long (zL (sPrd g A B))), (3, .long (zL (sSmp g A B))), (0, .ref (b 0)), (1, .int (zI (A : Int))), (2, .int (zI (B : Int)))]) hx hb dX2_workOut_339 hl (by decide) rfl (fun ls hl => ?_)
        have hl : lv_has ls 33 [(27, .long (zL (g 3 A + (if sPrd g A B = 0 then 0 else (sStp g A B (sPrd g A B) * (g 3 A + g 3 B)).tdiv (sPrd g A B))))), (25, .long (zL (g 2 A + (if sPrd g A B = 0 then 0 else (sStp g A B (sPrd g A B) * (g 2 A - g 2 B)).tdiv (sPrd g A B))))), (23, .long (zL (g 1 A + (if sPrd g A B = 0 then sStp g A B (sPrd g A B) else (sStp g A B (sPrd g A B) * (g 1 A - g 1 B)).tdiv (sPrd g A B))))), (31, .long (zL (g 2 A - g 2 B))), (29, .long (zL (g 1 A - g 1 B))), (21, .long (zL (sStp g A B (sPrd g A B)))), (19, .long (zL (sVm g A B))), (11, .long (zL (sWgt g A B))), (5, .long (zL (sPrd g A B))), (3, .long (zL (sSmp g A B))), (0, .ref (b 0)), (1, .int (zI (A : Int))), (2, .int (zI (B : Int)))] := by rw [if_neg c_228, if_neg c_228, if_neg c_228]; exact hl
        exact j341 H locs hP hD hS ls (lv_sub hl [2, 1, 0, 10] rfl)
      · refine lv_lload hx hb dX2_workOut_232 (lv_at hl 2 rfl) ?_
        refine lv_lload hx hb dX2_workOut_234 (lv_at hl 3 rfl) ?_
        refine zr_ladd hx hb dX2_workOut_236 ?_
        refine lv_lstore (lv' := [(23, .long (zL (g 1 A + sStp g A B (sPrd g A B)))), (27, .long (zL (g 3 A))), (25, .long (zL (g 2 A))), (21, .long (zL (sStp g A B (sPrd g A B)))), (19, .long (zL (sVm g A B))), (11, .long (zL (sWgt g A B))), (5, .long (zL (sPrd g A B))), (3, .long (zL (sSmp g A B))), (0, .ref (b 0)), (1, .int (zI (A : Int))), (2, .int (zI (B : Int)))]) hx hb dX2_workOut_237 hl (by decide) rfl (fun ls hl => ?_)
        refine lv_goto (tgt := 341) hx hb dX2_workOut_239 (by decide) ?_
        have hl : lv_has ls 33 [(23, .long (zL (g 1 A + (if sPrd g A B = 0 then sStp g A B (sPrd g A B) else (sStp g A B (sPrd g A B) * (g 1 A - g 1 B)).tdiv (sPrd g A B))))), (27, .long (zL (g 3 A + (if sPrd g A B = 0 then 0 else (sStp g A B (sPrd g A B) * (g 3 A + g 3 B)).tdiv (sPrd g A B))))), (25, .long (zL (g 2 A + (if sPrd g A B = 0 then 0 else (sStp g A B (sPrd g A B) * (g 2 A - g 2 B)).tdiv (sPrd g A B))))), (21, .long (zL (sStp g A B (sPrd g A B)))), (19, .long (zL (sVm g A B))), (11, .long (zL (sWgt g A B))), (5, .long (zL (sPrd g A B))), (3, .long (zL (sSmp g A B))), (0, .ref (b 0)), (1, .int (zI (A : Int))), (2, .int (zI (B : Int)))] := by rw [if_pos c_228, if_pos c_228, if_pos c_228, Int.add_zero, Int.add_zero]; exact hl
        exact j341 H locs hP hD hS ls (lv_sub hl [0, 2, 1, 8] rfl)
    refine zr_lcmp_ge (tgt := 138) hx hb dX2_workOut_130 dX2_workOut_131 (by decide) (by omega) (by omega) (fun c_130 => ?_) (fun c_130 => ?_)
    · refine lv_lload hx hb dX2_workOut_138 (lv_at hl 0 rfl) ?_
      refine zr_topL (sErr g A B (sPrd g A B)) (if_neg (by omega)).symm ?_
      exact j140 ls (lv_sub hl [3, 5, 6, 7, 8, 9] rfl)
    · refine zr_lconst hx hb 1 (by decide) dX2_workOut_134 ?_
      refine zr_topL (sErr g A B (sPrd g A B)) (if_pos (by omega)).symm ?_
      refine lv_goto (tgt := 140) hx hb dX2_workOut_135 (by decide) ?_
      exact j140 ls (lv_sub hl [3, 5, 6, 7, 8, 9] rfl)
  refine zr_lcmp_le (tgt := 85) hx hb dX2_workOut_75 dX2_workOut_76 (by decide) (by omega) (by omega) (fun c_75 => ?_) (fun c_75 => ?_)
  · refine lv_lload hx hb dX2_workOut_85 (lv_at hl 0 rfl) ?_
    refine zr_topL (sEs g A B (sPrd g A B)) (if_neg (by omega)).symm ?_
    exact j87 ls (lv_sub hl [1, 3, 4, 5, 6, 7, 8] rfl)
  · refine zr_ldc2 hx hb (1000) hown k_75 (by decide) dX2_workOut_79 ?_
    refine zr_topL (sEs g A B (sPrd g A B)) (if_pos (by omega)).symm ?_
    refine lv_goto (tgt := 87) hx hb dX2_workOut_82 (by decide) ?_
    exact j87 ls (lv_sub hl [1, 3, 4, 5, 6, 7, 8] rfl)
set_option maxHeartbeats 4000000 in
set_option maxRecDepth 100000 in
/-- update -/
theorem c_X2_update (l : Launch) (dC : Nat → ClassId) (dI : Nat → Nat → Nat) (cI cZ cS : ClassId) (b : Nat → Nat) (g : Nat → Nat → Int) (w S V o : Nat → Int) (r : Int) (hg : gB g r) (A B : Nat) (hA : A < 10) (hB : B < 10) (hk : 1 ≤ g 6 (10 * A + B)) : Met l yX2_update wsX2_update ({ frames := 4, cells := 0, slots := 0, locals := 124 } : Room) (wr_Pc dC dI cI cZ cS (mdw cI cZ b g w S V o) [.ref (b 0), .int (zI (A : Int)), .int (zI (B : Int))]) (wr_Qc dC dI (mdw cI cZ b g w S V o) (mdw cI cZ b (sUpd g A B) (wOut g A B w) S V o) none) 0 0 (wr_ad (mdw cI cZ b g w S V o)) := by
  refine wr_met (cc := cX2_update) (maxL := 3) (ret := none) (by decide) rfl (Nat.le_of_ble_eq_true rfl) ?_
  intro p e s m below meth c ls hx hb hml hr hlocks hts hown hP hD hS hK hl
  have hl : lv_has ls 3 [(0, .ref (b 0)), (1, .int (zI (A : Int))), (2, .int (zI (B : Int)))] := hl
  have hinX2 : ∀ w ∈ u_ws RX2 TX2 11, w ∈ wsX2_update := by decide +kernel
  have f_7 := hts (.fieldLink RX2 7 "NetworkCoordinatesModel" "state" "[I") (by decide +kernel)
  have f_88 := hts (.fieldLink RX2 88 "NetworkCoordinatesModel" "newX" "I") (by decide +kernel)
  have f_91 := hts (.fieldLink RX2 91 "NetworkCoordinatesModel" "newY" "I") (by decide +kernel)
  have f_94 := hts (.fieldLink RX2 94 "NetworkCoordinatesModel" "newHeight" "I") (by decide +kernel)
  have f_80 := hts (.fieldLink RX2 80 "NetworkCoordinatesModel" "newError" "I") (by decide +kernel)
  have b0 := hg.1
  have bA := hg.2.1 A hA
  have bB := hg.2.1 B hB
  refine lv_aload_n hx hb dX2_update_0 rfl (lv_at hl 0 rfl) ?_
  refine lv_iload_n hx hb dX2_update_1 rfl (lv_at hl 1 rfl) ?_
  refine lv_iload_n hx hb dX2_update_2 rfl (lv_at hl 2 rfl) ?_
  refine wr_callV (As := [.int (zI (A : Int)), .int (zI (B : Int))]) (rest := []) ⟨hx, hb, hml, hown, hts⟩ (c_X2_workOut l dC dI cI cZ cS b g w S V o r hg A B (by omega) (by omega) (by omega)) (cwV 2 hts gX2_update_X2_workOut rfl rfl rfl (by decide +kernel) ⟨Nat.le_of_ble_eq_true rfl, Nat.le_of_ble_eq_true rfl⟩) hP hD hS hK 0 rfl rfl rfl hl.1 rfl (Nat.le_of_ble_eq_true rfl) dX2_update_3 ⟨Nat.zero_le _, Nat.zero_le _⟩ (fun H locs hP1 hk1 hS => ?_)
  have hP : va_P (dC, dI) vwCl (mdw cI cZ b g (wOut g A B w) S V o) H := hP1
  have hD : va_D (wr_ad (mdw cI cZ b g w S V o)) (mdw cI cZ b g (wOut g A B w) S V o) := va_D_adr hD rfl
  refine lv_aload_n hx hb dX2_update_6 rfl (lv_at hl 0 rfl) ?_
  refine va_get (D := (dC, dI)) (ci := 2) (v := .ref (b 1)) (C := RX2) (T := TX2) (N := 11) hx hb hts hinX2 hown hK.1 hP 0 rfl rfl 0 (by decide) f_7 (fun _ h9 => h9) rfl dX2_update_7 ?_
  refine zr_iconst hx hb dX2_update_10 ?_
  refine lv_iload_n hx hb dX2_update_11 rfl (lv_at hl 1 rfl) ?_
  refine zr_iadd hx hb dX2_update_12 ?_
  refine lv_aload_n hx hb dX2_update_13 rfl (lv_at hl 0 rfl) ?_
  refine va_get (D := (dC, dI)) (ci := 2) (v := .int (zI ((wOut g A B w) 0))) (C := RX2) (T := TX2) (N := 11) hx hb hts hinX2 hown hK.1 hP 0 rfl rfl 3 (by decide) f_88 (fun _ h9 => h9) rfl dX2_update_14 ?_
  refine zr_iast hx hb hK.1 hP hD hS 1 0 rfl rfl (5 + A) (flat (gset g 1 A ((wOut g A B w) 0))) (by omega) (by omega) (Nat.le_of_ble_eq_true rfl) (flat_s1 (by omega)) dX2_update_17 (fun H locs hP hD hS => ?_)
  refine lv_aload_n hx hb dX2_update_18 rfl (lv_at hl 0 rfl) ?_
  refine va_get (D := (dC, dI)) (ci := 2) (v := .ref (b 1)) (C := RX2) (T := TX2) (N := 11) hx hb hts hinX2 hown hK.1 hP 0 rfl rfl 0 (by decide) f_7 (fun _ h9 => h9) rfl dX2_update_19 ?_
  refine zr_bipush hx hb dX2_update_22 (by decide) ?_
  refine lv_iload_n hx hb dX2_update_24 rfl (lv_at hl 1 rfl) ?_
  refine zr_iadd hx hb dX2_update_25 ?_
  refine lv_aload_n hx hb dX2_update_26 rfl (lv_at hl 0 rfl) ?_
  refine va_get (D := (dC, dI)) (ci := 2) (v := .int (zI ((wOut g A B w) 1))) (C := RX2) (T := TX2) (N := 11) hx hb hts hinX2 hown hK.1 hP 0 rfl rfl 4 (by decide) f_91 (fun _ h9 => h9) rfl dX2_update_27 ?_
  refine zr_iast hx hb hK.1 hP hD hS 1 0 rfl rfl (15 + A) (flat (gset (gset g 1 A ((wOut g A B w) 0)) 2 A ((wOut g A B w) 1))) (by omega) (by omega) (Nat.le_of_ble_eq_true rfl) (flat_s2 (by omega)) dX2_update_30 (fun H locs hP hD hS => ?_)
  refine lv_aload_n hx hb dX2_update_31 rfl (lv_at hl 0 rfl) ?_
  refine va_get (D := (dC, dI)) (ci := 2) (v := .ref (b 1)) (C := RX2) (T := TX2) (N := 11) hx hb hts hinX2 hown hK.1 hP 0 rfl rfl 0 (by decide) f_7 (fun _ h9 => h9) rfl dX2_update_32 ?_
  refine zr_bipush hx hb dX2_update_35 (by decide) ?_
  refine lv_iload_n hx hb dX2_update_37 rfl (lv_at hl 1 rfl) ?_
  refine zr_iadd hx hb dX2_update_38 ?_
  refine lv_aload_n hx hb dX2_update_39 rfl (lv_at hl 0 rfl) ?_
  refine va_get (D := (dC, dI)) (ci := 2) (v := .int (zI ((wOut g A B w) 2))) (C := RX2) (T := TX2) (N := 11) hx hb hts hinX2 hown hK.1 hP 0 rfl rfl 5 (by decide) f_94 (fun _ h9 => h9) rfl dX2_update_40 ?_
  refine zr_iast hx hb hK.1 hP hD hS 1 0 rfl rfl (25 + A) (flat (gset (gset (gset g 1 A ((wOut g A B w) 0)) 2 A ((wOut g A B w) 1)) 3 A ((wOut g A B w) 2))) (by omega) (by omega) (Nat.le_of_ble_eq_true rfl) (flat_s3 (by omega)) dX2_update_43 (fun H locs hP hD hS => ?_)
  refine lv_aload_n hx hb dX2_update_44 rfl (lv_at hl 0 rfl) ?_
  refine va_get (D := (dC, dI)) (ci := 2) (v := .ref (b 1)) (C := RX2) (T := TX2) (N := 11) hx hb hts hinX2 hown hK.1 hP 0 rfl rfl 0 (by decide) f_7 (fun _ h9 => h9) rfl dX2_update_45 ?_
  refine zr_bipush hx hb dX2_update_48 (by decide) ?_
  refine lv_iload_n hx hb dX2_update_50 rfl (lv_at hl 1 rfl) ?_
  refine zr_iadd hx hb dX2_update_51 ?_
  refine lv_aload_n hx hb dX2_update_52 rfl (lv_at hl 0 rfl) ?_
  refine va_get (D := (dC, dI)) (ci := 2) (v := .int (zI ((wOut g A B w) 3))) (C := RX2) (T := TX2) (N := 11) hx hb hts hinX2 hown hK.1 hP 0 rfl rfl 6 (by decide) f_80 (fun _ h9 => h9) rfl dX2_update_53 ?_
  refine zr_iast hx hb hK.1 hP hD hS 1 0 rfl rfl (35 + A) (flat (gset (gset (gset (gset g 1 A ((wOut g A B w) 0)) 2 A ((wOut g A B w) 1)) 3 A ((wOut g A B w) 2)) 4 A ((wOut g A B w) 3))) (by omega) (by omega) (Nat.le_of_ble_eq_true rfl) (flat_s4 (by omega)) dX2_update_56 (fun H locs hP hD hS => ?_)
  exact wr_vret hx hb hr hlocks (show va_P (dC, dI) vwCl (mdw cI cZ b (sUpd g A B) (wOut g A B w) S V o) H from hP) hS dX2_update_57
set_option maxHeartbeats 4000000 in
set_option maxRecDepth 100000 in
/-- measure -/
theorem c_X2_measure (l : Launch) (dC : Nat → ClassId) (dI : Nat → Nat → Nat) (cI cZ cS : ClassId) (b : Nat → Nat) (g : Nat → Nat → Int) (w S V o : Nat → Int) (r : Int) (hg : gB g r) (u : Int) (hu : -2147483648 ≤ u ∧ u ≤ 2147483647) (v : Int) (hv : -2147483648 ≤ v ∧ v ≤ 2147483647) : Met l yX2_measure wsX2_measure ({ frames := 5, cells := 0, slots := 0, locals := 146 } : Room) (wr_Pc dC dI cI cZ cS (mdw cI cZ b g w S V o) [.ref (b 0), .int (zI u), .int (zI v)]) (wr_Qc dC dI (mdw cI cZ b g w S V o) (mdw cI cZ b (nMeasure g u v) (wMeas g u v w) S V o) (some (.int (zI (aMeasure g u v))))) 0 0 (wr_ad (mdw cI cZ b g w S V o)) := by
  refine wr_met (cc := cX2_measure) (maxL := 4) (ret := (some .int)) (by decide) rfl (Nat.le_of_ble_eq_true rfl) ?_
  intro p e s m below meth c ls hx hb hml hr hlocks hts hown hP hD hS hK hl
  have hl : lv_has ls 4 [(0, .ref (b 0)), (1, .int (zI u)), (2, .int (zI v))] := hl
  have b0 := hg.1
  have s0 := sKf_rng g u v
  refine lv_aload_n hx hb dX2_measure_0 rfl (lv_at hl 0 rfl) ?_
  refine lv_iload_n hx hb dX2_measure_1 rfl (lv_at hl 1 rfl) ?_
  refine lv_iload_n hx hb dX2_measure_2 rfl (lv_at hl 2 rfl) ?_
  refine rd_callV (As := [.int (zI u), .int (zI v)]) (rest := []) ⟨hx, hb, hml, hown, hts⟩ (c_X2_wrongKnown l dC dI cI cZ cS b g w S V o r hg   u (by omega) v (by omega) ) (cwV 2 hts gX2_measure_X2_wrongKnown rfl rfl rfl (by decide +kernel) ⟨Nat.le_of_ble_eq_true rfl, Nat.le_of_ble_eq_true rfl⟩) hP hK 0 rfl rfl rfl hl.1 rfl (Nat.le_of_ble_eq_true rfl) dX2_measure_3 ⟨Nat.zero_le _, Nat.zero_le _⟩ ?_
  refine lv_istore_n (lv' := [(3, .int (zI (sKf g u v))), (0, .ref (b 0)), (1, .int (zI u)), (2, .int (zI v))]) hx hb dX2_measure_6 rfl hl (by decide) rfl (fun ls hl => ?_)
  refine lv_iload_n hx hb dX2_measure_7 rfl (lv_at hl 0 rfl) ?_
  refine zr_if_eq (tgt := 13) hx hb dX2_measure_8 (by decide) (by omega) (fun c_8 => ?_) (fun c_8 => ?_)
  · obtain ⟨c1, c2⟩ := sKf_0 c_8
    obtain ⟨A, B, rfl, rfl, hA2, hB2, hA, hB, hAB, eA, eB⟩ := z_nodes hg c1
    have kAB := hg.2.2 A B hA hB
    rw [eA, eB] at c2
    have hgU := sUpd_gB hg hA hB c2
    refine lv_aload_n hx hb dX2_measure_13 rfl (lv_at hl 1 rfl) ?_
    refine lv_iload_n hx hb dX2_measure_14 rfl (lv_at hl 2 rfl) ?_
    refine lv_iload_n hx hb dX2_measure_15 rfl (lv_at hl 3 rfl) ?_
    refine wr_callV (As := [.int (zI (A : Int)), .int (zI (B : Int))]) (rest := []) ⟨hx, hb, hml, hown, hts⟩ (c_X2_update l dC dI cI cZ cS b g w S V o r hg A B (by omega) (by omega) (by omega)) (cwV 2 hts gX2_measure_X2_update rfl rfl rfl (by decide +kernel) ⟨Nat.le_of_ble_eq_true rfl, Nat.le_of_ble_eq_true rfl⟩) hP hD hS hK 0 rfl rfl rfl hl.1 rfl (Nat.le_of_ble_eq_true rfl) dX2_measure_16 ⟨Nat.zero_le _, Nat.zero_le _⟩ (fun H locs hP1 hk1 hS => ?_)
    have hP : va_P (dC, dI) vwCl (mdw cI cZ b (sUpd g A B) (wOut g A B w) S V o) H := hP1
    have hD : va_D (wr_ad (mdw cI cZ b g w S V o)) (mdw cI cZ b (sUpd g A B) (wOut g A B w) S V o) := va_D_adr hD rfl
    refine lv_aload_n hx hb dX2_measure_19 rfl (lv_at hl 1 rfl) ?_
    refine lv_iload_n hx hb dX2_measure_20 rfl (lv_at hl 2 rfl) ?_
    refine lv_iload_n hx hb dX2_measure_21 rfl (lv_at hl 3 rfl) ?_
    refine rd_callV (As := [.int (zI (A : Int)), .int (zI (B : Int))]) (rest := []) ⟨hx, hb, hml, hown, hts⟩ (c_X2_sample l dC dI cI cZ cS b (sUpd g A B) (wOut g A B w) S V o r hgU A B (by omega) (by omega)  ) (cwV 2 hts gX2_measure_X2_sample rfl rfl rfl (by decide +kernel) ⟨Nat.le_of_ble_eq_true rfl, Nat.le_of_ble_eq_true rfl⟩) hP hK 0 rfl rfl rfl hl.1 rfl (Nat.le_of_ble_eq_true rfl) dX2_measure_22 ⟨Nat.zero_le _, Nat.zero_le _⟩ ?_
    exact wr_iret hx hb hr hlocks (show va_P (dC, dI) vwCl (mdw cI cZ b (nMeasure g (A : Int) (B : Int)) (wMeas g (A : Int) (B : Int) w) S V o) _ by rw [show nMeasure g (A : Int) (B : Int) = sUpd g A B from (if_pos c_8).trans (by rw [eA, eB]), show wMeas g (A : Int) (B : Int) w = wOut g A B w from (if_pos c_8).trans (by rw [eA, eB])]; exact hP) hS (by unfold aMeasure; rw [if_pos c_8, eA, eB]; rfl) dX2_measure_25
  · refine lv_iload_n hx hb dX2_measure_11 rfl (lv_at hl 0 rfl) ?_
    exact wr_iret hx hb hr hlocks (show va_P (dC, dI) vwCl (mdw cI cZ b (nMeasure g u v) (wMeas g u v w) S V o) _ by rw [show nMeasure g u v = g from if_neg c_8, show wMeas g u v w = w from if_neg c_8]; exact hP) hS (by unfold aMeasure; rw [if_neg c_8]) dX2_measure_12
set_option maxHeartbeats 4000000 in
set_option maxRecDepth 100000 in
/-- round -/
theorem c_X2_round (l : Launch) (dC : Nat → ClassId) (dI : Nat → Nat → Nat) (cI cZ cS : ClassId) (b : Nat → Nat) (g : Nat → Nat → Int) (w S V o : Nat → Int) (r : Int) (hg : gB g r) (hr1 : r ≤ 2000000000) : Met l yX2_round wsX2_round ({ frames := 5, cells := 0, slots := 0, locals := 146 } : Room) (wr_Pc dC dI cI cZ cS (mdw cI cZ b g w S V o) [.ref (b 0)]) (wr_Qc dC dI (mdw cI cZ b g w S V o) (mdw cI cZ b (sRnd g) (wRnd g w) S V o) (some (.int (zI (sRndC g))))) 0 0 (wr_ad (mdw cI cZ b g w S V o)) := by
  refine wr_met (cc := cX2_round) (maxL := 5) (ret := (some .int)) (by decide) rfl (Nat.le_of_ble_eq_true rfl) ?_
  intro p e s m below meth c ls hx hb hml hr hlocks hts hown hP hD hS hK hl
  have hl : lv_has ls 5 [(0, .ref (b 0))] := hl
  have hinX2 : ∀ w ∈ u_ws RX2 TX2 11, w ∈ wsX2_round := by decide +kernel
  have f_7 := hts (.fieldLink RX2 7 "NetworkCoordinatesModel" "state" "[I") (by decide +kernel)
  have b0 := hg.1
  have hN := gN_eq hg
  have hsh := sShf_bd hg
  refine lv_aload_n hx hb dX2_round_0 rfl (lv_at hl 0 rfl) ?_
  refine va_get (D := (dC, dI)) (ci := 2) (v := .ref (b 1)) (C := RX2) (T := TX2) (N := 11) hx hb hts hinX2 hown hK.1 hP 0 rfl rfl 0 (by decide) f_7 (fun _ h9 => h9) rfl dX2_round_1 ?_
  refine zr_iconst hx hb dX2_round_4 ?_
  refine zr_iald hx hb hK.1 hP 1 0 rfl rfl 0 (g 0 0) (by omega) (by omega) (Nat.le_of_ble_eq_true rfl) (flat_0 (by decide)) dX2_round_5 ?_
  refine zr_topI ((gN g : Nat) : Int) hN.1 ?_
  refine lv_istore_n (lv' := [(1, .int (zI ((gN g : Nat) : Int))), (0, .ref (b 0))]) hx hb dX2_round_6 rfl hl (by decide) rfl (fun ls hl => ?_)
  refine zr_iconst hx hb dX2_round_7 ?_
  refine lv_istore_n (lv' := [(2, .int (zI 0)), (1, .int (zI ((gN g : Nat) : Int))), (0, .ref (b 0))]) hx hb dX2_round_8 rfl hl (by decide) rfl (fun ls hl => ?_)
  refine zr_iconst hx hb dX2_round_9 ?_
  refine lv_istore_n (lv' := [(3, .int (zI 0)), (2, .int (zI 0)), (1, .int (zI ((gN g : Nat) : Int))), (0, .ref (b 0))]) hx hb dX2_round_10 rfl hl (by decide) rfl (fun ls hl => ?_)
  have loop : ∀ (k_loop i : Nat), i + k_loop = gN g → ∀ (G : Nat → Nat → Int) (Y : Nat → Int), G = sRow (gN g) (sShf g) g i → Y = wRow (gN g) (sShf g) g w i → ∀ (H : Heap) (locs : List Loc), va_P (dC, dI) vwCl (mdw cI cZ b G Y S V o) H → va_D (wr_ad (mdw cI cZ b g w S V o)) (mdw cI cZ b G Y S V o) → va_S (wr_ad (mdw cI cZ b g w S V o)) s.heap H locs → ∀ ls : Array Slot, lv_has ls 5 [(3, .int (zI (i : Int))), (2, .int (zI (sCnt (gN g) (sShf g) g i))), (1, .int (zI ((gN g : Nat) : Int))), (0, .ref (b 0))] → W p l e ({ frames := 5, cells := 0, slots := 0, locals := 146 } : Room) s m [.ref (b 0)].toArray below meth c H locs 0 0 (MQ below (wr_Qc dC dI (mdw cI cZ b g w S V o) (mdw cI cZ b (sRnd g) (wRnd g w) S V o) (some (.int (zI (sRndC g))))) [.ref (b 0)].toArray s 0 0 (wr_ad (mdw cI cZ b g w S V o))) (F0 m 11 ls []) := by
    intro k_loop
    induction k_loop with
    | zero =>
      intro i hi G Y hG hY H locs hP hD hS ls hl
      obtain ⟨hGB, hG0, hG5, hG6⟩ := sRow_inv hg hN.2.2 hsh.1 i (by omega)
      rw [← hG] at hGB hG0 hG5 hG6
      have e0 : G 0 0 = g 0 0 := by rw [hG0]
      have e1 : G 0 1 = g 0 1 := by rw [hG0]
      refine lv_iload_n hx hb dX2_round_11 rfl (lv_at hl 0 rfl) ?_
      refine lv_iload_n hx hb dX2_round_12 rfl (lv_at hl 2 rfl) ?_
      refine zr_icmp_ge (tgt := 64) hx hb dX2_round_13 (by decide) (by omega) (by omega) (fun c_13 => ?_) (fun c_13 => absurd c_13 (by omega))
      refine lv_aload_n hx hb dX2_round_64 rfl (lv_at hl 3 rfl) ?_
      refine va_get (D := (dC, dI)) (ci := 2) (v := .ref (b 1)) (C := RX2) (T := TX2) (N := 11) hx hb hts hinX2 hown hK.1 hP 0 rfl rfl 0 (by decide) f_7 (fun _ h9 => h9) rfl dX2_round_65 ?_
      refine zr_iconst hx hb dX2_round_68 ?_
      refine lv_dup2_11 hx hb dX2_round_69 rfl rfl ?_
      refine zr_iald hx hb hK.1 hP 1 0 rfl rfl 1 (G 0 1) (by omega) (by omega) (Nat.le_of_ble_eq_true rfl) (flat_0 (by decide)) dX2_round_70 ?_
      refine zr_iconst hx hb dX2_round_71 ?_
      refine zr_iadd hx hb dX2_round_72 ?_
      refine zr_topI (g 0 1 + 1) (by rw [e1]) ?_
      refine zr_iast hx hb hK.1 hP hD hS 1 0 rfl rfl 1 (flat (gset G 0 1 (g 0 1 + 1))) (by omega) (by omega) (Nat.le_of_ble_eq_true rfl) (flat_s0 (by decide)) dX2_round_73 (fun H locs hP hD hS => ?_)
      refine lv_iload_n hx hb dX2_round_74 rfl (lv_at hl 1 rfl) ?_
      have hi2 : i = gN g := by omega
      subst hi2
      subst hG
      subst hY
      exact wr_iret hx hb hr hlocks (show va_P (dC, dI) vwCl (mdw cI cZ b (sRnd g) (wRnd g w) S V o) H from hP) hS rfl dX2_round_75
    | succ k_loop ih_loop =>
      intro i hi G Y hG hY H locs hP hD hS ls hl
      obtain ⟨hGB, hG0, hG5, hG6⟩ := sRow_inv hg hN.2.2 hsh.1 i (by omega)
      rw [← hG] at hGB hG0 hG5 hG6
      have e0 : G 0 0 = g 0 0 := by rw [hG0]
      have e1 : G 0 1 = g 0 1 := by rw [hG0]
      have hbd := sB_bd (n := gN g) (sh := sShf g) (i := i) (by omega) hsh.1
      have kib := hGB.2.2 i (sB (gN g) (sShf g) i) (by omega) (by omega)
      refine lv_iload_n hx hb dX2_round_11 rfl (lv_at hl 0 rfl) ?_
      refine lv_iload_n hx hb dX2_round_12 rfl (lv_at hl 2 rfl) ?_
      refine zr_icmp_ge (tgt := 64) hx hb dX2_round_13 (by decide) (by omega) (by omega) (fun c_13 => absurd c_13 (by omega)) (fun c_13 => ?_)
      refine lv_iload_n hx hb dX2_round_16 rfl (lv_at hl 0 rfl) ?_
      refine zr_iconst hx hb dX2_round_17 ?_
      refine zr_iadd hx hb dX2_round_18 ?_
      refine lv_aload_n hx hb dX2_round_19 rfl (lv_at hl 3 rfl) ?_
      refine va_get (D := (dC, dI)) (ci := 2) (v := .ref (b 1)) (C := RX2) (T := TX2) (N := 11) hx hb hts hinX2 hown hK.1 hP 0 rfl rfl 0 (by decide) f_7 (fun _ h9 => h9) rfl dX2_round_20 ?_
      refine zr_iconst hx hb dX2_round_23 ?_
      refine zr_iald hx hb hK.1 hP 1 0 rfl rfl 1 (G 0 1) (by omega) (by omega) (Nat.le_of_ble_eq_true rfl) (flat_0 (by decide)) dX2_round_24 ?_
      refine lv_iload_n hx hb dX2_round_25 rfl (lv_at hl 2 rfl) ?_
      refine zr_iconst hx hb dX2_round_26 ?_
      refine zr_isub hx hb dX2_round_27 ?_
      refine zr_irem hx hb (by omega) (by omega) dX2_round_28 ?_
      refine zr_topI ((sShf g : Nat) : Int) (by rw [hsh.2, hN.1, e1]) ?_
      refine zr_iadd hx hb dX2_round_29 ?_
      refine lv_iload_n hx hb dX2_round_30 rfl (lv_at hl 2 rfl) ?_
      refine zr_irem hx hb (by omega) (by omega) dX2_round_31 ?_
      refine zr_topI ((sB (gN g) (sShf g) i : Nat) : Int) (sB_mod (by omega) hsh.1) ?_
      refine lv_istore (lv' := [(4, .int (zI ((sB (gN g) (sShf g) i : Nat) : Int))), (3, .int (zI (i : Int))), (2, .int (zI (sCnt (gN g) (sShf g) g i))), (1, .int (zI ((gN g : Nat) : Int))), (0, .ref (b 0))]) hx hb dX2_round_32 hl (by decide) rfl (fun ls hl => ?_)
      refine lv_aload_n hx hb dX2_round_34 rfl (lv_at hl 4 rfl) ?_
      refine va_get (D := (dC, dI)) (ci := 2) (v := .ref (b 1)) (C := RX2) (T := TX2) (N := 11) hx hb hts hinX2 hown hK.1 hP 0 rfl rfl 0 (by decide) f_7 (fun _ h9 => h9) rfl dX2_round_35 ?_
      refine lv_iload_n hx hb dX2_round_38 rfl (lv_at hl 1 rfl) ?_
      refine lv_iload hx hb dX2_round_39 (lv_at hl 0 rfl) ?_
      refine rd_callS (As := [.int (zI (i : Int)), .int (zI ((sB (gN g) (sShf g) i : Nat) : Int))]) (rest := [.ref (b 1)]) ⟨hx, hb, hml, hown, hts⟩ (c_X2_cell l dC dI cI cZ cS i (sB (gN g) (sShf g) i)) (va_cwS 2 hts gX2_round_X2_cell rfl rfl rfl (by decide +kernel) ⟨Nat.le_of_ble_eq_true rfl, Nat.le_of_ble_eq_true rfl⟩) va_P_nil hK rfl hl.1 rfl (Nat.le_of_ble_eq_true rfl) dX2_round_41 ⟨Nat.zero_le _, Nat.zero_le _⟩ ?_
      refine zr_iald hx hb hK.1 hP 1 0 rfl rfl (55 + (10 * i + (sB (gN g) (sShf g) i))) (G 6 (10 * i + (sB (gN g) (sShf g) i))) (by omega) (by omega) (Nat.le_of_ble_eq_true rfl) flat_6 dX2_round_44 ?_
      refine zr_if_le (tgt := 58) hx hb dX2_round_45 (by decide) (by omega) (fun c_45 => ?_) (fun c_45 => ?_)
      · have c_g : ¬ 1 ≤ g 6 (10 * i + sB (gN g) (sShf g) i) := by rw [← hG6]; omega
        have hl : lv_has ls 5 [(4, .int (zI ((sB (gN g) (sShf g) i : Nat) : Int))), (3, .int (zI (i : Int))), (2, .int (zI (sCnt (gN g) (sShf g) g (i + 1)))), (1, .int (zI ((gN g : Nat) : Int))), (0, .ref (b 0))] := by rw [show sCnt (gN g) (sShf g) g (i + 1) = sCnt (gN g) (sShf g) g i from by unfold sCnt; rw [sm_succ, if_neg c_g]; omega]; exact hl
        refine zr_iinc (b := ((i + 1 : Nat) : Int)) (lv' := [(3, .int (zI ((i + 1 : Nat) : Int))), (4, .int (zI ((sB (gN g) (sShf g) i : Nat) : Int))), (2, .int (zI (sCnt (gN g) (sShf g) g (i + 1)))), (1, .int (zI ((gN g : Nat) : Int))), (0, .ref (b 0))]) hx hb dX2_round_58 hl (k := 1) rfl (by omega) (by decide) rfl (fun ls hl => ?_)
        refine lv_goto (tgt := 11) hx hb dX2_round_61 (by decide) ?_
        exact ih_loop (i + 1) (by omega) G Y (by rw [hG]; exact (if_neg c_g).symm) (by rw [hY]; exact (if_neg c_g).symm) H locs hP hD hS ls (lv_sub hl [0, 2, 3, 4] rfl)
      · have c_k : 1 ≤ G 6 (10 * i + sB (gN g) (sShf g) i) := by omega
        have c_g : 1 ≤ g 6 (10 * i + sB (gN g) (sShf g) i) := by rw [← hG6]; exact c_k
        refine lv_aload_n hx hb dX2_round_48 rfl (lv_at hl 4 rfl) ?_
        refine lv_iload_n hx hb dX2_round_49 rfl (lv_at hl 1 rfl) ?_
        refine lv_iload hx hb dX2_round_50 (lv_at hl 0 rfl) ?_
        refine wr_callV (As := [.int (zI (i : Int)), .int (zI ((sB (gN g) (sShf g) i : Nat) : Int))]) (rest := []) ⟨hx, hb, hml, hown, hts⟩ (c_X2_update l dC dI cI cZ cS b G Y S V o r hGB i (sB (gN g) (sShf g) i) (by omega) (by omega) c_k) (cwV 2 hts gX2_round_X2_update rfl rfl rfl (by decide +kernel) ⟨Nat.le_of_ble_eq_true rfl, Nat.le_of_ble_eq_true rfl⟩) hP hD hS hK 0 rfl rfl rfl hl.1 rfl (Nat.le_of_ble_eq_true rfl) dX2_round_52 ⟨Nat.zero_le _, Nat.zero_le _⟩ (fun H locs hP1 hk1 hS => ?_)
        have hP : va_P (dC, dI) vwCl (mdw cI cZ b (sUpd G i (sB (gN g) (sShf g) i)) (wOut G i (sB (gN g) (sShf g) i) Y) S V o) H := hP1
        have hD : va_D (wr_ad (mdw cI cZ b g w S V o)) (mdw cI cZ b (sUpd G i (sB (gN g) (sShf g) i)) (wOut G i (sB (gN g) (sShf g) i) Y) S V o) := va_D_adr hD rfl
        refine zr_iinc (b := (sCnt (gN g) (sShf g) g (i + 1))) (lv' := [(2, .int (zI (sCnt (gN g) (sShf g) g (i + 1)))), (4, .int (zI ((sB (gN g) (sShf g) i : Nat) : Int))), (3, .int (zI (i : Int))), (1, .int (zI ((gN g : Nat) : Int))), (0, .ref (b 0))]) hx hb dX2_round_55 hl (k := 2) rfl (by unfold sCnt; rw [sm_succ, if_pos c_g]) (by decide) rfl (fun ls hl => ?_)
        refine zr_iinc (b := ((i + 1 : Nat) : Int)) (lv' := [(3, .int (zI ((i + 1 : Nat) : Int))), (2, .int (zI (sCnt (gN g) (sShf g) g (i + 1)))), (4, .int (zI ((sB (gN g) (sShf g) i : Nat) : Int))), (1, .int (zI ((gN g : Nat) : Int))), (0, .ref (b 0))]) hx hb dX2_round_58 hl (k := 2) rfl (by omega) (by decide) rfl (fun ls hl => ?_)
        refine lv_goto (tgt := 11) hx hb dX2_round_61 (by decide) ?_
        exact ih_loop (i + 1) (by omega) (sUpd G i (sB (gN g) (sShf g) i)) (wOut G i (sB (gN g) (sShf g) i) Y) (by rw [hG]; exact (if_pos c_g).symm) (by rw [hG, hY]; exact (if_pos c_g).symm) H locs hP hD hS ls (lv_sub hl [0, 1, 3, 4] rfl)
  exact loop (gN g) 0 (by omega) g w rfl rfl s.heap [] hP hD hS ls (lv_sub hl [0, 1, 2, 3] rfl)
set_option maxHeartbeats 4000000 in
set_option maxRecDepth 100000 in
/-- run -/
theorem c_X2_run (l : Launch) (dC : Nat → ClassId) (dI : Nat → Nat → Nat) (cI cZ cS : ClassId) (b : Nat → Nat) (g : Nat → Nat → Int) (w S V o : Nat → Int) (r : Int) (hg : gB g r) (u : Int) (hu : -2147483648 ≤ u ∧ u ≤ 2147483647) (hr1 : r ≤ 1000000000) : Met l yX2_run wsX2_run ({ frames := 6, cells := 0, slots := 0, locals := 170 } : Room) (wr_Pc dC dI cI cZ cS (mdw cI cZ b g w S V o) [.ref (b 0), .int (zI u)]) (wr_Qc dC dI (mdw cI cZ b g w S V o) (mdw cI cZ b (nRun g u) (wRunA g w u) S V o) (some (.int (zI (aRun g u))))) 0 0 (wr_ad (mdw cI cZ b g w S V o)) := by
  refine wr_met (cc := cX2_run) (maxL := 4) (ret := (some .int)) (by decide) rfl (Nat.le_of_ble_eq_true rfl) ?_
  intro p e s m below meth c ls hx hb hml hr hlocks hts hown hP hD hS hK hl
  have hl : lv_has ls 4 [(0, .ref (b 0)), (1, .int (zI u))] := hl
  have k_35 := hts (.constant RX2 35 (-1000002)) (by decide +kernel)
  have b0 := hg.1
  refine lv_iload_n hx hb dX2_run_0 rfl (lv_at hl 1 rfl) ?_
  refine zr_iconst hx hb dX2_run_1 ?_
  refine zr_bipush hx hb dX2_run_2 (by decide) ?_
  refine rd_callS (As := [.int (zI u), .int (zI 1), .int (zI 100)]) (rest := []) ⟨hx, hb, hml, hown, hts⟩ (c_X2_in l dC dI cI cZ cS u 1 100 (by omega) (by omega) (by omega)) (va_cwS 3 hts gX2_run_X2_in rfl rfl rfl (by decide +kernel) ⟨Nat.le_of_ble_eq_true rfl, Nat.le_of_ble_eq_true rfl⟩) va_P_nil hK rfl hl.1 rfl (Nat.le_of_ble_eq_true rfl) dX2_run_4 ⟨Nat.zero_le _, Nat.zero_le _⟩ ?_
  refine zr_bif_ne (tgt := 13) hx hb dX2_run_7 (by decide) (fun c_7 => ?_) (fun c_7 => ?_)
  · obtain ⟨N, rfl⟩ : ∃ N : Nat, u = (N : Int) := ⟨u.toNat, by omega⟩
    have eN : ((N : Nat) : Int).toNat = N := by omega
    refine zr_iconst hx hb dX2_run_13 ?_
    refine lv_istore_n (lv' := [(2, .int (zI 0)), (0, .ref (b 0)), (1, .int (zI (N : Int)))]) hx hb dX2_run_14 rfl hl (by decide) rfl (fun ls hl => ?_)
    refine zr_iconst hx hb dX2_run_15 ?_
    refine lv_istore_n (lv' := [(3, .int (zI 0)), (2, .int (zI 0)), (0, .ref (b 0)), (1, .int (zI (N : Int)))]) hx hb dX2_run_16 rfl hl (by decide) rfl (fun ls hl => ?_)
    have loop : ∀ (k_loop i : Nat), i + k_loop = N → ∀ (H : Heap) (locs : List Loc), va_P (dC, dI) vwCl (mdw cI cZ b (sRun g i) (wRun g w i) S V o) H → va_D (wr_ad (mdw cI cZ b g w S V o)) (mdw cI cZ b (sRun g i) (wRun g w i) S V o) → va_S (wr_ad (mdw cI cZ b g w S V o)) s.heap H locs → ∀ ls : Array Slot, lv_has ls 4 [(3, .int (zI (i : Int))), (2, .int (zI (sRunC g i))), (0, .ref (b 0)), (1, .int (zI (N : Int)))] → W p l e ({ frames := 6, cells := 0, slots := 0, locals := 170 } : Room) s m [.ref (b 0), .int (zI (N : Int))].toArray below meth c H locs 0 0 (MQ below (wr_Qc dC dI (mdw cI cZ b g w S V o) (mdw cI cZ b (nRun g (N : Int)) (wRunA g w (N : Int)) S V o) (some (.int (zI (aRun g (N : Int)))))) [.ref (b 0), .int (zI (N : Int))].toArray s 0 0 (wr_ad (mdw cI cZ b g w S V o))) (F0 m 17 ls []) := by
      intro k_loop
      induction k_loop with
      | zero =>
        intro i hi H locs hP hD hS ls hl
        refine lv_iload_n hx hb dX2_run_17 rfl (lv_at hl 0 rfl) ?_
        refine lv_iload_n hx hb dX2_run_18 rfl (lv_at hl 3 rfl) ?_
        refine zr_icmp_ge (tgt := 35) hx hb dX2_run_19 (by decide) (by omega) (by omega) (fun c_19 => ?_) (fun c_19 => absurd c_19 (by omega))
        refine lv_iload_n hx hb dX2_run_35 rfl (lv_at hl 1 rfl) ?_
        have hi2 : i = N := by omega
        subst hi2
        exact wr_iret hx hb hr hlocks (show va_P (dC, dI) vwCl (mdw cI cZ b (nRun g (i : Int)) (wRunA g w (i : Int)) S V o) _ by rw [show nRun g (i : Int) = sRun g i from (if_pos c_7).trans (by rw [eN]), show wRunA g w (i : Int) = wRun g w i from (if_pos c_7).trans (by rw [eN])]; exact hP) hS (by unfold aRun; rw [if_pos c_7, eN]) dX2_run_36
      | succ k_loop ih_loop =>
        intro i hi H locs hP hD hS ls hl
        have hGi := sRun_inv hg i
        refine lv_iload_n hx hb dX2_run_17 rfl (lv_at hl 0 rfl) ?_
        refine lv_iload_n hx hb dX2_run_18 rfl (lv_at hl 3 rfl) ?_
        refine zr_icmp_ge (tgt := 35) hx hb dX2_run_19 (by decide) (by omega) (by omega) (fun c_19 => absurd c_19 (by omega)) (fun c_19 => ?_)
        refine lv_iload_n hx hb dX2_run_22 rfl (lv_at hl 1 rfl) ?_
        refine lv_aload_n hx hb dX2_run_23 rfl (lv_at hl 2 rfl) ?_
        refine wr_callVi (As := []) (rest := [.int (zI (sRunC g i))]) ⟨hx, hb, hml, hown, hts⟩ (c_X2_round l dC dI cI cZ cS b (sRun g i) (wRun g w i) S V o (r + i) hGi (by omega)) (cwV 0 hts gX2_run_X2_round rfl rfl rfl (by decide +kernel) ⟨Nat.le_of_ble_eq_true rfl, Nat.le_of_ble_eq_true rfl⟩) hP hD hS hK 0 rfl rfl rfl hl.1 rfl (Nat.le_of_ble_eq_true rfl) dX2_run_24 ⟨Nat.zero_le _, Nat.zero_le _⟩ (fun H locs hP1 hk1 hS => ?_)
        have hP : va_P (dC, dI) vwCl (mdw cI cZ b (sRnd (sRun g i)) (wRnd (sRun g i) (wRun g w i)) S V o) H := hP1
        have hD : va_D (wr_ad (mdw cI cZ b g w S V o)) (mdw cI cZ b (sRnd (sRun g i)) (wRnd (sRun g i) (wRun g w i)) S V o) := va_D_adr hD rfl
        refine zr_iadd hx hb dX2_run_27 ?_
        refine zr_topI (sRunC g (i + 1)) rfl ?_
        refine lv_istore_n (lv' := [(2, .int (zI (sRunC g (i + 1)))), (3, .int (zI (i : Int))), (0, .ref (b 0)), (1, .int (zI (N : Int)))]) hx hb dX2_run_28 rfl hl (by decide) rfl (fun ls hl => ?_)
        refine zr_iinc (b := ((i + 1 : Nat) : Int)) (lv' := [(3, .int (zI ((i + 1 : Nat) : Int))), (2, .int (zI (sRunC g (i + 1)))), (0, .ref (b 0)), (1, .int (zI (N : Int)))]) hx hb dX2_run_29 hl (k := 1) rfl (by omega) (by decide) rfl (fun ls hl => ?_)
        refine lv_goto (tgt := 17) hx hb dX2_run_32 (by decide) ?_
        exact ih_loop (i + 1) (by omega) H locs hP hD hS ls (lv_sub hl [0, 1, 2, 3] rfl)
    exact loop N 0 (by omega) s.heap [] hP hD hS ls (lv_sub hl [0, 1, 2, 3] rfl)
  · refine zr_ldc hx hb (-1000002) hown k_35 (by decide) dX2_run_10 ?_
    exact wr_iret hx hb hr hlocks (show va_P (dC, dI) vwCl (mdw cI cZ b (nRun g u) (wRunA g w u) S V o) _ by rw [show nRun g u = g from if_neg c_7, show wRunA g w u = w from if_neg c_7]; exact hP) hS (by unfold aRun; rw [if_neg c_7]) dX2_run_12
set_option maxHeartbeats 4000000 in
set_option maxRecDepth 100000 in
/-- countTriangle -/
theorem c_X2_countTriangle (l : Launch) (dC : Nat → ClassId) (dI : Nat → Nat → Nat) (cI cZ cS : ClassId) (b : Nat → Nat) (g : Nat → Nat → Int) (w S V o : Nat → Int) (r : Int) (hg : gB g r) (A B C : Nat) (hA : A < 10) (hB : B < 10) (hC : C < 10) (hw6 : -2147483648 ≤ w 6 ∧ w 6 ≤ 2147483647) : Met l yX2_countTriangle wsX2_countTriangle ({ frames := 2, cells := 0, slots := 0, locals := 48 } : Room) (wr_Pc dC dI cI cZ cS (mdw cI cZ b g w S V o) [.ref (b 0), .int (zI (A : Int)), .int (zI (B : Int)), .int (zI (C : Int))]) (wr_Qc dC dI (mdw cI cZ b g w S V o) (mdw cI cZ b g (tW g A B C w) S V (tO g A B C o)) none) 0 0 (wr_ad (mdw cI cZ b g w S V o)) := by
  refine wr_met (cc := cX2_countTriangle) (maxL := 5) (ret := none) (by decide) rfl (Nat.le_of_ble_eq_true rfl) ?_
  intro p e s m below meth c ls hx hb hml hr hlocks hts hown hP hD hS hK hl
  have hl : lv_has ls 5 [(0, .ref (b 0)), (1, .int (zI (A : Int))), (2, .int (zI (B : Int))), (3, .int (zI (C : Int)))] := hl
  have hinX2 : ∀ w ∈ u_ws RX2 TX2 11, w ∈ wsX2_countTriangle := by decide +kernel
  have f_118 := hts (.fieldLink RX2 118 "NetworkCoordinatesModel" "triangleMany" "I") (by decide +kernel)
  have f_125 := hts (.fieldLink RX2 125 "NetworkCoordinatesModel" "violatedMany" "I") (by decide +kernel)
  have f_128 := hts (.fieldLink RX2 128 "NetworkCoordinatesModel" "mostExcess" "I") (by decide +kernel)
  have f_20 := hts (.fieldLink RX2 20 "NetworkCoordinatesModel" "often" "[I") (by decide +kernel)
  have b0 := hg.1
  have bA := hg.2.1 A hA
  have bB := hg.2.1 B hB
  have bC := hg.2.1 C hC
  have s1 := sExc_bd hg hA hB hC
  refine lv_aload_n hx hb dX2_countTriangle_0 rfl (lv_at hl 0 rfl) ?_
  refine lv_iload_n hx hb dX2_countTriangle_1 rfl (lv_at hl 1 rfl) ?_
  refine lv_iload_n hx hb dX2_countTriangle_2 rfl (lv_at hl 2 rfl) ?_
  refine lv_iload_n hx hb dX2_countTriangle_3 rfl (lv_at hl 3 rfl) ?_
  refine rd_callV (As := [.int (zI (A : Int)), .int (zI (B : Int)), .int (zI (C : Int))]) (rest := []) ⟨hx, hb, hml, hown, hts⟩ (c_X2_isTriangle l dC dI cI cZ cS b g w S V o r hg A B C (by omega) (by omega) (by omega)  ) (cwV 3 hts gX2_countTriangle_X2_isTriangle rfl rfl rfl (by decide +kernel) ⟨Nat.le_of_ble_eq_true rfl, Nat.le_of_ble_eq_true rfl⟩) hP hK 0 rfl rfl rfl hl.1 rfl (Nat.le_of_ble_eq_true rfl) dX2_countTriangle_4 ⟨Nat.zero_le _, Nat.zero_le _⟩ ?_
  refine zr_bif_ne (tgt := 11) hx hb dX2_countTriangle_7 (by decide) (fun c_7 => ?_) (fun c_7 => ?_)
  · refine lv_aload_n hx hb dX2_countTriangle_11 rfl (lv_at hl 0 rfl) ?_
    refine lv_dup hx hb dX2_countTriangle_12 rfl ?_
    refine va_get (D := (dC, dI)) (ci := 2) (v := .int (zI (w 4))) (C := RX2) (T := TX2) (N := 11) hx hb hts hinX2 hown hK.1 hP 0 rfl rfl 7 (by decide) f_118 (fun _ h9 => h9) rfl dX2_countTriangle_13 ?_
    refine zr_iconst hx hb dX2_countTriangle_16 ?_
    refine zr_iadd hx hb dX2_countTriangle_17 ?_
    refine va_put (D := (dC, dI)) (ci := 2) (v := .int (zI (w 4 + 1))) (ty := .int) (C := RX2) (T := TX2) (N := 11) hx hb hts hinX2 tyX2 tyX2_ok nmX2 hown hK.1 hP hD hS 0 rfl rfl 7 (by decide) f_118 (fun _ h9 => h9) rfl (by decide +kernel) rfl rfl (Nat.le_of_ble_eq_true rfl) dX2_countTriangle_18 (fun H locs hP hD hS => ?_)
    have hP : va_P (dC, dI) vwCl (mdw cI cZ b g (zset w 4 (w 4 + 1)) S V o) H := hP
    have hD : va_D (wr_ad (mdw cI cZ b g w S V o)) (mdw cI cZ b g (zset w 4 (w 4 + 1)) S V o) := hD
    refine lv_aload_n hx hb dX2_countTriangle_21 rfl (lv_at hl 0 rfl) ?_
    refine lv_iload_n hx hb dX2_countTriangle_22 rfl (lv_at hl 1 rfl) ?_
    refine lv_iload_n hx hb dX2_countTriangle_23 rfl (lv_at hl 2 rfl) ?_
    refine lv_iload_n hx hb dX2_countTriangle_24 rfl (lv_at hl 3 rfl) ?_
    refine rd_callV (As := [.int (zI (A : Int)), .int (zI (B : Int)), .int (zI (C : Int))]) (rest := []) ⟨hx, hb, hml, hown, hts⟩ (c_X2_excess l dC dI cI cZ cS b g (zset w 4 (w 4 + 1)) S V o r hg A B C (by omega) (by omega) (by omega)  ) (cwV 3 hts gX2_countTriangle_X2_excess rfl rfl rfl (by decide +kernel) ⟨Nat.le_of_ble_eq_true rfl, Nat.le_of_ble_eq_true rfl⟩) hP hK 0 rfl rfl rfl hl.1 rfl (Nat.le_of_ble_eq_true rfl) dX2_countTriangle_25 ⟨Nat.zero_le _, Nat.zero_le _⟩ ?_
    refine lv_istore (lv' := [(4, .int (zI (sOv g A B C))), (0, .ref (b 0)), (1, .int (zI (A : Int))), (2, .int (zI (B : Int))), (3, .int (zI (C : Int)))]) hx hb dX2_countTriangle_28 hl (by decide) rfl (fun ls hl => ?_)
    refine lv_iload hx hb dX2_countTriangle_30 (lv_at hl 0 rfl) ?_
    refine zr_if_le (tgt := 97) hx hb dX2_countTriangle_32 (by decide) (by omega) (fun c_32 => ?_) (fun c_32 => ?_)
    · exact wr_vret hx hb hr hlocks (show va_P (dC, dI) vwCl (mdw cI cZ b g (tW g A B C w) S V (tO g A B C o)) _ by rw [show tW g A B C w = zset w 4 (w 4 + 1) from (if_pos c_7).trans (if_neg (by omega)), show tO g A B C o = o from if_neg (fun q => absurd q.2 (by omega))]; exact hP) hS dX2_countTriangle_97
    · refine lv_aload_n hx hb dX2_countTriangle_35 rfl (lv_at hl 1 rfl) ?_
      refine lv_dup hx hb dX2_countTriangle_36 rfl ?_
      refine va_get (D := (dC, dI)) (ci := 2) (v := .int (zI (w 5))) (C := RX2) (T := TX2) (N := 11) hx hb hts hinX2 hown hK.1 hP 0 rfl rfl 8 (by decide) f_125 (fun _ h9 => h9) rfl dX2_countTriangle_37 ?_
      refine zr_iconst hx hb dX2_countTriangle_40 ?_
      refine zr_iadd hx hb dX2_countTriangle_41 ?_
      refine va_put (D := (dC, dI)) (ci := 2) (v := .int (zI (w 5 + 1))) (ty := .int) (C := RX2) (T := TX2) (N := 11) hx hb hts hinX2 tyX2 tyX2_ok nmX2 hown hK.1 hP hD hS 0 rfl rfl 8 (by decide) f_125 (fun _ h9 => h9) rfl (by decide +kernel) rfl rfl (Nat.le_of_ble_eq_true rfl) dX2_countTriangle_42 (fun H locs hP hD hS => ?_)
      refine lv_aload_n hx hb dX2_countTriangle_45 rfl (lv_at hl 1 rfl) ?_
      refine lv_iload hx hb dX2_countTriangle_46 (lv_at hl 0 rfl) ?_
      refine lv_aload_n hx hb dX2_countTriangle_48 rfl (lv_at hl 1 rfl) ?_
      refine va_get (D := (dC, dI)) (ci := 2) (v := .int (zI (w 6))) (C := RX2) (T := TX2) (N := 11) hx hb hts hinX2 hown hK.1 hP 0 rfl rfl 9 (by decide) f_128 (fun _ h9 => h9) rfl dX2_countTriangle_49 ?_
      refine zr_icmp_le (tgt := 60) hx hb dX2_countTriangle_52 (by decide) (by omega) (by omega) (fun c_52 => ?_) (fun c_52 => ?_)
      · refine lv_aload_n hx hb dX2_countTriangle_60 rfl (lv_at hl 1 rfl) ?_
        refine va_get (D := (dC, dI)) (ci := 2) (v := .int (zI (w 6))) (C := RX2) (T := TX2) (N := 11) hx hb hts hinX2 hown hK.1 hP 0 rfl rfl 9 (by decide) f_128 (fun _ h9 => h9) rfl dX2_countTriangle_61 ?_
        refine zr_topI (if w 6 < sOv g A B C then sOv g A B C else w 6) (if_neg (by omega)).symm ?_
        refine va_put (D := (dC, dI)) (ci := 2) (v := .int (zI (if w 6 < sOv g A B C then sOv g A B C else w 6))) (ty := .int) (C := RX2) (T := TX2) (N := 11) hx hb hts hinX2 tyX2 tyX2_ok nmX2 hown hK.1 hP hD hS 0 rfl rfl 9 (by decide) f_128 (fun _ h9 => h9) rfl (by decide +kernel) rfl rfl (Nat.le_of_ble_eq_true rfl) dX2_countTriangle_64 (fun H locs hP hD hS => ?_)
        refine lv_aload_n hx hb dX2_countTriangle_67 rfl (lv_at hl 1 rfl) ?_
        refine va_get (D := (dC, dI)) (ci := 2) (v := .ref (b 4)) (C := RX2) (T := TX2) (N := 11) hx hb hts hinX2 hown hK.1 hP 0 rfl rfl 10 (by decide) f_20 (fun _ h9 => h9) rfl dX2_countTriangle_68 ?_
        refine lv_iload_n hx hb dX2_countTriangle_71 rfl (lv_at hl 2 rfl) ?_
        refine lv_dup2_11 hx hb dX2_countTriangle_72 rfl rfl ?_
        refine zr_iald hx hb hK.1 hP 4 0 rfl rfl A (o A) (by omega) (by omega) (Nat.le_of_ble_eq_true rfl) rfl dX2_countTriangle_73 ?_
        refine zr_iconst hx hb dX2_countTriangle_74 ?_
        refine zr_iadd hx hb dX2_countTriangle_75 ?_
        refine zr_iast hx hb hK.1 hP hD hS 4 0 rfl rfl A (zset o A (o A + 1)) (by omega) (by omega) (Nat.le_of_ble_eq_true rfl) rfl dX2_countTriangle_76 (fun H locs hP hD hS => ?_)
        refine lv_aload_n hx hb dX2_countTriangle_77 rfl (lv_at hl 1 rfl) ?_
        refine va_get (D := (dC, dI)) (ci := 2) (v := .ref (b 4)) (C := RX2) (T := TX2) (N := 11) hx hb hts hinX2 hown hK.1 hP 0 rfl rfl 10 (by decide) f_20 (fun _ h9 => h9) rfl dX2_countTriangle_78 ?_
        refine lv_iload_n hx hb dX2_countTriangle_81 rfl (lv_at hl 3 rfl) ?_
        refine lv_dup2_11 hx hb dX2_countTriangle_82 rfl rfl ?_
        refine zr_iald hx hb hK.1 hP 4 0 rfl rfl B (zset o A (o A + 1) B) (by omega) (by omega) (Nat.le_of_ble_eq_true rfl) rfl dX2_countTriangle_83 ?_
        refine zr_iconst hx hb dX2_countTriangle_84 ?_
        refine zr_iadd hx hb dX2_countTriangle_85 ?_
        refine zr_iast hx hb hK.1 hP hD hS 4 0 rfl rfl B (zset (zset o A (o A + 1)) B (zset o A (o A + 1) B + 1)) (by omega) (by omega) (Nat.le_of_ble_eq_true rfl) rfl dX2_countTriangle_86 (fun H locs hP hD hS => ?_)
        refine lv_aload_n hx hb dX2_countTriangle_87 rfl (lv_at hl 1 rfl) ?_
        refine va_get (D := (dC, dI)) (ci := 2) (v := .ref (b 4)) (C := RX2) (T := TX2) (N := 11) hx hb hts hinX2 hown hK.1 hP 0 rfl rfl 10 (by decide) f_20 (fun _ h9 => h9) rfl dX2_countTriangle_88 ?_
        refine lv_iload_n hx hb dX2_countTriangle_91 rfl (lv_at hl 4 rfl) ?_
        refine lv_dup2_11 hx hb dX2_countTriangle_92 rfl rfl ?_
        refine zr_iald hx hb hK.1 hP 4 0 rfl rfl C (zset (zset o A (o A + 1)) B (zset o A (o A + 1) B + 1) C) (by omega) (by omega) (Nat.le_of_ble_eq_true rfl) rfl dX2_countTriangle_93 ?_
        refine zr_iconst hx hb dX2_countTriangle_94 ?_
        refine zr_iadd hx hb dX2_countTriangle_95 ?_
        refine zr_iast hx hb hK.1 hP hD hS 4 0 rfl rfl C (zset (zset (zset o A (o A + 1)) B (zset o A (o A + 1) B + 1)) C (zset (zset o A (o A + 1)) B (zset o A (o A + 1) B + 1) C + 1)) (by omega) (by omega) (Nat.le_of_ble_eq_true rfl) rfl dX2_countTriangle_96 (fun H locs hP hD hS => ?_)
        exact wr_vret hx hb hr hlocks (show va_P (dC, dI) vwCl (mdw cI cZ b g (tW g A B C w) S V (tO g A B C o)) _ by rw [show tW g A B C w = _ from (if_pos c_7).trans (if_pos (by omega)), show tO g A B C o = _ from if_pos ⟨c_7, by omega⟩]; exact hP) hS dX2_countTriangle_97
      · refine lv_iload hx hb dX2_countTriangle_55 (lv_at hl 0 rfl) ?_
        refine zr_topI (if w 6 < sOv g A B C then sOv g A B C else w 6) (if_pos (by omega)).symm ?_
        refine lv_goto (tgt := 64) hx hb dX2_countTriangle_57 (by decide) ?_
        refine va_put (D := (dC, dI)) (ci := 2) (v := .int (zI (if w 6 < sOv g A B C then sOv g A B C else w 6))) (ty := .int) (C := RX2) (T := TX2) (N := 11) hx hb hts hinX2 tyX2 tyX2_ok nmX2 hown hK.1 hP hD hS 0 rfl rfl 9 (by decide) f_128 (fun _ h9 => h9) rfl (by decide +kernel) rfl rfl (Nat.le_of_ble_eq_true rfl) dX2_countTriangle_64 (fun H locs hP hD hS => ?_)
        refine lv_aload_n hx hb dX2_countTriangle_67 rfl (lv_at hl 1 rfl) ?_
        refine va_get (D := (dC, dI)) (ci := 2) (v := .ref (b 4)) (C := RX2) (T := TX2) (N := 11) hx hb hts hinX2 hown hK.1 hP 0 rfl rfl 10 (by decide) f_20 (fun _ h9 => h9) rfl dX2_countTriangle_68 ?_
        refine lv_iload_n hx hb dX2_countTriangle_71 rfl (lv_at hl 2 rfl) ?_
        refine lv_dup2_11 hx hb dX2_countTriangle_72 rfl rfl ?_
        refine zr_iald hx hb hK.1 hP 4 0 rfl rfl A (o A) (by omega) (by omega) (Nat.le_of_ble_eq_true rfl) rfl dX2_countTriangle_73 ?_
        refine zr_iconst hx hb dX2_countTriangle_74 ?_
        refine zr_iadd hx hb dX2_countTriangle_75 ?_
        refine zr_iast hx hb hK.1 hP hD hS 4 0 rfl rfl A (zset o A (o A + 1)) (by omega) (by omega) (Nat.le_of_ble_eq_true rfl) rfl dX2_countTriangle_76 (fun H locs hP hD hS => ?_)
        refine lv_aload_n hx hb dX2_countTriangle_77 rfl (lv_at hl 1 rfl) ?_
        refine va_get (D := (dC, dI)) (ci := 2) (v := .ref (b 4)) (C := RX2) (T := TX2) (N := 11) hx hb hts hinX2 hown hK.1 hP 0 rfl rfl 10 (by decide) f_20 (fun _ h9 => h9) rfl dX2_countTriangle_78 ?_
        refine lv_iload_n hx hb dX2_countTriangle_81 rfl (lv_at hl 3 rfl) ?_
        refine lv_dup2_11 hx hb dX2_countTriangle_82 rfl rfl ?_
        refine zr_iald hx hb hK.1 hP 4 0 rfl rfl B (zset o A (o A + 1) B) (by omega) (by omega) (Nat.le_of_ble_eq_true rfl) rfl dX2_countTriangle_83 ?_
        refine zr_iconst hx hb dX2_countTriangle_84 ?_
        refine zr_iadd hx hb dX2_countTriangle_85 ?_
        refine zr_iast hx hb hK.1 hP hD hS 4 0 rfl rfl B (zset (zset o A (o A + 1)) B (zset o A (o A + 1) B + 1)) (by omega) (by omega) (Nat.le_of_ble_eq_true rfl) rfl dX2_countTriangle_86 (fun H locs hP hD hS => ?_)
        refine lv_aload_n hx hb dX2_countTriangle_87 rfl (lv_at hl 1 rfl) ?_
        refine va_get (D := (dC, dI)) (ci := 2) (v := .ref (b 4)) (C := RX2) (T := TX2) (N := 11) hx hb hts hinX2 hown hK.1 hP 0 rfl rfl 10 (by decide) f_20 (fun _ h9 => h9) rfl dX2_countTriangle_88 ?_
        refine lv_iload_n hx hb dX2_countTriangle_91 rfl (lv_at hl 4 rfl) ?_
        refine lv_dup2_11 hx hb dX2_countTriangle_92 rfl rfl ?_
        refine zr_iald hx hb hK.1 hP 4 0 rfl rfl C (zset (zset o A (o A + 1)) B (zset o A (o A + 1) B + 1) C) (by omega) (by omega) (Nat.le_of_ble_eq_true rfl) rfl dX2_countTriangle_93 ?_
        refine zr_iconst hx hb dX2_countTriangle_94 ?_
        refine zr_iadd hx hb dX2_countTriangle_95 ?_
        refine zr_iast hx hb hK.1 hP hD hS 4 0 rfl rfl C (zset (zset (zset o A (o A + 1)) B (zset o A (o A + 1) B + 1)) C (zset (zset o A (o A + 1)) B (zset o A (o A + 1) B + 1) C + 1)) (by omega) (by omega) (Nat.le_of_ble_eq_true rfl) rfl dX2_countTriangle_96 (fun H locs hP hD hS => ?_)
        exact wr_vret hx hb hr hlocks (show va_P (dC, dI) vwCl (mdw cI cZ b g (tW g A B C w) S V (tO g A B C o)) _ by rw [show tW g A B C w = _ from (if_pos c_7).trans (if_pos (by omega)), show tO g A B C o = _ from if_pos ⟨c_7, by omega⟩]; exact hP) hS dX2_countTriangle_97
  · exact wr_vret hx hb hr hlocks (show va_P (dC, dI) vwCl (mdw cI cZ b g (tW g A B C w) S V (tO g A B C o)) _ by rw [show tW g A B C w = w from if_neg c_7, show tO g A B C o = o from if_neg (fun q => c_7 q.1)]; exact hP) hS dX2_countTriangle_10
set_option maxHeartbeats 4000000 in
set_option maxRecDepth 100000 in
/-- countAll -/
theorem c_X2_countAll (l : Launch) (dC : Nat → ClassId) (dI : Nat → Nat → Nat) (cI cZ cS : ClassId) (b : Nat → Nat) (g : Nat → Nat → Int) (w S V o : Nat → Int) (r : Int) (hg : gB g r) : Met l yX2_countAll wsX2_countAll ({ frames := 3, cells := 0, slots := 0, locals := 72 } : Room) (wr_Pc dC dI cI cZ cS (mdw cI cZ b g w S V o) [.ref (b 0)]) (wr_Qc dC dI (mdw cI cZ b g w S V o) (mdw cI cZ b g ((cQ g w o).1) S V ((cQ g w o).2)) none) 0 0 (wr_ad (mdw cI cZ b g w S V o)) := by
  refine wr_met (cc := cX2_countAll) (maxL := 4) (ret := none) (by decide) rfl (Nat.le_of_ble_eq_true rfl) ?_
  intro p e s m below meth c ls hx hb hml hr hlocks hts hown hP hD hS hK hl
  have hl : lv_has ls 4 [(0, .ref (b 0))] := hl
  have hinX2 : ∀ w ∈ u_ws RX2 TX2 11, w ∈ wsX2_countAll := by decide +kernel
  have f_118 := hts (.fieldLink RX2 118 "NetworkCoordinatesModel" "triangleMany" "I") (by decide +kernel)
  have f_125 := hts (.fieldLink RX2 125 "NetworkCoordinatesModel" "violatedMany" "I") (by decide +kernel)
  have k_111 := hts (.constant RX2 111 (-1000005)) (by decide +kernel)
  have f_128 := hts (.fieldLink RX2 128 "NetworkCoordinatesModel" "mostExcess" "I") (by decide +kernel)
  have f_7 := hts (.fieldLink RX2 7 "NetworkCoordinatesModel" "state" "[I") (by decide +kernel)
  have f_20 := hts (.fieldLink RX2 20 "NetworkCoordinatesModel" "often" "[I") (by decide +kernel)
  have b0 := hg.1
  have hN := gN_eq hg
  refine lv_aload_n hx hb dX2_countAll_0 rfl (lv_at hl 0 rfl) ?_
  refine zr_iconst hx hb dX2_countAll_1 ?_
  refine va_put (D := (dC, dI)) (ci := 2) (v := .int (zI 0)) (ty := .int) (C := RX2) (T := TX2) (N := 11) hx hb hts hinX2 tyX2 tyX2_ok nmX2 hown hK.1 hP hD hS 0 rfl rfl 7 (by decide) f_118 (fun _ h9 => h9) rfl (by decide +kernel) rfl rfl (Nat.le_of_ble_eq_true rfl) dX2_countAll_2 (fun H locs hP hD hS => ?_)
  refine lv_aload_n hx hb dX2_countAll_5 rfl (lv_at hl 0 rfl) ?_
  refine zr_iconst hx hb dX2_countAll_6 ?_
  refine va_put (D := (dC, dI)) (ci := 2) (v := .int (zI 0)) (ty := .int) (C := RX2) (T := TX2) (N := 11) hx hb hts hinX2 tyX2 tyX2_ok nmX2 hown hK.1 hP hD hS 0 rfl rfl 8 (by decide) f_125 (fun _ h9 => h9) rfl (by decide +kernel) rfl rfl (Nat.le_of_ble_eq_true rfl) dX2_countAll_7 (fun H locs hP hD hS => ?_)
  refine lv_aload_n hx hb dX2_countAll_10 rfl (lv_at hl 0 rfl) ?_
  refine zr_ldc hx hb (-1000005) hown k_111 (by decide) dX2_countAll_11 ?_
  refine va_put (D := (dC, dI)) (ci := 2) (v := .int (zI (-1000005))) (ty := .int) (C := RX2) (T := TX2) (N := 11) hx hb hts hinX2 tyX2 tyX2_ok nmX2 hown hK.1 hP hD hS 0 rfl rfl 9 (by decide) f_128 (fun _ h9 => h9) rfl (by decide +kernel) rfl rfl (Nat.le_of_ble_eq_true rfl) dX2_countAll_13 (fun H locs hP hD hS => ?_)
  have hP : va_P (dC, dI) vwCl (mdw cI cZ b g (zset (zset (zset w 4 0) 5 0) 6 (-1000005)) S V (zfil o 0 0)) H := by rw [zfil_0]; exact hP
  have hD : va_D (wr_ad (mdw cI cZ b g w S V o)) (mdw cI cZ b g (zset (zset (zset w 4 0) 5 0) 6 (-1000005)) S V (zfil o 0 0)) := va_D_adr hD rfl
  refine zr_iconst hx hb dX2_countAll_16 ?_
  refine lv_istore_n (lv' := [(1, .int (zI 0)), (0, .ref (b 0))]) hx hb dX2_countAll_17 rfl hl (by decide) rfl (fun ls hl => ?_)
  have hok0 : okq ((zset (zset (zset w 4 0) 5 0) 6 (-1000005)), zfil o 10 0) := ⟨by show -1000005 ≤ (-1000005 : Int); omega, by show (-1000005 : Int) ≤ 40000; omega⟩
  have loop : ∀ (k_loop i : Nat), i + k_loop = gN g → ∀ (H : Heap) (locs : List Loc), va_P (dC, dI) vwCl (mdw cI cZ b g (cA g (gN g) ((zset (zset (zset w 4 0) 5 0) 6 (-1000005)), zfil o 10 0) i).1 S V (cA g (gN g) ((zset (zset (zset w 4 0) 5 0) 6 (-1000005)), zfil o 10 0) i).2) H → va_D (wr_ad (mdw cI cZ b g w S V o)) (mdw cI cZ b g (cA g (gN g) ((zset (zset (zset w 4 0) 5 0) 6 (-1000005)), zfil o 10 0) i).1 S V (cA g (gN g) ((zset (zset (zset w 4 0) 5 0) 6 (-1000005)), zfil o 10 0) i).2) → va_S (wr_ad (mdw cI cZ b g w S V o)) s.heap H locs → ∀ ls : Array Slot, lv_has ls 4 [(1, .int (zI (i : Int))), (0, .ref (b 0))] → W p l e ({ frames := 3, cells := 0, slots := 0, locals := 72 } : Room) s m [.ref (b 0)].toArray below meth c H locs 0 0 (MQ below (wr_Qc dC dI (mdw cI cZ b g w S V o) (mdw cI cZ b g ((cQ g w o).1) S V ((cQ g w o).2)) none) [.ref (b 0)].toArray s 0 0 (wr_ad (mdw cI cZ b g w S V o))) (F0 m 39 ls []) := by
    intro k_loop
    induction k_loop with
    | zero =>
      intro i hi H locs hP hD hS ls hl
      refine lv_iload_n hx hb dX2_countAll_39 rfl (lv_at hl 0 rfl) ?_
      refine lv_aload_n hx hb dX2_countAll_40 rfl (lv_at hl 1 rfl) ?_
      refine va_get (D := (dC, dI)) (ci := 2) (v := .ref (b 1)) (C := RX2) (T := TX2) (N := 11) hx hb hts hinX2 hown hK.1 hP 0 rfl rfl 0 (by decide) f_7 (fun _ h9 => h9) rfl dX2_countAll_41 ?_
      refine zr_iconst hx hb dX2_countAll_44 ?_
      refine zr_iald hx hb hK.1 hP 1 0 rfl rfl 0 (g 0 0) (by omega) (by omega) (Nat.le_of_ble_eq_true rfl) (flat_0 (by decide)) dX2_countAll_45 ?_
      refine zr_icmp_ge (tgt := 102) hx hb dX2_countAll_46 (by decide) (by omega) (by omega) (fun c_46 => ?_) (fun c_46 => absurd c_46 (by omega))
      have hi2 : i = gN g := by omega
      subst hi2
      exact wr_vret hx hb hr hlocks (show va_P (dC, dI) vwCl (mdw cI cZ b g ((cQ g w o).1) S V ((cQ g w o).2)) H from hP) hS dX2_countAll_102
    | succ k_loop ih_loop =>
      intro i hi H locs hP hD hS ls hl
      have hoka := cA_ok hg hN.2.2 hok0 i (by omega)
      refine lv_iload_n hx hb dX2_countAll_39 rfl (lv_at hl 0 rfl) ?_
      refine lv_aload_n hx hb dX2_countAll_40 rfl (lv_at hl 1 rfl) ?_
      refine va_get (D := (dC, dI)) (ci := 2) (v := .ref (b 1)) (C := RX2) (T := TX2) (N := 11) hx hb hts hinX2 hown hK.1 hP 0 rfl rfl 0 (by decide) f_7 (fun _ h9 => h9) rfl dX2_countAll_41 ?_
      refine zr_iconst hx hb dX2_countAll_44 ?_
      refine zr_iald hx hb hK.1 hP 1 0 rfl rfl 0 (g 0 0) (by omega) (by omega) (Nat.le_of_ble_eq_true rfl) (flat_0 (by decide)) dX2_countAll_45 ?_
      refine zr_icmp_ge (tgt := 102) hx hb dX2_countAll_46 (by decide) (by omega) (by omega) (fun c_46 => absurd c_46 (by omega)) (fun c_46 => ?_)
      refine lv_iload_n hx hb dX2_countAll_49 rfl (lv_at hl 0 rfl) ?_
      refine zr_iconst hx hb dX2_countAll_50 ?_
      refine zr_iadd hx hb dX2_countAll_51 ?_
      refine zr_topI ((i + 1 : Nat) : Int) (by omega) ?_
      refine lv_istore_n (lv' := [(2, .int (zI ((i + 1 : Nat) : Int))), (1, .int (zI (i : Int))), (0, .ref (b 0))]) hx hb dX2_countAll_52 rfl hl (by decide) rfl (fun ls hl => ?_)
      have inner : ∀ (k_inner j : Nat), j + k_inner = gN g → i < j → ∀ (H : Heap) (locs : List Loc), va_P (dC, dI) vwCl (mdw cI cZ b g (cB g (gN g) i (cA g (gN g) ((zset (zset (zset w 4 0) 5 0) 6 (-1000005)), zfil o 10 0) i) j).1 S V (cB g (gN g) i (cA g (gN g) ((zset (zset (zset w 4 0) 5 0) 6 (-1000005)), zfil o 10 0) i) j).2) H → va_D (wr_ad (mdw cI cZ b g w S V o)) (mdw cI cZ b g (cB g (gN g) i (cA g (gN g) ((zset (zset (zset w 4 0) 5 0) 6 (-1000005)), zfil o 10 0) i) j).1 S V (cB g (gN g) i (cA g (gN g) ((zset (zset (zset w 4 0) 5 0) 6 (-1000005)), zfil o 10 0) i) j).2) → va_S (wr_ad (mdw cI cZ b g w S V o)) s.heap H locs → ∀ ls : Array Slot, lv_has ls 4 [(2, .int (zI (j : Int))), (1, .int (zI (i : Int))), (0, .ref (b 0))] → W p l e ({ frames := 3, cells := 0, slots := 0, locals := 72 } : Room) s m [.ref (b 0)].toArray below meth c H locs 0 0 (MQ below (wr_Qc dC dI (mdw cI cZ b g w S V o) (mdw cI cZ b g ((cQ g w o).1) S V ((cQ g w o).2)) none) [.ref (b 0)].toArray s 0 0 (wr_ad (mdw cI cZ b g w S V o))) (F0 m 53 ls []) := by
        intro k_inner
        induction k_inner with
        | zero =>
          intro j hj hij H locs hP hD hS ls hl
          refine lv_iload_n hx hb dX2_countAll_53 rfl (lv_at hl 0 rfl) ?_
          refine lv_aload_n hx hb dX2_countAll_54 rfl (lv_at hl 2 rfl) ?_
          refine va_get (D := (dC, dI)) (ci := 2) (v := .ref (b 1)) (C := RX2) (T := TX2) (N := 11) hx hb hts hinX2 hown hK.1 hP 0 rfl rfl 0 (by decide) f_7 (fun _ h9 => h9) rfl dX2_countAll_55 ?_
          refine zr_iconst hx hb dX2_countAll_58 ?_
          refine zr_iald hx hb hK.1 hP 1 0 rfl rfl 0 (g 0 0) (by omega) (by omega) (Nat.le_of_ble_eq_true rfl) (flat_0 (by decide)) dX2_countAll_59 ?_
          refine zr_icmp_ge (tgt := 96) hx hb dX2_countAll_60 (by decide) (by omega) (by omega) (fun c_60 => ?_) (fun c_60 => absurd c_60 (by omega))
          refine zr_iinc (b := ((i + 1 : Nat) : Int)) (lv' := [(1, .int (zI ((i + 1 : Nat) : Int))), (2, .int (zI (j : Int))), (0, .ref (b 0))]) hx hb dX2_countAll_96 hl (k := 1) rfl (by omega) (by decide) rfl (fun ls hl => ?_)
          refine lv_goto (tgt := 39) hx hb dX2_countAll_99 (by decide) ?_
          have hj2 : j = gN g := by omega
          rw [hj2] at hP hD
          exact ih_loop (i + 1) (by omega) H locs hP hD hS ls (lv_sub hl [0, 2] rfl)
        | succ k_inner ih_inner =>
          intro j hj hij H locs hP hD hS ls hl
          have hokb := cB_ok hg hN.2.2 (show i < 10 by omega) hoka j (by omega)
          refine lv_iload_n hx hb dX2_countAll_53 rfl (lv_at hl 0 rfl) ?_
          refine lv_aload_n hx hb dX2_countAll_54 rfl (lv_at hl 2 rfl) ?_
          refine va_get (D := (dC, dI)) (ci := 2) (v := .ref (b 1)) (C := RX2) (T := TX2) (N := 11) hx hb hts hinX2 hown hK.1 hP 0 rfl rfl 0 (by decide) f_7 (fun _ h9 => h9) rfl dX2_countAll_55 ?_
          refine zr_iconst hx hb dX2_countAll_58 ?_
          refine zr_iald hx hb hK.1 hP 1 0 rfl rfl 0 (g 0 0) (by omega) (by omega) (Nat.le_of_ble_eq_true rfl) (flat_0 (by decide)) dX2_countAll_59 ?_
          refine zr_icmp_ge (tgt := 96) hx hb dX2_countAll_60 (by decide) (by omega) (by omega) (fun c_60 => absurd c_60 (by omega)) (fun c_60 => ?_)
          refine lv_iload_n hx hb dX2_countAll_63 rfl (lv_at hl 0 rfl) ?_
          refine zr_iconst hx hb dX2_countAll_64 ?_
          refine zr_iadd hx hb dX2_countAll_65 ?_
          refine zr_topI ((j + 1 : Nat) : Int) (by omega) ?_
          refine lv_istore_n (lv' := [(3, .int (zI ((j + 1 : Nat) : Int))), (2, .int (zI (j : Int))), (1, .int (zI (i : Int))), (0, .ref (b 0))]) hx hb dX2_countAll_66 rfl hl (by decide) rfl (fun ls hl => ?_)
          have deep : ∀ (k_deep k : Nat), k + k_deep = gN g → j < k → ∀ (H : Heap) (locs : List Loc), va_P (dC, dI) vwCl (mdw cI cZ b g (cC g i j (cB g (gN g) i (cA g (gN g) ((zset (zset (zset w 4 0) 5 0) 6 (-1000005)), zfil o 10 0) i) j) k).1 S V (cC g i j (cB g (gN g) i (cA g (gN g) ((zset (zset (zset w 4 0) 5 0) 6 (-1000005)), zfil o 10 0) i) j) k).2) H → va_D (wr_ad (mdw cI cZ b g w S V o)) (mdw cI cZ b g (cC g i j (cB g (gN g) i (cA g (gN g) ((zset (zset (zset w 4 0) 5 0) 6 (-1000005)), zfil o 10 0) i) j) k).1 S V (cC g i j (cB g (gN g) i (cA g (gN g) ((zset (zset (zset w 4 0) 5 0) 6 (-1000005)), zfil o 10 0) i) j) k).2) → va_S (wr_ad (mdw cI cZ b g w S V o)) s.heap H locs → ∀ ls : Array Slot, lv_has ls 4 [(3, .int (zI (k : Int))), (2, .int (zI (j : Int))), (1, .int (zI (i : Int))), (0, .ref (b 0))] → W p l e ({ frames := 3, cells := 0, slots := 0, locals := 72 } : Room) s m [.ref (b 0)].toArray below meth c H locs 0 0 (MQ below (wr_Qc dC dI (mdw cI cZ b g w S V o) (mdw cI cZ b g ((cQ g w o).1) S V ((cQ g w o).2)) none) [.ref (b 0)].toArray s 0 0 (wr_ad (mdw cI cZ b g w S V o))) (F0 m 67 ls []) := by
            intro k_deep
            induction k_deep with
            | zero =>
              intro k hk hjk H locs hP hD hS ls hl
              refine lv_iload_n hx hb dX2_countAll_67 rfl (lv_at hl 0 rfl) ?_
              refine lv_aload_n hx hb dX2_countAll_68 rfl (lv_at hl 3 rfl) ?_
              refine va_get (D := (dC, dI)) (ci := 2) (v := .ref (b 1)) (C := RX2) (T := TX2) (N := 11) hx hb hts hinX2 hown hK.1 hP 0 rfl rfl 0 (by decide) f_7 (fun _ h9 => h9) rfl dX2_countAll_69 ?_
              refine zr_iconst hx hb dX2_countAll_72 ?_
              refine zr_iald hx hb hK.1 hP 1 0 rfl rfl 0 (g 0 0) (by omega) (by omega) (Nat.le_of_ble_eq_true rfl) (flat_0 (by decide)) dX2_countAll_73 ?_
              refine zr_icmp_ge (tgt := 90) hx hb dX2_countAll_74 (by decide) (by omega) (by omega) (fun c_74 => ?_) (fun c_74 => absurd c_74 (by omega))
              refine zr_iinc (b := ((j + 1 : Nat) : Int)) (lv' := [(2, .int (zI ((j + 1 : Nat) : Int))), (3, .int (zI (k : Int))), (1, .int (zI (i : Int))), (0, .ref (b 0))]) hx hb dX2_countAll_90 hl (k := 1) rfl (by omega) (by decide) rfl (fun ls hl => ?_)
              refine lv_goto (tgt := 53) hx hb dX2_countAll_93 (by decide) ?_
              have hk2 : k = gN g := by omega
              have e1 : cB g (gN g) i (cA g (gN g) ((zset (zset (zset w 4 0) 5 0) 6 (-1000005)), zfil o 10 0) i) (j + 1) = (cC g i j (cB g (gN g) i (cA g (gN g) ((zset (zset (zset w 4 0) 5 0) 6 (-1000005)), zfil o 10 0) i) j) k) := by rw [hk2]; exact if_pos hij
              rw [← e1] at hP hD
              exact ih_inner (j + 1) (by omega) (by omega) H locs hP hD hS ls (lv_sub hl [0, 2, 3] rfl)
            | succ k_deep ih_deep =>
              intro k hk hjk H locs hP hD hS ls hl
              have hok := cC_ok hg (show i < 10 by omega) (show j < 10 by omega) hokb k (by omega)
              refine lv_iload_n hx hb dX2_countAll_67 rfl (lv_at hl 0 rfl) ?_
              refine lv_aload_n hx hb dX2_countAll_68 rfl (lv_at hl 3 rfl) ?_
              refine va_get (D := (dC, dI)) (ci := 2) (v := .ref (b 1)) (C := RX2) (T := TX2) (N := 11) hx hb hts hinX2 hown hK.1 hP 0 rfl rfl 0 (by decide) f_7 (fun _ h9 => h9) rfl dX2_countAll_69 ?_
              refine zr_iconst hx hb dX2_countAll_72 ?_
              refine zr_iald hx hb hK.1 hP 1 0 rfl rfl 0 (g 0 0) (by omega) (by omega) (Nat.le_of_ble_eq_true rfl) (flat_0 (by decide)) dX2_countAll_73 ?_
              refine zr_icmp_ge (tgt := 90) hx hb dX2_countAll_74 (by decide) (by omega) (by omega) (fun c_74 => absurd c_74 (by omega)) (fun c_74 => ?_)
              refine lv_aload_n hx hb dX2_countAll_77 rfl (lv_at hl 3 rfl) ?_
              refine lv_iload_n hx hb dX2_countAll_78 rfl (lv_at hl 2 rfl) ?_
              refine lv_iload_n hx hb dX2_countAll_79 rfl (lv_at hl 1 rfl) ?_
              refine lv_iload_n hx hb dX2_countAll_80 rfl (lv_at hl 0 rfl) ?_
              refine wr_callV (As := [.int (zI (i : Int)), .int (zI (j : Int)), .int (zI (k : Int))]) (rest := []) ⟨hx, hb, hml, hown, hts⟩ (c_X2_countTriangle l dC dI cI cZ cS b g ((cC g i j (cB g (gN g) i (cA g (gN g) ((zset (zset (zset w 4 0) 5 0) 6 (-1000005)), zfil o 10 0) i) j) k).1) S V ((cC g i j (cB g (gN g) i (cA g (gN g) ((zset (zset (zset w 4 0) 5 0) 6 (-1000005)), zfil o 10 0) i) j) k).2) r hg i j k (by omega) (by omega) (by omega) (by have := hok; unfold okq at this; omega)) (cwV 3 hts gX2_countAll_X2_countTriangle rfl rfl rfl (by decide +kernel) ⟨Nat.le_of_ble_eq_true rfl, Nat.le_of_ble_eq_true rfl⟩) hP hD hS hK 0 rfl rfl rfl hl.1 rfl (Nat.le_of_ble_eq_true rfl) dX2_countAll_81 ⟨Nat.zero_le _, Nat.zero_le _⟩ (fun H locs hP1 hk1 hS => ?_)
              have hP : va_P (dC, dI) vwCl (mdw cI cZ b g (tS g i j k (cC g i j (cB g (gN g) i (cA g (gN g) ((zset (zset (zset w 4 0) 5 0) 6 (-1000005)), zfil o 10 0) i) j) k)).1 S V (tS g i j k (cC g i j (cB g (gN g) i (cA g (gN g) ((zset (zset (zset w 4 0) 5 0) 6 (-1000005)), zfil o 10 0) i) j) k)).2) H := hP1
              have hD : va_D (wr_ad (mdw cI cZ b g w S V o)) (mdw cI cZ b g (tS g i j k (cC g i j (cB g (gN g) i (cA g (gN g) ((zset (zset (zset w 4 0) 5 0) 6 (-1000005)), zfil o 10 0) i) j) k)).1 S V (tS g i j k (cC g i j (cB g (gN g) i (cA g (gN g) ((zset (zset (zset w 4 0) 5 0) 6 (-1000005)), zfil o 10 0) i) j) k)).2) := va_D_adr hD rfl
              refine zr_iinc (b := ((k + 1 : Nat) : Int)) (lv' := [(3, .int (zI ((k + 1 : Nat) : Int))), (2, .int (zI (j : Int))), (1, .int (zI (i : Int))), (0, .ref (b 0))]) hx hb dX2_countAll_84 hl (k := 0) rfl (by omega) (by decide) rfl (fun ls hl => ?_)
              refine lv_goto (tgt := 67) hx hb dX2_countAll_87 (by decide) ?_
              have e1 : cC g i j (cB g (gN g) i (cA g (gN g) ((zset (zset (zset w 4 0) 5 0) 6 (-1000005)), zfil o 10 0) i) j) (k + 1) = tS g i j k (cC g i j (cB g (gN g) i (cA g (gN g) ((zset (zset (zset w 4 0) 5 0) 6 (-1000005)), zfil o 10 0) i) j) k) := if_pos hjk
              rw [← e1] at hP hD
              exact ih_deep (k + 1) (by omega) (by omega) H locs hP hD hS ls (lv_sub hl [0, 1, 2, 3] rfl)
          have e2 : cC g i j (cB g (gN g) i (cA g (gN g) ((zset (zset (zset w 4 0) 5 0) 6 (-1000005)), zfil o 10 0) i) j) (j + 1) = (cB g (gN g) i (cA g (gN g) ((zset (zset (zset w 4 0) 5 0) 6 (-1000005)), zfil o 10 0) i) j) := cC_0 _ _ _ _ _ (Nat.le_refl _)
          rw [← e2] at hP hD
          exact deep (gN g - (j + 1)) (j + 1) (by omega) (by omega) H locs hP hD hS ls (lv_sub hl [0, 1, 2, 3] rfl)
      have e3 : cB g (gN g) i (cA g (gN g) ((zset (zset (zset w 4 0) 5 0) 6 (-1000005)), zfil o 10 0) i) (i + 1) = (cA g (gN g) ((zset (zset (zset w 4 0) 5 0) 6 (-1000005)), zfil o 10 0) i) := cB_0 _ _ _ _ _ (Nat.le_refl _)
      rw [← e3] at hP hD
      exact inner (gN g - (i + 1)) (i + 1) (by omega) (by omega) H locs hP hD hS ls (lv_sub hl [0, 1, 2] rfl)
  have fill : ∀ (k_fill i : Nat), i + k_fill = 10 → ∀ (H : Heap) (locs : List Loc), va_P (dC, dI) vwCl (mdw cI cZ b g (zset (zset (zset w 4 0) 5 0) 6 (-1000005)) S V (zfil o i 0)) H → va_D (wr_ad (mdw cI cZ b g w S V o)) (mdw cI cZ b g (zset (zset (zset w 4 0) 5 0) 6 (-1000005)) S V (zfil o i 0)) → va_S (wr_ad (mdw cI cZ b g w S V o)) s.heap H locs → ∀ ls : Array Slot, lv_has ls 4 [(1, .int (zI (i : Int))), (0, .ref (b 0))] → W p l e ({ frames := 3, cells := 0, slots := 0, locals := 72 } : Room) s m [.ref (b 0)].toArray below meth c H locs 0 0 (MQ below (wr_Qc dC dI (mdw cI cZ b g w S V o) (mdw cI cZ b g ((cQ g w o).1) S V ((cQ g w o).2)) none) [.ref (b 0)].toArray s 0 0 (wr_ad (mdw cI cZ b g w S V o))) (F0 m 18 ls []) := by
    intro k_fill
    induction k_fill with
    | zero =>
      intro i hi H locs hP hD hS ls hl
      refine lv_iload_n hx hb dX2_countAll_18 rfl (lv_at hl 0 rfl) ?_
      refine zr_bipush hx hb dX2_countAll_19 (by decide) ?_
      refine zr_icmp_ge (tgt := 37) hx hb dX2_countAll_21 (by decide) (by omega) (by omega) (fun c_21 => ?_) (fun c_21 => absurd c_21 (by omega))
      refine zr_iconst hx hb dX2_countAll_37 ?_
      refine lv_istore_n (lv' := [(1, .int (zI 0)), (0, .ref (b 0))]) hx hb dX2_countAll_38 rfl hl (by decide) rfl (fun ls hl => ?_)
      rw [show i = 10 by omega] at hP hD
      exact loop (gN g) 0 (by omega) H locs hP hD hS ls (lv_sub hl [0, 1] rfl)
    | succ k_fill ih_fill =>
      intro i hi H locs hP hD hS ls hl
      refine lv_iload_n hx hb dX2_countAll_18 rfl (lv_at hl 0 rfl) ?_
      refine zr_bipush hx hb dX2_countAll_19 (by decide) ?_
      refine zr_icmp_ge (tgt := 37) hx hb dX2_countAll_21 (by decide) (by omega) (by omega) (fun c_21 => absurd c_21 (by omega)) (fun c_21 => ?_)
      refine lv_aload_n hx hb dX2_countAll_24 rfl (lv_at hl 1 rfl) ?_
      refine va_get (D := (dC, dI)) (ci := 2) (v := .ref (b 4)) (C := RX2) (T := TX2) (N := 11) hx hb hts hinX2 hown hK.1 hP 0 rfl rfl 10 (by decide) f_20 (fun _ h9 => h9) rfl dX2_countAll_25 ?_
      refine lv_iload_n hx hb dX2_countAll_28 rfl (lv_at hl 0 rfl) ?_
      refine zr_iconst hx hb dX2_countAll_29 ?_
      refine zr_iast hx hb hK.1 hP hD hS 4 0 rfl rfl i (zfil o (i + 1) 0) (by omega) (by omega) (Nat.le_of_ble_eq_true rfl) (zfil_step _ _ _) dX2_countAll_30 (fun H locs hP hD hS => ?_)
      refine zr_iinc (b := ((i + 1 : Nat) : Int)) (lv' := [(1, .int (zI ((i + 1 : Nat) : Int))), (0, .ref (b 0))]) hx hb dX2_countAll_31 hl (k := 0) rfl (by omega) (by decide) rfl (fun ls hl => ?_)
      refine lv_goto (tgt := 18) hx hb dX2_countAll_34 (by decide) ?_
      exact ih_fill (i + 1) (by omega) H locs hP (va_D_adr hD rfl) hS ls (lv_sub hl [0, 1] rfl)
  exact fill 10 0 (by omega) H locs hP hD hS ls (lv_sub hl [0, 1] rfl)
set_option maxHeartbeats 4000000 in
set_option maxRecDepth 100000 in
/-- triangles -/
theorem c_X2_triangles (l : Launch) (dC : Nat → ClassId) (dI : Nat → Nat → Nat) (cI cZ cS : ClassId) (b : Nat → Nat) (g : Nat → Nat → Int) (w S V o : Nat → Int) (r : Int) (hg : gB g r) : Met l yX2_triangles wsX2_triangles ({ frames := 4, cells := 0, slots := 0, locals := 95 } : Room) (wr_Pc dC dI cI cZ cS (mdw cI cZ b g w S V o) [.ref (b 0)]) (wr_Qc dC dI (mdw cI cZ b g w S V o) (mdw cI cZ b g ((cQ g w o).1) S V ((cQ g w o).2)) (some (.int (zI ((cQ g w o).1 4))))) 0 0 (wr_ad (mdw cI cZ b g w S V o)) := by
  refine wr_met (cc := cX2_triangles) (maxL := 1) (ret := (some .int)) (by decide) rfl (Nat.le_of_ble_eq_true rfl) ?_
  intro p e s m below meth c ls hx hb hml hr hlocks hts hown hP hD hS hK hl
  have hl : lv_has ls 1 [(0, .ref (b 0))] := hl
  have hinX2 : ∀ w ∈ u_ws RX2 TX2 11, w ∈ wsX2_triangles := by decide +kernel
  have f_118 := hts (.fieldLink RX2 118 "NetworkCoordinatesModel" "triangleMany" "I") (by decide +kernel)
  have b0 := hg.1
  refine lv_aload_n hx hb dX2_triangles_0 rfl (lv_at hl 0 rfl) ?_
  refine wr_callV (As := []) (rest := []) ⟨hx, hb, hml, hown, hts⟩ (c_X2_countAll l dC dI cI cZ cS b g w S V o r hg) (cwV 0 hts gX2_triangles_X2_countAll rfl rfl rfl (by decide +kernel) ⟨Nat.le_of_ble_eq_true rfl, Nat.le_of_ble_eq_true rfl⟩) hP hD hS hK 0 rfl rfl rfl hl.1 rfl (Nat.le_of_ble_eq_true rfl) dX2_triangles_1 ⟨Nat.zero_le _, Nat.zero_le _⟩ (fun H locs hP1 hk1 hS => ?_)
  have hP : va_P (dC, dI) vwCl (mdw cI cZ b g (cQ g w o).1 S V (cQ g w o).2) H := hP1
  have hD : va_D (wr_ad (mdw cI cZ b g w S V o)) (mdw cI cZ b g (cQ g w o).1 S V (cQ g w o).2) := va_D_adr hD rfl
  refine lv_aload_n hx hb dX2_triangles_4 rfl (lv_at hl 0 rfl) ?_
  refine va_get (D := (dC, dI)) (ci := 2) (v := .int (zI ((cQ g w o).1 4))) (C := RX2) (T := TX2) (N := 11) hx hb hts hinX2 hown hK.1 hP 0 rfl rfl 7 (by decide) f_118 (fun _ h9 => h9) rfl dX2_triangles_5 ?_
  exact wr_iret hx hb hr hlocks hP hS rfl dX2_triangles_8
set_option maxHeartbeats 4000000 in
set_option maxRecDepth 100000 in
/-- violations -/
theorem c_X2_violations (l : Launch) (dC : Nat → ClassId) (dI : Nat → Nat → Nat) (cI cZ cS : ClassId) (b : Nat → Nat) (g : Nat → Nat → Int) (w S V o : Nat → Int) (r : Int) (hg : gB g r) : Met l yX2_violations wsX2_violations ({ frames := 4, cells := 0, slots := 0, locals := 95 } : Room) (wr_Pc dC dI cI cZ cS (mdw cI cZ b g w S V o) [.ref (b 0)]) (wr_Qc dC dI (mdw cI cZ b g w S V o) (mdw cI cZ b g ((cQ g w o).1) S V ((cQ g w o).2)) (some (.int (zI ((cQ g w o).1 5))))) 0 0 (wr_ad (mdw cI cZ b g w S V o)) := by
  refine wr_met (cc := cX2_violations) (maxL := 1) (ret := (some .int)) (by decide) rfl (Nat.le_of_ble_eq_true rfl) ?_
  intro p e s m below meth c ls hx hb hml hr hlocks hts hown hP hD hS hK hl
  have hl : lv_has ls 1 [(0, .ref (b 0))] := hl
  have hinX2 : ∀ w ∈ u_ws RX2 TX2 11, w ∈ wsX2_violations := by decide +kernel
  have f_125 := hts (.fieldLink RX2 125 "NetworkCoordinatesModel" "violatedMany" "I") (by decide +kernel)
  have b0 := hg.1
  refine lv_aload_n hx hb dX2_violations_0 rfl (lv_at hl 0 rfl) ?_
  refine wr_callV (As := []) (rest := []) ⟨hx, hb, hml, hown, hts⟩ (c_X2_countAll l dC dI cI cZ cS b g w S V o r hg) (cwV 0 hts gX2_violations_X2_countAll rfl rfl rfl (by decide +kernel) ⟨Nat.le_of_ble_eq_true rfl, Nat.le_of_ble_eq_true rfl⟩) hP hD hS hK 0 rfl rfl rfl hl.1 rfl (Nat.le_of_ble_eq_true rfl) dX2_violations_1 ⟨Nat.zero_le _, Nat.zero_le _⟩ (fun H locs hP1 hk1 hS => ?_)
  have hP : va_P (dC, dI) vwCl (mdw cI cZ b g (cQ g w o).1 S V (cQ g w o).2) H := hP1
  have hD : va_D (wr_ad (mdw cI cZ b g w S V o)) (mdw cI cZ b g (cQ g w o).1 S V (cQ g w o).2) := va_D_adr hD rfl
  refine lv_aload_n hx hb dX2_violations_4 rfl (lv_at hl 0 rfl) ?_
  refine va_get (D := (dC, dI)) (ci := 2) (v := .int (zI ((cQ g w o).1 5))) (C := RX2) (T := TX2) (N := 11) hx hb hts hinX2 hown hK.1 hP 0 rfl rfl 8 (by decide) f_125 (fun _ h9 => h9) rfl dX2_violations_5 ?_
  exact wr_iret hx hb hr hlocks hP hS rfl dX2_violations_8
set_option maxHeartbeats 4000000 in
set_option maxRecDepth 100000 in
/-- worstExcess -/
theorem c_X2_worstExcess (l : Launch) (dC : Nat → ClassId) (dI : Nat → Nat → Nat) (cI cZ cS : ClassId) (b : Nat → Nat) (g : Nat → Nat → Int) (w S V o : Nat → Int) (r : Int) (hg : gB g r) : Met l yX2_worstExcess wsX2_worstExcess ({ frames := 4, cells := 0, slots := 0, locals := 95 } : Room) (wr_Pc dC dI cI cZ cS (mdw cI cZ b g w S V o) [.ref (b 0)]) (wr_Qc dC dI (mdw cI cZ b g w S V o) (mdw cI cZ b g ((cQ g w o).1) S V ((cQ g w o).2)) (some (.int (zI ((cQ g w o).1 6))))) 0 0 (wr_ad (mdw cI cZ b g w S V o)) := by
  refine wr_met (cc := cX2_worstExcess) (maxL := 1) (ret := (some .int)) (by decide) rfl (Nat.le_of_ble_eq_true rfl) ?_
  intro p e s m below meth c ls hx hb hml hr hlocks hts hown hP hD hS hK hl
  have hl : lv_has ls 1 [(0, .ref (b 0))] := hl
  have hinX2 : ∀ w ∈ u_ws RX2 TX2 11, w ∈ wsX2_worstExcess := by decide +kernel
  have f_128 := hts (.fieldLink RX2 128 "NetworkCoordinatesModel" "mostExcess" "I") (by decide +kernel)
  have b0 := hg.1
  refine lv_aload_n hx hb dX2_worstExcess_0 rfl (lv_at hl 0 rfl) ?_
  refine wr_callV (As := []) (rest := []) ⟨hx, hb, hml, hown, hts⟩ (c_X2_countAll l dC dI cI cZ cS b g w S V o r hg) (cwV 0 hts gX2_worstExcess_X2_countAll rfl rfl rfl (by decide +kernel) ⟨Nat.le_of_ble_eq_true rfl, Nat.le_of_ble_eq_true rfl⟩) hP hD hS hK 0 rfl rfl rfl hl.1 rfl (Nat.le_of_ble_eq_true rfl) dX2_worstExcess_1 ⟨Nat.zero_le _, Nat.zero_le _⟩ (fun H locs hP1 hk1 hS => ?_)
  have hP : va_P (dC, dI) vwCl (mdw cI cZ b g (cQ g w o).1 S V (cQ g w o).2) H := hP1
  have hD : va_D (wr_ad (mdw cI cZ b g w S V o)) (mdw cI cZ b g (cQ g w o).1 S V (cQ g w o).2) := va_D_adr hD rfl
  refine lv_aload_n hx hb dX2_worstExcess_4 rfl (lv_at hl 0 rfl) ?_
  refine va_get (D := (dC, dI)) (ci := 2) (v := .int (zI ((cQ g w o).1 6))) (C := RX2) (T := TX2) (N := 11) hx hb hts hinX2 hown hK.1 hP 0 rfl rfl 9 (by decide) f_128 (fun _ h9 => h9) rfl dX2_worstExcess_5 ?_
  exact wr_iret hx hb hr hlocks hP hS rfl dX2_worstExcess_8
set_option maxHeartbeats 4000000 in
set_option maxRecDepth 100000 in
/-- move -/
theorem c_X2_move (l : Launch) (dC : Nat → ClassId) (dI : Nat → Nat → Nat) (cI cZ cS : ClassId) (b : Nat → Nat) (g : Nat → Nat → Int) (w S V o : Nat → Int) (r : Int) (hg : gB g r) (u : Int) (hu : -2147483648 ≤ u ∧ u ≤ 2147483647) (v : Int) (hv : -2147483648 ≤ v ∧ v ≤ 2147483647) : Met l yX2_move wsX2_move ({ frames := 4, cells := 0, slots := 0, locals := 124 } : Room) (wr_Pc dC dI cI cZ cS (mdw cI cZ b g w S V o) [.ref (b 0), .int (zI u), .int (zI v)]) (wr_Qc dC dI (mdw cI cZ b g w S V o) (mdw cI cZ b g (wMeas g u v w) S V o) (some (.int (zI (aMove g u v))))) 0 0 (wr_ad (mdw cI cZ b g w S V o)) := by
  refine wr_met (cc := cX2_move) (maxL := 4) (ret := (some .int)) (by decide) rfl (Nat.le_of_ble_eq_true rfl) ?_
  intro p e s m below meth c ls hx hb hml hr hlocks hts hown hP hD hS hK hl
  have hl : lv_has ls 4 [(0, .ref (b 0)), (1, .int (zI u)), (2, .int (zI v))] := hl
  have hinX2 : ∀ w ∈ u_ws RX2 TX2 11, w ∈ wsX2_move := by decide +kernel
  have f_88 := hts (.fieldLink RX2 88 "NetworkCoordinatesModel" "newX" "I") (by decide +kernel)
  have f_7 := hts (.fieldLink RX2 7 "NetworkCoordinatesModel" "state" "[I") (by decide +kernel)
  have f_91 := hts (.fieldLink RX2 91 "NetworkCoordinatesModel" "newY" "I") (by decide +kernel)
  have b0 := hg.1
  have s0 := sKf_rng g u v
  refine lv_aload_n hx hb dX2_move_0 rfl (lv_at hl 0 rfl) ?_
  refine lv_iload_n hx hb dX2_move_1 rfl (lv_at hl 1 rfl) ?_
  refine lv_iload_n hx hb dX2_move_2 rfl (lv_at hl 2 rfl) ?_
  refine rd_callV (As := [.int (zI u), .int (zI v)]) (rest := []) ⟨hx, hb, hml, hown, hts⟩ (c_X2_wrongKnown l dC dI cI cZ cS b g w S V o r hg   u (by omega) v (by omega) ) (cwV 2 hts gX2_move_X2_wrongKnown rfl rfl rfl (by decide +kernel) ⟨Nat.le_of_ble_eq_true rfl, Nat.le_of_ble_eq_true rfl⟩) hP hK 0 rfl rfl rfl hl.1 rfl (Nat.le_of_ble_eq_true rfl) dX2_move_3 ⟨Nat.zero_le _, Nat.zero_le _⟩ ?_
  refine lv_istore_n (lv' := [(3, .int (zI (sKf g u v))), (0, .ref (b 0)), (1, .int (zI u)), (2, .int (zI v))]) hx hb dX2_move_6 rfl hl (by decide) rfl (fun ls hl => ?_)
  refine lv_iload_n hx hb dX2_move_7 rfl (lv_at hl 0 rfl) ?_
  refine zr_if_eq (tgt := 13) hx hb dX2_move_8 (by decide) (by omega) (fun c_8 => ?_) (fun c_8 => ?_)
  · obtain ⟨c1, c2⟩ := sKf_0 c_8
    obtain ⟨A, B, rfl, rfl, hA2, hB2, hA, hB, hAB, eA, eB⟩ := z_nodes hg c1
    have kAB := hg.2.2 A B hA hB
    rw [eA, eB] at c2
    have bA := hg.2.1 A hA
    have t1 : -100000 ≤ wOut g A B w 0 ∧ wOut g A B w 0 ≤ 100000 := sLim_bd (v := g 1 A + (if sPrd g A B = 0 then sStp g A B (sPrd g A B) else (sStp g A B (sPrd g A B) * (g 1 A - g 1 B)).tdiv (sPrd g A B))) (lo := -100000) (hi := 100000) (by omega)
    have t2 : -100000 ≤ wOut g A B w 1 ∧ wOut g A B w 1 ≤ 100000 := sLim_bd (v := g 2 A + (if sPrd g A B = 0 then 0 else (sStp g A B (sPrd g A B) * (g 2 A - g 2 B)).tdiv (sPrd g A B))) (lo := -100000) (hi := 100000) (by omega)
    refine lv_aload_n hx hb dX2_move_13 rfl (lv_at hl 1 rfl) ?_
    refine lv_iload_n hx hb dX2_move_14 rfl (lv_at hl 2 rfl) ?_
    refine lv_iload_n hx hb dX2_move_15 rfl (lv_at hl 3 rfl) ?_
    refine wr_callV (As := [.int (zI (A : Int)), .int (zI (B : Int))]) (rest := []) ⟨hx, hb, hml, hown, hts⟩ (c_X2_workOut l dC dI cI cZ cS b g w S V o r hg A B (by omega) (by omega) (by omega)) (cwV 2 hts gX2_move_X2_workOut rfl rfl rfl (by decide +kernel) ⟨Nat.le_of_ble_eq_true rfl, Nat.le_of_ble_eq_true rfl⟩) hP hD hS hK 0 rfl rfl rfl hl.1 rfl (Nat.le_of_ble_eq_true rfl) dX2_move_16 ⟨Nat.zero_le _, Nat.zero_le _⟩ (fun H locs hP1 hk1 hS => ?_)
    have hP : va_P (dC, dI) vwCl (mdw cI cZ b g (wOut g A B w) S V o) H := hP1
    have hD : va_D (wr_ad (mdw cI cZ b g w S V o)) (mdw cI cZ b g (wOut g A B w) S V o) := va_D_adr hD rfl
    refine lv_aload_n hx hb dX2_move_19 rfl (lv_at hl 1 rfl) ?_
    refine va_get (D := (dC, dI)) (ci := 2) (v := .int (zI ((wOut g A B w) 0))) (C := RX2) (T := TX2) (N := 11) hx hb hts hinX2 hown hK.1 hP 0 rfl rfl 3 (by decide) f_88 (fun _ h9 => h9) rfl dX2_move_20 ?_
    refine lv_aload_n hx hb dX2_move_23 rfl (lv_at hl 1 rfl) ?_
    refine va_get (D := (dC, dI)) (ci := 2) (v := .ref (b 1)) (C := RX2) (T := TX2) (N := 11) hx hb hts hinX2 hown hK.1 hP 0 rfl rfl 0 (by decide) f_7 (fun _ h9 => h9) rfl dX2_move_24 ?_
    refine zr_iconst hx hb dX2_move_27 ?_
    refine lv_iload_n hx hb dX2_move_28 rfl (lv_at hl 2 rfl) ?_
    refine zr_iadd hx hb dX2_move_29 ?_
    refine zr_iald hx hb hK.1 hP 1 0 rfl rfl (5 + A) (g 1 A) (by omega) (by omega) (Nat.le_of_ble_eq_true rfl) (flat_1 (by omega)) dX2_move_30 ?_
    refine zr_isub hx hb dX2_move_31 ?_
    refine zr_i2l hx hb (by omega) dX2_move_32 ?_
    refine lv_aload_n hx hb dX2_move_33 rfl (lv_at hl 1 rfl) ?_
    refine va_get (D := (dC, dI)) (ci := 2) (v := .int (zI ((wOut g A B w) 1))) (C := RX2) (T := TX2) (N := 11) hx hb hts hinX2 hown hK.1 hP 0 rfl rfl 4 (by decide) f_91 (fun _ h9 => h9) rfl dX2_move_34 ?_
    refine lv_aload_n hx hb dX2_move_37 rfl (lv_at hl 1 rfl) ?_
    refine va_get (D := (dC, dI)) (ci := 2) (v := .ref (b 1)) (C := RX2) (T := TX2) (N := 11) hx hb hts hinX2 hown hK.1 hP 0 rfl rfl 0 (by decide) f_7 (fun _ h9 => h9) rfl dX2_move_38 ?_
    refine zr_bipush hx hb dX2_move_41 (by decide) ?_
    refine lv_iload_n hx hb dX2_move_43 rfl (lv_at hl 2 rfl) ?_
    refine zr_iadd hx hb dX2_move_44 ?_
    refine zr_iald hx hb hK.1 hP 1 0 rfl rfl (15 + A) (g 2 A) (by omega) (by omega) (Nat.le_of_ble_eq_true rfl) (flat_2 (by omega)) dX2_move_45 ?_
    refine zr_isub hx hb dX2_move_46 ?_
    refine zr_i2l hx hb (by omega) dX2_move_47 ?_
    refine rd_callS (As := [.long (zL ((wOut g A B w) 0 - g 1 A)), .long (zL ((wOut g A B w) 1 - g 2 A))]) (rest := []) ⟨hx, hb, hml, hown, hts⟩ (c_X2_planar l dC dI cI cZ cS ((wOut g A B w) 0 - g 1 A) ((wOut g A B w) 1 - g 2 A) (by omega) (by omega)) (va_cwS 2 hts gX2_move_X2_planar rfl rfl rfl (by decide +kernel) ⟨Nat.le_of_ble_eq_true rfl, Nat.le_of_ble_eq_true rfl⟩) va_P_nil hK rfl hl.1 rfl (Nat.le_of_ble_eq_true rfl) dX2_move_48 ⟨Nat.zero_le _, Nat.zero_le _⟩ ?_
    exact wr_iret hx hb hr hlocks (show va_P (dC, dI) vwCl (mdw cI cZ b g (wMeas g (A : Int) (B : Int) w) S V o) _ by rw [show wMeas g (A : Int) (B : Int) w = wOut g A B w from (if_pos c_8).trans (by rw [eA, eB])]; exact hP) hS (by unfold aMove; rw [if_pos c_8, eA, eB]; rfl) dX2_move_51
  · refine lv_iload_n hx hb dX2_move_11 rfl (lv_at hl 0 rfl) ?_
    exact wr_iret hx hb hr hlocks (show va_P (dC, dI) vwCl (mdw cI cZ b g (wMeas g u v w) S V o) _ by rw [show wMeas g u v w = w from if_neg c_8]; exact hP) hS (by unfold aMove; rw [if_neg c_8]) dX2_move_12
set_option maxHeartbeats 4000000 in
set_option maxRecDepth 100000 in
/-- save -/
theorem c_X2_save (l : Launch) (dC : Nat → ClassId) (dI : Nat → Nat → Nat) (cI cZ cS : ClassId) (b : Nat → Nat) (g : Nat → Nat → Int) (w S V o : Nat → Int) (r : Int) (hg : gB g r) (u : Int) (hu : -2147483648 ≤ u ∧ u ≤ 2147483647) : Met l yX2_save wsX2_save ({ frames := 1, cells := 0, slots := 0, locals := 22 } : Room) (wr_Pc dC dI cI cZ cS (mdw cI cZ b g w S V o) [.ref (b 0), .int (zI u)]) (wr_Qc dC dI (mdw cI cZ b g w S V o) (mdw cI cZ b g w (nS S g u) (nV V u) o) (some (.int (zI (aSave u))))) 0 0 (wr_ad (mdw cI cZ b g w S V o)) := by
  refine wr_met (cc := cX2_save) (maxL := 3) (ret := (some .int)) (by decide) rfl (Nat.le_of_ble_eq_true rfl) ?_
  intro p e s m below meth c ls hx hb hml hr hlocks hts hown hP hD hS hK hl
  have hl : lv_has ls 3 [(0, .ref (b 0)), (1, .int (zI u))] := hl
  have hinX2 : ∀ w ∈ u_ws RX2 TX2 11, w ∈ wsX2_save := by decide +kernel
  have f_16 := hts (.fieldLink RX2 16 "NetworkCoordinatesModel" "isSaved" "[Z") (by decide +kernel)
  have f_13 := hts (.fieldLink RX2 13 "NetworkCoordinatesModel" "slots" "[I") (by decide +kernel)
  have f_7 := hts (.fieldLink RX2 7 "NetworkCoordinatesModel" "state" "[I") (by decide +kernel)
  have k_35 := hts (.constant RX2 35 (-1000002)) (by decide +kernel)
  have b0 := hg.1
  refine lv_iload_n hx hb dX2_save_0 rfl (lv_at hl 1 rfl) ?_
  refine zr_iconst hx hb dX2_save_1 ?_
  refine zr_iconst hx hb dX2_save_2 ?_
  refine rd_callS (As := [.int (zI u), .int (zI 0), .int (zI 1)]) (rest := []) ⟨hx, hb, hml, hown, hts⟩ (c_X2_in l dC dI cI cZ cS u 0 1 (by omega) (by omega) (by omega)) (va_cwS 3 hts gX2_save_X2_in rfl rfl rfl (by decide +kernel) ⟨Nat.le_of_ble_eq_true rfl, Nat.le_of_ble_eq_true rfl⟩) va_P_nil hK rfl hl.1 rfl (Nat.le_of_ble_eq_true rfl) dX2_save_3 ⟨Nat.zero_le _, Nat.zero_le _⟩ ?_
  refine zr_bif_ne (tgt := 12) hx hb dX2_save_6 (by decide) (fun c_6 => ?_) (fun c_6 => ?_)
  · obtain ⟨A, rfl⟩ : ∃ A : Nat, u = (A : Int) := ⟨u.toNat, by omega⟩
    have eA : ((A : Nat) : Int).toNat = A := by omega
    refine zr_iconst hx hb dX2_save_12 ?_
    refine lv_istore_n (lv' := [(2, .int (zI 0)), (0, .ref (b 0)), (1, .int (zI (A : Int)))]) hx hb dX2_save_13 rfl hl (by decide) rfl (fun ls hl => ?_)
    have hP : va_P (dC, dI) vwCl (mdw cI cZ b g w (sSv S (flat g) A 0) V o) s.heap := by rw [sSv_0]; exact hP
    have hD : va_D (wr_ad (mdw cI cZ b g w S V o)) (mdw cI cZ b g w (sSv S (flat g) A 0) V o) := va_D_adr hD rfl
    have loop : ∀ (k_loop i : Nat), i + k_loop = 155 → ∀ (H : Heap) (locs : List Loc), va_P (dC, dI) vwCl (mdw cI cZ b g w (sSv S (flat g) A i) V o) H → va_D (wr_ad (mdw cI cZ b g w S V o)) (mdw cI cZ b g w (sSv S (flat g) A i) V o) → va_S (wr_ad (mdw cI cZ b g w S V o)) s.heap H locs → ∀ ls : Array Slot, lv_has ls 3 [(2, .int (zI (i : Int))), (0, .ref (b 0)), (1, .int (zI (A : Int)))] → W p l e ({ frames := 1, cells := 0, slots := 0, locals := 22 } : Room) s m [.ref (b 0), .int (zI (A : Int))].toArray below meth c H locs 0 0 (MQ below (wr_Qc dC dI (mdw cI cZ b g w S V o) (mdw cI cZ b g w (nS S g (A : Int)) (nV V (A : Int)) o) (some (.int (zI (aSave (A : Int)))))) [.ref (b 0), .int (zI (A : Int))].toArray s 0 0 (wr_ad (mdw cI cZ b g w S V o))) (F0 m 14 ls []) := by
      intro k_loop
      induction k_loop with
      | zero =>
        intro i hi H locs hP hD hS ls hl
        refine lv_iload_n hx hb dX2_save_14 rfl (lv_at hl 0 rfl) ?_
        refine zr_sipush hx hb dX2_save_15 (by decide) ?_
        refine zr_icmp_ge (tgt := 45) hx hb dX2_save_18 (by decide) (by omega) (by omega) (fun c_18 => ?_) (fun c_18 => absurd c_18 (by omega))
        have hi2 : i = 155 := by omega
        subst hi2
        refine lv_aload_n hx hb dX2_save_45 rfl (lv_at hl 1 rfl) ?_
        refine va_get (D := (dC, dI)) (ci := 2) (v := .ref (b 3)) (C := RX2) (T := TX2) (N := 11) hx hb hts hinX2 hown hK.1 hP 0 rfl rfl 2 (by decide) f_16 (fun _ h9 => h9) rfl dX2_save_46 ?_
        refine lv_iload_n hx hb dX2_save_49 rfl (lv_at hl 2 rfl) ?_
        refine zr_iconst hx hb dX2_save_50 ?_
        refine zr_zast hx hb hK.1 hP hD hS 3 1 rfl rfl A (Or.inr rfl) rfl (by omega) (Nat.le_of_ble_eq_true rfl) dX2_save_51 (fun H locs hP hD hS => ?_)
        refine zr_iconst hx hb dX2_save_52 ?_
        exact wr_iret hx hb hr hlocks (show va_P (dC, dI) vwCl (mdw cI cZ b g w (nS S g (A : Int)) (nV V (A : Int)) o) _ by rw [show nS S g (A : Int) = sSv S (flat g) A 155 from (if_pos c_6).trans (by rw [eA]), show nV V (A : Int) = zset V A 1 from (if_pos c_6).trans (by rw [eA])]; exact hP) hS (by unfold aSave; rw [if_pos c_6]) dX2_save_53
      | succ k_loop ih_loop =>
        intro i hi H locs hP hD hS ls hl
        refine lv_iload_n hx hb dX2_save_14 rfl (lv_at hl 0 rfl) ?_
        refine zr_sipush hx hb dX2_save_15 (by decide) ?_
        refine zr_icmp_ge (tgt := 45) hx hb dX2_save_18 (by decide) (by omega) (by omega) (fun c_18 => absurd c_18 (by omega)) (fun c_18 => ?_)
        refine lv_aload_n hx hb dX2_save_21 rfl (lv_at hl 1 rfl) ?_
        refine va_get (D := (dC, dI)) (ci := 2) (v := .ref (b 2)) (C := RX2) (T := TX2) (N := 11) hx hb hts hinX2 hown hK.1 hP 0 rfl rfl 1 (by decide) f_13 (fun _ h9 => h9) rfl dX2_save_22 ?_
        refine zr_sipush hx hb dX2_save_25 (by decide) ?_
        refine lv_iload_n hx hb dX2_save_28 rfl (lv_at hl 2 rfl) ?_
        refine zr_imul hx hb dX2_save_29 ?_
        refine lv_iload_n hx hb dX2_save_30 rfl (lv_at hl 0 rfl) ?_
        refine zr_iadd hx hb dX2_save_31 ?_
        refine lv_aload_n hx hb dX2_save_32 rfl (lv_at hl 1 rfl) ?_
        refine va_get (D := (dC, dI)) (ci := 2) (v := .ref (b 1)) (C := RX2) (T := TX2) (N := 11) hx hb hts hinX2 hown hK.1 hP 0 rfl rfl 0 (by decide) f_7 (fun _ h9 => h9) rfl dX2_save_33 ?_
        refine lv_iload_n hx hb dX2_save_36 rfl (lv_at hl 0 rfl) ?_
        refine zr_iald hx hb hK.1 hP 1 0 rfl rfl i (flat g i) (by omega) (by omega) (Nat.le_of_ble_eq_true rfl) rfl dX2_save_37 ?_
        refine zr_iast hx hb hK.1 hP hD hS 2 0 rfl rfl (155 * A + i) (sSv S (flat g) A (i + 1)) (by omega) (by omega) (Nat.le_of_ble_eq_true rfl) (sSv_s _ _ _ _ rfl rfl) dX2_save_38 (fun H locs hP hD hS => ?_)
        refine zr_iinc (b := ((i + 1 : Nat) : Int)) (lv' := [(2, .int (zI ((i + 1 : Nat) : Int))), (0, .ref (b 0)), (1, .int (zI (A : Int)))]) hx hb dX2_save_39 hl (k := 0) rfl (by omega) (by decide) rfl (fun ls hl => ?_)
        refine lv_goto (tgt := 14) hx hb dX2_save_42 (by decide) ?_
        exact ih_loop (i + 1) (by omega) H locs hP (va_D_adr hD rfl) hS ls (lv_sub hl [0, 1, 2] rfl)
    exact loop 155 0 (by omega) s.heap [] hP hD hS ls (lv_sub hl [0, 1, 2] rfl)
  · refine zr_ldc hx hb (-1000002) hown k_35 (by decide) dX2_save_9 ?_
    exact wr_iret hx hb hr hlocks (show va_P (dC, dI) vwCl (mdw cI cZ b g w (nS S g u) (nV V u) o) _ by rw [show nS S g u = S from if_neg c_6, show nV V u = V from if_neg c_6]; exact hP) hS (by unfold aSave; rw [if_neg c_6]) dX2_save_11
set_option maxHeartbeats 4000000 in
set_option maxRecDepth 100000 in
/-- restore -/
theorem c_X2_restore (l : Launch) (dC : Nat → ClassId) (dI : Nat → Nat → Nat) (cI cZ cS : ClassId) (b : Nat → Nat) (g : Nat → Nat → Int) (w S V o : Nat → Int) (r : Int) (hg : gB g r) (u : Int) (hu : -2147483648 ≤ u ∧ u ≤ 2147483647) (hV : ∀ k, k < 2 → 0 ≤ V k ∧ V k ≤ 1) : Met l yX2_restore wsX2_restore ({ frames := 1, cells := 0, slots := 0, locals := 22 } : Room) (wr_Pc dC dI cI cZ cS (mdw cI cZ b g w S V o) [.ref (b 0), .int (zI u)]) (wr_Qc dC dI (mdw cI cZ b g w S V o) (mdf cI cZ b (fRest S V g u) w S V o) (some (.int (zI (aRest V u))))) 0 0 (wr_ad (mdw cI cZ b g w S V o)) := by
  refine wr_met (cc := cX2_restore) (maxL := 3) (ret := (some .int)) (by decide) rfl (Nat.le_of_ble_eq_true rfl) ?_
  intro p e s m below meth c ls hx hb hml hr hlocks hts hown hP hD hS hK hl
  have hl : lv_has ls 3 [(0, .ref (b 0)), (1, .int (zI u))] := hl
  have hinX2 : ∀ w ∈ u_ws RX2 TX2 11, w ∈ wsX2_restore := by decide +kernel
  have f_16 := hts (.fieldLink RX2 16 "NetworkCoordinatesModel" "isSaved" "[Z") (by decide +kernel)
  have f_7 := hts (.fieldLink RX2 7 "NetworkCoordinatesModel" "state" "[I") (by decide +kernel)
  have f_13 := hts (.fieldLink RX2 13 "NetworkCoordinatesModel" "slots" "[I") (by decide +kernel)
  have k_138 := hts (.constant RX2 138 (-1000006)) (by decide +kernel)
  have k_35 := hts (.constant RX2 35 (-1000002)) (by decide +kernel)
  have b0 := hg.1
  refine lv_iload_n hx hb dX2_restore_0 rfl (lv_at hl 1 rfl) ?_
  refine zr_iconst hx hb dX2_restore_1 ?_
  refine zr_iconst hx hb dX2_restore_2 ?_
  refine rd_callS (As := [.int (zI u), .int (zI 0), .int (zI 1)]) (rest := []) ⟨hx, hb, hml, hown, hts⟩ (c_X2_in l dC dI cI cZ cS u 0 1 (by omega) (by omega) (by omega)) (va_cwS 3 hts gX2_restore_X2_in rfl rfl rfl (by decide +kernel) ⟨Nat.le_of_ble_eq_true rfl, Nat.le_of_ble_eq_true rfl⟩) va_P_nil hK rfl hl.1 rfl (Nat.le_of_ble_eq_true rfl) dX2_restore_3 ⟨Nat.zero_le _, Nat.zero_le _⟩ ?_
  refine zr_bif_ne (tgt := 12) hx hb dX2_restore_6 (by decide) (fun c_6 => ?_) (fun c_6 => ?_)
  · obtain ⟨A, rfl⟩ : ∃ A : Nat, u = (A : Int) := ⟨u.toNat, by omega⟩
    have eA : ((A : Nat) : Int).toNat = A := by omega
    have bV := hV A (by omega)
    refine lv_aload_n hx hb dX2_restore_12 rfl (lv_at hl 0 rfl) ?_
    refine va_get (D := (dC, dI)) (ci := 2) (v := .ref (b 3)) (C := RX2) (T := TX2) (N := 11) hx hb hts hinX2 hown hK.1 hP 0 rfl rfl 2 (by decide) f_16 (fun _ h9 => h9) rfl dX2_restore_13 ?_
    refine lv_iload_n hx hb dX2_restore_16 rfl (lv_at hl 1 rfl) ?_
    refine zr_zald hx hb hK.1 hP 3 1 rfl rfl A (V A) rfl (by omega) (Nat.le_of_ble_eq_true rfl) rfl dX2_restore_17 ?_
    refine zr_if_ne (tgt := 24) hx hb dX2_restore_18 (by decide) (by omega) (fun c_18 => ?_) (fun c_18 => ?_)
    · refine zr_iconst hx hb dX2_restore_24 ?_
      refine lv_istore_n (lv' := [(2, .int (zI 0)), (0, .ref (b 0)), (1, .int (zI (A : Int)))]) hx hb dX2_restore_25 rfl hl (by decide) rfl (fun ls hl => ?_)
      have hP : va_P (dC, dI) vwCl (mdf cI cZ b (rsf S (flat g) A 0) w S V o) s.heap := by rw [rsf_0]; exact hP
      have hD : va_D (wr_ad (mdw cI cZ b g w S V o)) (mdf cI cZ b (rsf S (flat g) A 0) w S V o) := va_D_adr hD rfl
      have loop : ∀ (k_loop i : Nat), i + k_loop = 155 → ∀ (H : Heap) (locs : List Loc), va_P (dC, dI) vwCl (mdf cI cZ b (rsf S (flat g) A i) w S V o) H → va_D (wr_ad (mdw cI cZ b g w S V o)) (mdf cI cZ b (rsf S (flat g) A i) w S V o) → va_S (wr_ad (mdw cI cZ b g w S V o)) s.heap H locs → ∀ ls : Array Slot, lv_has ls 3 [(2, .int (zI (i : Int))), (0, .ref (b 0)), (1, .int (zI (A : Int)))] → W p l e ({ frames := 1, cells := 0, slots := 0, locals := 22 } : Room) s m [.ref (b 0), .int (zI (A : Int))].toArray below meth c H locs 0 0 (MQ below (wr_Qc dC dI (mdw cI cZ b g w S V o) (mdf cI cZ b (fRest S V g (A : Int)) w S V o) (some (.int (zI (aRest V (A : Int)))))) [.ref (b 0), .int (zI (A : Int))].toArray s 0 0 (wr_ad (mdw cI cZ b g w S V o))) (F0 m 26 ls []) := by
        intro k_loop
        induction k_loop with
        | zero =>
          intro i hi H locs hP hD hS ls hl
          refine lv_iload_n hx hb dX2_restore_26 rfl (lv_at hl 0 rfl) ?_
          refine zr_sipush hx hb dX2_restore_27 (by decide) ?_
          refine zr_icmp_ge (tgt := 57) hx hb dX2_restore_30 (by decide) (by omega) (by omega) (fun c_30 => ?_) (fun c_30 => absurd c_30 (by omega))
          refine zr_iconst hx hb dX2_restore_57 ?_
          have hi2 : i = 155 := by omega
          subst hi2
          exact wr_iret hx hb hr hlocks (show va_P (dC, dI) vwCl (mdf cI cZ b (fRest S V g (A : Int)) w S V o) _ by rw [show fRest S V g (A : Int) = rsf S (flat g) A 155 from (if_pos ⟨c_6, by rw [eA]; exact c_18⟩).trans (by rw [eA])]; exact hP) hS (by unfold aRest; rw [if_pos c_6, eA, if_neg c_18]) dX2_restore_58
        | succ k_loop ih_loop =>
          intro i hi H locs hP hD hS ls hl
          refine lv_iload_n hx hb dX2_restore_26 rfl (lv_at hl 0 rfl) ?_
          refine zr_sipush hx hb dX2_restore_27 (by decide) ?_
          refine zr_icmp_ge (tgt := 57) hx hb dX2_restore_30 (by decide) (by omega) (by omega) (fun c_30 => absurd c_30 (by omega)) (fun c_30 => ?_)
          refine lv_aload_n hx hb dX2_restore_33 rfl (lv_at hl 1 rfl) ?_
          refine va_get (D := (dC, dI)) (ci := 2) (v := .ref (b 1)) (C := RX2) (T := TX2) (N := 11) hx hb hts hinX2 hown hK.1 hP 0 rfl rfl 0 (by decide) f_7 (fun _ h9 => h9) rfl dX2_restore_34 ?_
          refine lv_iload_n hx hb dX2_restore_37 rfl (lv_at hl 0 rfl) ?_
          refine lv_aload_n hx hb dX2_restore_38 rfl (lv_at hl 1 rfl) ?_
          refine va_get (D := (dC, dI)) (ci := 2) (v := .ref (b 2)) (C := RX2) (T := TX2) (N := 11) hx hb hts hinX2 hown hK.1 hP 0 rfl rfl 1 (by decide) f_13 (fun _ h9 => h9) rfl dX2_restore_39 ?_
          refine zr_sipush hx hb dX2_restore_42 (by decide) ?_
          refine lv_iload_n hx hb dX2_restore_45 rfl (lv_at hl 2 rfl) ?_
          refine zr_imul hx hb dX2_restore_46 ?_
          refine lv_iload_n hx hb dX2_restore_47 rfl (lv_at hl 0 rfl) ?_
          refine zr_iadd hx hb dX2_restore_48 ?_
          refine zr_iald hx hb hK.1 hP 2 0 rfl rfl (155 * A + i) (S (155 * A + i)) (by omega) (by omega) (Nat.le_of_ble_eq_true rfl) rfl dX2_restore_49 ?_
          refine zr_iast hx hb hK.1 hP hD hS 1 0 rfl rfl i (rsf S (flat g) A (i + 1)) (by omega) (by omega) (Nat.le_of_ble_eq_true rfl) (rsf_s _ _ _ _) dX2_restore_50 (fun H locs hP hD hS => ?_)
          refine zr_iinc (b := ((i + 1 : Nat) : Int)) (lv' := [(2, .int (zI ((i + 1 : Nat) : Int))), (0, .ref (b 0)), (1, .int (zI (A : Int)))]) hx hb dX2_restore_51 hl (k := 0) rfl (by omega) (by decide) rfl (fun ls hl => ?_)
          refine lv_goto (tgt := 26) hx hb dX2_restore_54 (by decide) ?_
          exact ih_loop (i + 1) (by omega) H locs hP (va_D_adr hD rfl) hS ls (lv_sub hl [0, 1, 2] rfl)
      exact loop 155 0 (by omega) s.heap [] hP hD hS ls (lv_sub hl [0, 1, 2] rfl)
    · refine zr_ldc hx hb (-1000006) hown k_138 (by decide) dX2_restore_21 ?_
      exact wr_iret hx hb hr hlocks (show va_P (dC, dI) vwCl (mdf cI cZ b (fRest S V g (A : Int)) w S V o) _ by rw [show fRest S V g (A : Int) = flat g from if_neg (fun q => q.2 (by rw [eA]; exact c_18))]; exact hP) hS (by unfold aRest; rw [if_pos c_6, eA, if_pos c_18]) dX2_restore_23
  · refine zr_ldc hx hb (-1000002) hown k_35 (by decide) dX2_restore_9 ?_
    exact wr_iret hx hb hr hlocks (show va_P (dC, dI) vwCl (mdf cI cZ b (fRest S V g u) w S V o) _ by rw [show fRest S V g u = flat g from if_neg (fun q => c_6 q.1)]; exact hP) hS (by unfold aRest; rw [if_neg c_6]) dX2_restore_11
