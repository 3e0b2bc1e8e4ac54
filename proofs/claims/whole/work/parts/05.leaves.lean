/-! OWN ROWS: the methods that see no object -/
section ZF
variable {l : Launch} {y : MethodName} {ws ws' : List Cond} {rm : Room} {cc : ByteArray} {maxL : Nat} {ret : Option FieldType} {w : va_W} {av : List Value} {v : Option Value}
variable {dC : Nat → ClassId} {dI : Nat → Nat → Nat} {cI cZ cS : ClassId}
theorem rd_metF (hy : plainFor y = true) (hw : ws = Cond.code y cc maxL ret :: ws') (hlen : (lg_sl av).length ≤ maxL)
    (body : ∀ (p : Program) (e : Env) (s : State) (m : MethodId) (below : List Frame) (meth : Method) (c : Code) (ls : Array Slot), p.tables.exec = Jvm.exec → c.code = cc → c.maxLocals = maxL → meth.sig.returnType = ret → meth.locks = false → (∀ x ∈ ws, x.before av.toArray s = true) → s.vm.findClass y.cls = some m.cls → va_P (dC, dI) vwCl w s.heap → kK dC dI cI cZ cS s → lv_has ls maxL (lv_args 0 av) →
      W p l e rm s m av.toArray below meth c s.heap [] 0 0 (MQ below (rd_Qc v) av.toArray s 0 0 nf) (F0 m 0 ls [])) : Met l y ws rm (rd_Pc dC dI cI cZ cS w av) (rd_Qc v) 0 0 nf := by
  refine va_MetF (cc := cc) (maxL := maxL) (ret := ret) hy hw ?_
  intro p e s m args below meth c s₁ B hml hv
  obtain ⟨rfl, hP, hK⟩ := hv
  rw [lg_entry_eq]
  exact body p e s m below meth c _ B.exec B.bytes hml B.returns B.notSynchronized (atoms_spec (ws := ws) B.pre) (findClass_of_methodNamed B.named) hP hK (lv_entry av hlen)
end ZF
theorem zm_ite {x y u v : Int} (hx : -9223372036854775808 ≤ x ∧ x ≤ 9223372036854775807) (hy : -9223372036854775808 ≤ y ∧ y ≤ 9223372036854775807) : (if zL y < zL x then zL u else zL v) = zL (if y < x then u else v) := by
  by_cases q : y < x
  · rw [if_pos ((zL_lt hy hx).mpr q), if_pos q]
  · rw [if_neg (mt (zL_lt hy hx).mp q), if_neg q]
theorem zm_iteI {x y u v : Int} (hx : -2147483648 ≤ x ∧ x ≤ 2147483647) (hy : -2147483648 ≤ y ∧ y ≤ 2147483647) : (if zI x < zI y then zI u else zI v) = zI (if x < y then u else v) := by
  by_cases q : x < y
  · rw [if_pos ((zI_lt hx hy).mpr q), if_pos q]
  · rw [if_neg (mt (zI_lt hx hy).mp q), if_neg q]
theorem zm_abs {x : Int} (hx : -2147483648 ≤ x ∧ x ≤ 2147483647) : (if 0 ≤ zI x then zI x else 0 - zI x) = zI (sAbs x) := by
  unfold sAbs
  have e0 : (0 : Int32) = zI 0 := by decide
  rw [e0]
  by_cases q : x < 0
  · rw [if_neg (fun z => by have := (zI_le (a := 0) (b := x) (by omega) hx).mp z; omega), if_pos q]
    rw [zI_sub, Int.zero_sub]
  · rw [if_pos ((zI_le (a := 0) (b := x) (by omega) hx).mpr (by omega)), if_neg q]
theorem root_end {v lo hi : Int} (h0 : 0 ≤ v) (h1 : v < 160000800001) (p1 : 0 ≤ lo) (e : hi = lo) (p4 : lo * lo ≤ v) (p5 : v < (hi + 1) * (hi + 1)) : lo = sqr v := by
  obtain ⟨b1, b2, b3⟩ := sqr_spec h0 (by omega)
  subst e
  exact sq_one p1 p4 p5 b1 b2 b3
theorem z_shl1 : ∀ k : Nat, k < 19 → (zL 1) <<< ((zI (k : Int)).toInt64 &&& 63) = zL (2 ^ k) := by decide +kernel
theorem z_sq {x : Int} (h : -200000 ≤ x ∧ x ≤ 200000) : 0 ≤ x * x ∧ x * x ≤ 40000000000 := by
  have m1 := z_mul (a := x) (b := x) (A := 200000) (B := 200000) h h
  refine ⟨?_, m1.2⟩
  rcases Int.le_total 0 x with q | q
  · exact Int.mul_nonneg q q
  · exact Int.mul_nonneg_of_nonpos_of_nonpos q q
theorem z_xor {a b : Int} (ha : 0 ≤ a ∧ a ≤ 2147483647) (hb : 1 ≤ b ∧ b ≤ 2147483647) : (0 : Int32) ≤ zI a ^^^ zI b := by
  obtain ⟨i, rfl⟩ : ∃ i : Nat, a = (i : Int) := ⟨a.toNat, by omega⟩
  obtain ⟨j, rfl⟩ : ∃ j : Nat, b = (j : Int) := ⟨b.toNat, by omega⟩
  have hi : i < 2 ^ 31 := by omega
  have hj : j < 2 ^ 31 := by omega
  rw [zI_nat, zI_nat]
  have e : nI i ^^^ nI j = nI (i ^^^ j) := by
    unfold nI
    apply Int32.toBitVec.inj
    simp [Int32.toBitVec_xor]
  rw [e]
  exact nI_pos' (Nat.xor_lt_two_pow hi hj)
set_option maxHeartbeats 4000000 in
set_option maxRecDepth 100000 in
/-- isWithin: is v in lo .. hi -/
theorem c_X1_isWithin (l : Launch) (dC : Nat → ClassId) (dI : Nat → Nat → Nat) (cI cZ cS : ClassId) (v lo hi : Int) (hv : -2147483648 ≤ v ∧ v ≤ 2147483647) (hlo : -2147483648 ≤ lo ∧ lo ≤ 2147483647) (hhi : -2147483648 ≤ hi ∧ hi ≤ 2147483647) : Met l yX1_isWithin wsX1_isWithin ({ frames := 0, cells := 0, slots := 0, locals := 0 } : Room) (rd_Pc dC dI cI cZ cS ([]) [.int (zI v), .int (zI lo), .int (zI hi)]) (rd_Qc (some (.int (zI (if lo ≤ v ∧ v ≤ hi then 1 else 0))))) 0 0 nf := by
  refine rd_met (cc := cX1_isWithin) (maxL := 3) (ret := (some .boolean)) (by decide) rfl (Nat.le_of_ble_eq_true rfl) ?_
  intro p e s m below meth c ls hx hb hml hr hlocks hts hown hP hK hl
  have hl : lv_has ls 3 [(0, .int (zI v)), (1, .int (zI lo)), (2, .int (zI hi))] := hl
  refine lv_iload_n hx hb dX1_isWithin_0 rfl (lv_at hl 1 rfl) ?_
  refine lv_iload_n hx hb dX1_isWithin_1 rfl (lv_at hl 0 rfl) ?_
  refine zr_icmp_gt (tgt := 14) hx hb dX1_isWithin_2 (by decide) (by omega) (by omega) (fun c_2 => ?_) (fun c_2 => ?_)
  · refine zr_iconst hx hb dX1_isWithin_14 ?_
    exact rd_zret hx hb hr hlocks (if_neg (by omega)).symm (by omega) dX1_isWithin_15
  · refine lv_iload_n hx hb dX1_isWithin_5 rfl (lv_at hl 0 rfl) ?_
    refine lv_iload_n hx hb dX1_isWithin_6 rfl (lv_at hl 2 rfl) ?_
    refine zr_icmp_gt (tgt := 14) hx hb dX1_isWithin_7 (by decide) (by omega) (by omega) (fun c_7 => ?_) (fun c_7 => ?_)
    · refine zr_iconst hx hb dX1_isWithin_14 ?_
      exact rd_zret hx hb hr hlocks (if_neg (by omega)).symm (by omega) dX1_isWithin_15
    · refine zr_iconst hx hb dX1_isWithin_10 ?_
      refine lv_goto (tgt := 15) hx hb dX1_isWithin_11 (by decide) ?_
      exact rd_zret hx hb hr hlocks (if_pos (by omega)).symm (by omega) dX1_isWithin_15
set_option maxHeartbeats 4000000 in
set_option maxRecDepth 100000 in
/-- in: is v in lo .. hi -/
theorem c_X2_in (l : Launch) (dC : Nat → ClassId) (dI : Nat → Nat → Nat) (cI cZ cS : ClassId) (v lo hi : Int) (hv : -2147483648 ≤ v ∧ v ≤ 2147483647) (hlo : -2147483648 ≤ lo ∧ lo ≤ 2147483647) (hhi : -2147483648 ≤ hi ∧ hi ≤ 2147483647) : Met l yX2_in wsX2_in ({ frames := 0, cells := 0, slots := 0, locals := 0 } : Room) (rd_Pc dC dI cI cZ cS ([]) [.int (zI v), .int (zI lo), .int (zI hi)]) (rd_Qc (some (.int (zI (if lo ≤ v ∧ v ≤ hi then 1 else 0))))) 0 0 nf := by
  refine rd_met (cc := cX2_in) (maxL := 3) (ret := (some .boolean)) (by decide) rfl (Nat.le_of_ble_eq_true rfl) ?_
  intro p e s m below meth c ls hx hb hml hr hlocks hts hown hP hK hl
  have hl : lv_has ls 3 [(0, .int (zI v)), (1, .int (zI lo)), (2, .int (zI hi))] := hl
  refine lv_iload_n hx hb dX2_in_0 rfl (lv_at hl 0 rfl) ?_
  refine lv_iload_n hx hb dX2_in_1 rfl (lv_at hl 1 rfl) ?_
  refine zr_icmp_lt (tgt := 14) hx hb dX2_in_2 (by decide) (by omega) (by omega) (fun c_2 => ?_) (fun c_2 => ?_)
  · refine zr_iconst hx hb dX2_in_14 ?_
    exact rd_zret hx hb hr hlocks (if_neg (by omega)).symm (by omega) dX2_in_15
  · refine lv_iload_n hx hb dX2_in_5 rfl (lv_at hl 0 rfl) ?_
    refine lv_iload_n hx hb dX2_in_6 rfl (lv_at hl 2 rfl) ?_
    refine zr_icmp_gt (tgt := 14) hx hb dX2_in_7 (by decide) (by omega) (by omega) (fun c_7 => ?_) (fun c_7 => ?_)
    · refine zr_iconst hx hb dX2_in_14 ?_
      exact rd_zret hx hb hr hlocks (if_neg (by omega)).symm (by omega) dX2_in_15
    · refine zr_iconst hx hb dX2_in_10 ?_
      refine lv_goto (tgt := 15) hx hb dX2_in_11 (by decide) ?_
      exact rd_zret hx hb hr hlocks (if_pos (by omega)).symm (by omega) dX2_in_15
set_option maxHeartbeats 4000000 in
set_option maxRecDepth 100000 in
/-- quotient, for a divisor above 0 -/
theorem c_X1_quotient (l : Launch) (dC : Nat → ClassId) (dI : Nat → Nat → Nat) (cI cZ cS : ClassId) (a b : Int) (ha : -9223372036854775808 ≤ a ∧ a ≤ 9223372036854775807) (hb1 : 1 ≤ b ∧ b ≤ 9223372036854775807) : Met l yX1_quotient wsX1_quotient ({ frames := 0, cells := 0, slots := 0, locals := 0 } : Room) (rd_Pc dC dI cI cZ cS ([]) [.long (zL a), .long (zL b)]) (rd_Qc (some (.long (zL (a.tdiv b))))) 0 0 nf := by
  refine rd_met (cc := cX1_quotient) (maxL := 4) (ret := (some .long)) (by decide) rfl (Nat.le_of_ble_eq_true rfl) ?_
  intro p e s m below meth c ls hx hb hml hr hlocks hts hown hP hK hl
  have hl : lv_has ls 4 [(0, .long (zL a)), (2, .long (zL b))] := hl
  refine lv_lload_n hx hb dX1_quotient_0 rfl (lv_at hl 1 rfl) ?_
  refine zr_lconst hx hb 1 (by decide) dX1_quotient_1 ?_
  refine zr_lcmp_ge (tgt := 10) hx hb dX1_quotient_2 dX1_quotient_3 (by decide) (by omega) (by omega) (fun c_2 => ?_) (fun c_2 => absurd c_2 (by omega))
  refine lv_lload_n hx hb dX1_quotient_10 rfl (lv_at hl 0 rfl) ?_
  refine lv_lload_n hx hb dX1_quotient_11 rfl (lv_at hl 1 rfl) ?_
  refine zr_ldiv hx hb (by omega) (by omega) dX1_quotient_12 ?_
  exact rd_lret hx hb hr hlocks rfl dX1_quotient_13
set_option maxHeartbeats 4000000 in
set_option maxRecDepth 100000 in
/-- plain: the amount -/
theorem c_X2_plain (l : Launch) (dC : Nat → ClassId) (dI : Nat → Nat → Nat) (cI cZ cS : ClassId) (v : Int) (hv : -9223372036854775808 ≤ v ∧ v ≤ 9223372036854775807) : Met l yX2_plain wsX2_plain ({ frames := 0, cells := 0, slots := 0, locals := 0 } : Room) (rd_Pc dC dI cI cZ cS ([]) [.long (zL v)]) (rd_Qc (some (.long (zL (sAbs v))))) 0 0 nf := by
  refine rd_met (cc := cX2_plain) (maxL := 2) (ret := (some .long)) (by decide) rfl (Nat.le_of_ble_eq_true rfl) ?_
  intro p e s m below meth c ls hx hb hml hr hlocks hts hown hP hK hl
  have hl : lv_has ls 2 [(0, .long (zL v))] := hl
  refine lv_lload_n hx hb dX2_plain_0 rfl (lv_at hl 0 rfl) ?_
  refine zr_lconst hx hb 0 (by decide) dX2_plain_1 ?_
  refine zr_lcmp_ge (tgt := 11) hx hb dX2_plain_2 dX2_plain_3 (by decide) (by omega) (by omega) (fun c_2 => ?_) (fun c_2 => ?_)
  · refine lv_lload_n hx hb dX2_plain_11 rfl (lv_at hl 0 rfl) ?_
    exact rd_lret hx hb hr hlocks (if_neg (by omega)).symm dX2_plain_12
  · refine lv_lload_n hx hb dX2_plain_6 rfl (lv_at hl 0 rfl) ?_
    refine zr_lneg hx hb dX2_plain_7 ?_
    refine lv_goto (tgt := 12) hx hb dX2_plain_8 (by decide) ?_
    exact rd_lret hx hb hr hlocks (if_pos (by omega)).symm dX2_plain_12
set_option maxHeartbeats 4000000 in
set_option maxRecDepth 100000 in
/-- limited -/
theorem c_X2_limited (l : Launch) (dC : Nat → ClassId) (dI : Nat → Nat → Nat) (cI cZ cS : ClassId) (v lo hi : Int) (hv : -9223372036854775808 ≤ v ∧ v ≤ 9223372036854775807) (hlo : -2147483648 ≤ lo ∧ lo ≤ 2147483647) (hhi : -2147483648 ≤ hi ∧ hi ≤ 2147483647) : Met l yX2_limited wsX2_limited ({ frames := 0, cells := 0, slots := 0, locals := 0 } : Room) (rd_Pc dC dI cI cZ cS ([]) [.long (zL v), .int (zI lo), .int (zI hi)]) (rd_Qc (some (.int (zI (sLim v lo hi))))) 0 0 nf := by
  refine rd_met (cc := cX2_limited) (maxL := 4) (ret := (some .int)) (by decide) rfl (Nat.le_of_ble_eq_true rfl) ?_
  intro p e s m below meth c ls hx hb hml hr hlocks hts hown hP hK hl
  have hl : lv_has ls 4 [(0, .long (zL v)), (2, .int (zI lo)), (3, .int (zI hi))] := hl
  refine lv_lload_n hx hb dX2_limited_0 rfl (lv_at hl 0 rfl) ?_
  refine lv_iload_n hx hb dX2_limited_1 rfl (lv_at hl 1 rfl) ?_
  refine zr_i2l hx hb (by omega) dX2_limited_2 ?_
  refine zr_lcmp_ge (tgt := 12) hx hb dX2_limited_3 dX2_limited_4 (by decide) (by omega) (by omega) (fun c_3 => ?_) (fun c_3 => ?_)
  · refine lv_lload_n hx hb dX2_limited_12 rfl (lv_at hl 0 rfl) ?_
    refine lv_iload_n hx hb dX2_limited_13 rfl (lv_at hl 2 rfl) ?_
    refine zr_i2l hx hb (by omega) dX2_limited_14 ?_
    refine zr_lcmp_le (tgt := 24) hx hb dX2_limited_15 dX2_limited_16 (by decide) (by omega) (by omega) (fun c_15 => ?_) (fun c_15 => ?_)
    · refine lv_lload_n hx hb dX2_limited_24 rfl (lv_at hl 0 rfl) ?_
      refine zr_l2i hx hb dX2_limited_25 ?_
      exact rd_iret hx hb hr hlocks (by unfold sLim; rw [if_neg (by omega), if_neg (by omega)]) dX2_limited_26
    · refine lv_iload_n hx hb dX2_limited_19 rfl (lv_at hl 2 rfl) ?_
      refine zr_i2l hx hb (by omega) dX2_limited_20 ?_
      refine lv_goto (tgt := 25) hx hb dX2_limited_21 (by decide) ?_
      refine zr_l2i hx hb dX2_limited_25 ?_
      exact rd_iret hx hb hr hlocks (by unfold sLim; rw [if_neg (by omega), if_pos (by omega)]) dX2_limited_26
  · refine lv_iload_n hx hb dX2_limited_7 rfl (lv_at hl 1 rfl) ?_
    refine zr_i2l hx hb (by omega) dX2_limited_8 ?_
    refine lv_goto (tgt := 25) hx hb dX2_limited_9 (by decide) ?_
    refine zr_l2i hx hb dX2_limited_25 ?_
    exact rd_iret hx hb hr hlocks (by unfold sLim; rw [if_pos (by omega)]) dX2_limited_26
set_option maxHeartbeats 4000000 in
set_option maxRecDepth 100000 in
/-- limited -/
theorem c_X1_limited (l : Launch) (dC : Nat → ClassId) (dI : Nat → Nat → Nat) (cI cZ cS : ClassId) (v lo hi : Int) (hlh : lo ≤ hi) (hv : -9223372036854775808 ≤ v ∧ v ≤ 9223372036854775807) (hlo : -2147483648 ≤ lo ∧ lo ≤ 2147483647) (hhi : -2147483648 ≤ hi ∧ hi ≤ 2147483647) : Met l yX1_limited wsX1_limited ({ frames := 1, cells := 0, slots := 0, locals := 40 } : Room) (rd_Pc dC dI cI cZ cS ([]) [.long (zL v), .int (zI lo), .int (zI hi)]) (rd_Qc (some (.int (zI (sLim v lo hi))))) 0 0 nf := by
  refine rd_met (cc := cX1_limited) (maxL := 4) (ret := (some .int)) (by decide) rfl (Nat.le_of_ble_eq_true rfl) ?_
  intro p e s m below meth c ls hx hb hml hr hlocks hts hown hP hK hl
  have hl : lv_has ls 4 [(0, .long (zL v)), (2, .int (zI lo)), (3, .int (zI hi))] := hl
  refine lv_iload_n hx hb dX1_limited_0 rfl (lv_at hl 1 rfl) ?_
  refine zr_i2l hx hb (by omega) dX1_limited_1 ?_
  refine lv_iload_n hx hb dX1_limited_2 rfl (lv_at hl 2 rfl) ?_
  refine zr_i2l hx hb (by omega) dX1_limited_3 ?_
  refine lv_lload_n hx hb dX1_limited_4 rfl (lv_at hl 0 rfl) ?_
  refine va_mmin_long hx hb (hml.trans hl.1.symm) hown (hts (.methodLink RX1 144 Lib.MathLoose.min_long.x) (by decide +kernel)) (hts (.static Lib.MathLoose.min_long.x) (by decide +kernel)) (hts (.initialized "java/lang/Math") (by decide +kernel)) (hts (.code Lib.MathLoose.min_long.x Lib.MathLoose.min_long.code 4 (some .long)) (by decide +kernel)) (Nat.le_of_ble_eq_true rfl) (Nat.le_of_ble_eq_true rfl) (Nat.zero_le _) (Nat.zero_le _) dX1_limited_5 ?_
  rw [zm_ite (by omega) (by omega)]
  refine va_mmax_long hx hb (hml.trans hl.1.symm) hown (hts (.methodLink RX1 147 Lib.MathLoose.max_long.x) (by decide +kernel)) (hts (.static Lib.MathLoose.max_long.x) (by decide +kernel)) (hts (.initialized "java/lang/Math") (by decide +kernel)) (hts (.code Lib.MathLoose.max_long.x Lib.MathLoose.max_long.code 4 (some .long)) (by decide +kernel)) (Nat.le_of_ble_eq_true rfl) (Nat.le_of_ble_eq_true rfl) (Nat.zero_le _) (Nat.zero_le _) dX1_limited_8 ?_
  rw [zm_ite (by omega) (by split <;> omega)]
  refine zr_l2i hx hb dX1_limited_11 ?_
  exact rd_iret hx hb hr hlocks (by unfold sLim; split <;> split <;> first | omega | (split <;> omega)) dX1_limited_12
set_option maxHeartbeats 4000000 in
set_option maxRecDepth 100000 in
/-- share -/
theorem c_X1_share (l : Launch) (dC : Nat → ClassId) (dI : Nat → Nat → Nat) (cI cZ cS : ClassId) (st q d : Int) (hst : -20000 ≤ st ∧ st ≤ 20000) (hq : -200000 ≤ q ∧ q ≤ 200000) (hd : 0 ≤ d ∧ d ≤ 2147483647) : Met l yX1_share wsX1_share ({ frames := 1, cells := 0, slots := 0, locals := 23 } : Room) (rd_Pc dC dI cI cZ cS ([]) [.int (zI st), .int (zI q), .int (zI d)]) (rd_Qc (some (.long (zL (if d = 0 then 0 else (st * q).tdiv d))))) 0 0 nf := by
  refine rd_met (cc := cX1_share) (maxL := 3) (ret := (some .long)) (by decide) rfl (Nat.le_of_ble_eq_true rfl) ?_
  intro p e s m below meth c ls hx hb hml hr hlocks hts hown hP hK hl
  have hl : lv_has ls 3 [(0, .int (zI st)), (1, .int (zI q)), (2, .int (zI d))] := hl
  have hm := z_mul (a := st) (b := q) (A := 20000) (B := 200000) hst hq
  refine lv_iload_n hx hb dX1_share_0 rfl (lv_at hl 2 rfl) ?_
  refine zr_if_ne (tgt := 8) hx hb dX1_share_1 (by decide) (by omega) (fun c_1 => ?_) (fun c_1 => ?_)
  · refine lv_iload_n hx hb dX1_share_8 rfl (lv_at hl 0 rfl) ?_
    refine zr_i2l hx hb (by omega) dX1_share_9 ?_
    refine lv_iload_n hx hb dX1_share_10 rfl (lv_at hl 1 rfl) ?_
    refine zr_i2l hx hb (by omega) dX1_share_11 ?_
    refine zr_lmul hx hb dX1_share_12 ?_
    refine lv_iload_n hx hb dX1_share_13 rfl (lv_at hl 2 rfl) ?_
    refine zr_i2l hx hb (by omega) dX1_share_14 ?_
    refine rd_callS (As := [.long (zL (st * q)), .long (zL d)]) (rest := []) ⟨hx, hb, hml, hown, hts⟩ (c_X1_quotient l dC dI cI cZ cS (st * q) d (by omega) (by omega)) (va_cwS 2 hts gX1_share_X1_quotient rfl rfl rfl (by decide +kernel) ⟨Nat.le_of_ble_eq_true rfl, Nat.le_of_ble_eq_true rfl⟩) va_P_nil hK rfl hl.1 rfl (Nat.le_of_ble_eq_true rfl) dX1_share_15 ⟨Nat.zero_le _, Nat.zero_le _⟩ ?_
    exact rd_lret hx hb hr hlocks (if_neg (by omega)).symm dX1_share_18
  · refine zr_lconst hx hb 0 (by decide) dX1_share_4 ?_
    refine lv_goto (tgt := 18) hx hb dX1_share_5 (by decide) ?_
    exact rd_lret hx hb hr hlocks (if_pos (by omega)).symm dX1_share_18
set_option maxHeartbeats 4000000 in
set_option maxRecDepth 100000 in
/-- squareRoot -/
theorem c_X1_squareRoot (l : Launch) (dC : Nat → ClassId) (dI : Nat → Nat → Nat) (cI cZ cS : ClassId) (v : Int) (h0 : 0 ≤ v) (h1 : v < 274877906944) : Met l yX1_squareRoot wsX1_squareRoot ({ frames := 0, cells := 0, slots := 0, locals := 0 } : Room) (rd_Pc dC dI cI cZ cS ([]) [.long (zL v)]) (rd_Qc (some (.int (zI (sqr v))))) 0 0 nf := by
  refine rd_met (cc := cX1_squareRoot) (maxL := 7) (ret := (some .int)) (by decide) rfl (Nat.le_of_ble_eq_true rfl) ?_
  intro p e s m below meth c ls hx hb hml hr hlocks hts hown hP hK hl
  have hl : lv_has ls 7 [(0, .long (zL v))] := hl
  refine zr_lconst hx hb 0 (by decide) dX1_squareRoot_0 ?_
  refine lv_lstore_n (lv' := [(2, .long (zL 0)), (0, .long (zL v))]) hx hb dX1_squareRoot_1 rfl hl (by decide) rfl (fun ls hl => ?_)
  refine zr_bipush hx hb dX1_squareRoot_2 (by decide) ?_
  refine lv_istore (lv' := [(4, .int (zI 18)), (2, .long (zL 0)), (0, .long (zL v))]) hx hb dX1_squareRoot_4 hl (by decide) rfl (fun ls hl => ?_)
  have loop : ∀ (k : Nat), ∀ (R : Int), sqB v k R = sqr v → 0 ≤ R → R + 2 ^ k ≤ 524288 → k ≤ 19 → ∀ ls : Array Slot, lv_has ls 7 [(4, .int (zI ((k : Int) - 1))), (2, .long (zL R)), (0, .long (zL v))] → W p l e ({ frames := 0, cells := 0, slots := 0, locals := 0 } : Room) s m [.long (zL v)].toArray below meth c s.heap [] 0 0 (MQ below (rd_Qc (some (.int (zI (sqr v))))) [.long (zL v)].toArray s 0 0 nf) (F0 m 6 ls []) := by
    intro k
    induction k with
    | zero =>
      intro R hR hR0 hR1 hk ls hl
      refine lv_iload hx hb dX1_squareRoot_6 (lv_at hl 0 rfl) ?_
      refine zr_if_lt (tgt := 38) hx hb dX1_squareRoot_8 (by decide) (by omega) (fun c_8 => ?_) (fun c_8 => absurd c_8 (by omega))
      refine lv_lload_n hx hb dX1_squareRoot_38 rfl (lv_at hl 1 rfl) ?_
      refine zr_l2i hx hb dX1_squareRoot_39 ?_
      exact rd_iret hx hb hr hlocks hR dX1_squareRoot_40
    | succ k ih_loop =>
      intro R hR hR0 hR1 hk ls hl
      have hl : lv_has ls 7 [(4, .int (zI (k : Int))), (2, .long (zL R)), (0, .long (zL v))] := by rw [show ((k + 1 : Nat) : Int) - 1 = (k : Int) by omega] at hl; exact hl
      have hp : (0 : Int) < 2 ^ k := Int.pow_pos (by decide)
      have he : (2 : Int) ^ (k + 1) = 2 ^ k * 2 := Int.pow_succ 2 k
      have m1 := z_mul0 (a := R + 2 ^ k) (b := R + 2 ^ k) (A := 524288) (B := 524288) (by omega) (by omega)
      refine lv_iload hx hb dX1_squareRoot_6 (lv_at hl 0 rfl) ?_
      refine zr_if_lt (tgt := 38) hx hb dX1_squareRoot_8 (by decide) (by omega) (fun c_8 => absurd c_8 (by omega)) (fun c_8 => ?_)
      refine lv_lload_n hx hb dX1_squareRoot_11 rfl (lv_at hl 1 rfl) ?_
      refine zr_lconst hx hb 1 (by decide) dX1_squareRoot_12 ?_
      refine lv_iload hx hb dX1_squareRoot_13 (lv_at hl 0 rfl) ?_
      refine lv_lshl (v := zL (2 ^ k)) hx hb dX1_squareRoot_15 (z_shl1 k (by omega)) ?_
      refine zr_ladd hx hb dX1_squareRoot_16 ?_
      refine lv_lstore (lv' := [(5, .long (zL (R + 2 ^ k))), (4, .int (zI (k : Int))), (2, .long (zL R)), (0, .long (zL v))]) hx hb dX1_squareRoot_17 hl (by decide) rfl (fun ls hl => ?_)
      refine lv_lload hx hb dX1_squareRoot_19 (lv_at hl 0 rfl) ?_
      refine lv_lload hx hb dX1_squareRoot_21 (lv_at hl 0 rfl) ?_
      refine zr_lmul hx hb dX1_squareRoot_23 ?_
      refine lv_lload_n hx hb dX1_squareRoot_24 rfl (lv_at hl 3 rfl) ?_
      refine zr_lcmp_gt (tgt := 32) hx hb dX1_squareRoot_25 dX1_squareRoot_26 (by decide) (by omega) (by omega) (fun c_25 => ?_) (fun c_25 => ?_)
      · refine zr_iinc (b := ((k : Int) - 1)) (lv' := [(4, .int (zI ((k : Int) - 1))), (5, .long (zL (R + 2 ^ k))), (2, .long (zL R)), (0, .long (zL v))]) hx hb dX1_squareRoot_32 hl (k := 1) rfl (by omega) (by decide) rfl (fun ls hl => ?_)
        refine lv_goto (tgt := 6) hx hb dX1_squareRoot_35 (by decide) ?_
        exact ih_loop R (by rw [← hR]; show _ = sqB v k (if (R + 2 ^ k) * (R + 2 ^ k) ≤ v then R + 2 ^ k else R); rw [if_neg (by omega)]) (by omega) (by omega) (by omega) ls (lv_sub hl [0, 2, 3] rfl)
      · refine lv_lload hx hb dX1_squareRoot_29 (lv_at hl 0 rfl) ?_
        refine lv_lstore_n (lv' := [(2, .long (zL (R + 2 ^ k))), (5, .long (zL (R + 2 ^ k))), (4, .int (zI (k : Int))), (0, .long (zL v))]) hx hb dX1_squareRoot_31 rfl hl (by decide) rfl (fun ls hl => ?_)
        refine zr_iinc (b := ((k : Int) - 1)) (lv' := [(4, .int (zI ((k : Int) - 1))), (2, .long (zL (R + 2 ^ k))), (5, .long (zL (R + 2 ^ k))), (0, .long (zL v))]) hx hb dX1_squareRoot_32 hl (k := 2) rfl (by omega) (by decide) rfl (fun ls hl => ?_)
        refine lv_goto (tgt := 6) hx hb dX1_squareRoot_35 (by decide) ?_
        exact ih_loop (R + 2 ^ k) (by rw [← hR]; show _ = sqB v k (if (R + 2 ^ k) * (R + 2 ^ k) ≤ v then R + 2 ^ k else R); rw [if_pos (by omega)]) (by omega) (by omega) (by omega) ls (lv_sub hl [0, 1, 3] rfl)
  exact loop 19 0 rfl (by decide) (by decide) (by decide) ls (lv_sub hl [0, 1, 2] rfl)
set_option maxHeartbeats 4000000 in
set_option maxRecDepth 100000 in
/-- planarDistance -/
theorem c_X1_planarDistance (l : Launch) (dC : Nat → ClassId) (dI : Nat → Nat → Nat) (cI cZ cS : ClassId) (dx dy : Int) (hx1 : -200000 ≤ dx ∧ dx ≤ 200000) (hy1 : -200000 ≤ dy ∧ dy ≤ 200000) : Met l yX1_planarDistance wsX1_planarDistance ({ frames := 1, cells := 0, slots := 0, locals := 26 } : Room) (rd_Pc dC dI cI cZ cS ([]) [.long (zL dx), .long (zL dy)]) (rd_Qc (some (.int (zI (sqr (dx * dx + dy * dy)))))) 0 0 nf := by
  refine rd_met (cc := cX1_planarDistance) (maxL := 4) (ret := (some .int)) (by decide) rfl (Nat.le_of_ble_eq_true rfl) ?_
  intro p e s m below meth c ls hx hb hml hr hlocks hts hown hP hK hl
  have hl : lv_has ls 4 [(0, .long (zL dx)), (2, .long (zL dy))] := hl
  have m1 := z_sq hx1
  have m2 := z_sq hy1
  refine lv_lload_n hx hb dX1_planarDistance_0 rfl (lv_at hl 0 rfl) ?_
  refine lv_lload_n hx hb dX1_planarDistance_1 rfl (lv_at hl 0 rfl) ?_
  refine zr_lmul hx hb dX1_planarDistance_2 ?_
  refine lv_lload_n hx hb dX1_planarDistance_3 rfl (lv_at hl 1 rfl) ?_
  refine lv_lload_n hx hb dX1_planarDistance_4 rfl (lv_at hl 1 rfl) ?_
  refine zr_lmul hx hb dX1_planarDistance_5 ?_
  refine zr_ladd hx hb dX1_planarDistance_6 ?_
  refine rd_callS (As := [.long (zL ((dx * dx) + (dy * dy)))]) (rest := []) ⟨hx, hb, hml, hown, hts⟩ (c_X1_squareRoot l dC dI cI cZ cS ((dx * dx) + (dy * dy)) (by omega) (by omega)) (va_cwS 1 hts gX1_planarDistance_X1_squareRoot rfl rfl rfl (by decide +kernel) ⟨Nat.le_of_ble_eq_true rfl, Nat.le_of_ble_eq_true rfl⟩) va_P_nil hK rfl hl.1 rfl (Nat.le_of_ble_eq_true rfl) dX1_planarDistance_7 ⟨Nat.zero_le _, Nat.zero_le _⟩ ?_
  exact rd_iret hx hb hr hlocks rfl dX1_planarDistance_10
set_option maxHeartbeats 4000000 in
set_option maxRecDepth 100000 in
/-- root -/
theorem c_X2_root (l : Launch) (dC : Nat → ClassId) (dI : Nat → Nat → Nat) (cI cZ cS : ClassId) (v : Int) (h0 : 0 ≤ v) (h1 : v < 160000800001) : Met l yX2_root wsX2_root ({ frames := 0, cells := 0, slots := 0, locals := 0 } : Room) (rd_Pc dC dI cI cZ cS ([]) [.long (zL v)]) (rd_Qc (some (.long (zL (sqr v))))) 0 0 nf := by
  refine rd_met (cc := cX2_root) (maxL := 8) (ret := (some .long)) (by decide) rfl (Nat.le_of_ble_eq_true rfl) ?_
  intro p e s m below meth c ls hx hb hml hr hlocks hts hown hP hK hl
  have hl : lv_has ls 8 [(0, .long (zL v))] := hl
  have k_31 := hts (.constantLong RX2 31 (400000)) (by decide +kernel)
  have k_33 := hts (.constantLong RX2 33 (2)) (by decide +kernel)
  refine zr_lconst hx hb 0 (by decide) dX2_root_0 ?_
  refine lv_lstore_n (lv' := [(2, .long (zL 0)), (0, .long (zL v))]) hx hb dX2_root_1 rfl hl (by decide) rfl (fun ls hl => ?_)
  refine zr_ldc2 hx hb (400000) hown k_31 (by decide) dX2_root_2 ?_
  refine lv_lstore (lv' := [(4, .long (zL 400000)), (2, .long (zL 0)), (0, .long (zL v))]) hx hb dX2_root_5 hl (by decide) rfl (fun ls hl => ?_)
  have loop : ∀ (k : Nat), ∀ (lo hi : Int), hi - lo ≤ k → 0 ≤ lo → lo ≤ hi → hi ≤ 400000 → lo * lo ≤ v → v < (hi + 1) * (hi + 1) → ∀ ls : Array Slot, lv_has ls 8 [(4, .long (zL hi)), (2, .long (zL lo)), (0, .long (zL v))] → W p l e ({ frames := 0, cells := 0, slots := 0, locals := 0 } : Room) s m [.long (zL v)].toArray below meth c s.heap [] 0 0 (MQ below (rd_Qc (some (.long (zL (sqr v))))) [.long (zL v)].toArray s 0 0 nf) (F0 m 7 ls []) := by
    intro k
    induction k with
    | zero =>
      intro lo hi p0 p1 p2 p3 p4 p5 ls hl
      refine lv_lload_n hx hb dX2_root_7 rfl (lv_at hl 1 rfl) ?_
      refine lv_lload hx hb dX2_root_8 (lv_at hl 0 rfl) ?_
      refine zr_lcmp_ge (tgt := 51) hx hb dX2_root_10 dX2_root_11 (by decide) (by omega) (by omega) (fun c_10 => ?_) (fun c_10 => absurd c_10 (by omega))
      refine lv_lload_n hx hb dX2_root_51 rfl (lv_at hl 1 rfl) ?_
      exact rd_lret hx hb hr hlocks (root_end h0 h1 p1 (by omega) p4 p5) dX2_root_52
    | succ k ih_loop =>
      intro lo hi p0 p1 p2 p3 p4 p5 ls hl
      refine lv_lload_n hx hb dX2_root_7 rfl (lv_at hl 1 rfl) ?_
      refine lv_lload hx hb dX2_root_8 (lv_at hl 0 rfl) ?_
      refine zr_lcmp_ge (tgt := 51) hx hb dX2_root_10 dX2_root_11 (by decide) (by omega) (by omega) (fun c_10 => ?_) (fun c_10 => ?_)
      · refine lv_lload_n hx hb dX2_root_51 rfl (lv_at hl 1 rfl) ?_
        exact rd_lret hx hb hr hlocks (root_end h0 h1 p1 (by omega) p4 p5) dX2_root_52
      · refine lv_lload_n hx hb dX2_root_14 rfl (lv_at hl 1 rfl) ?_
        refine lv_lload hx hb dX2_root_15 (lv_at hl 0 rfl) ?_
        refine zr_ladd hx hb dX2_root_17 ?_
        refine zr_lconst hx hb 1 (by decide) dX2_root_18 ?_
        refine zr_ladd hx hb dX2_root_19 ?_
        refine zr_ldc2 hx hb (2) hown k_33 (by decide) dX2_root_20 ?_
        obtain ⟨mid, hmid⟩ : ∃ y : Int, y = (lo + hi + 1).tdiv 2 := ⟨_, rfl⟩
        have hmd : mid = (lo + hi + 1) / 2 := by rw [hmid, Int.tdiv_eq_ediv_of_nonneg (by omega)]
        have m1 := z_mul0 (a := mid) (b := mid) (A := 400000) (B := 400000) (by omega) (by omega)
        refine zr_ldiv hx hb (by omega) (by omega) dX2_root_23 ?_
        refine zr_topL mid hmid.symm ?_
        refine lv_lstore (lv' := [(6, .long (zL mid)), (4, .long (zL hi)), (2, .long (zL lo)), (0, .long (zL v))]) hx hb dX2_root_24 hl (by decide) rfl (fun ls hl => ?_)
        refine lv_lload hx hb dX2_root_26 (lv_at hl 0 rfl) ?_
        refine lv_lload hx hb dX2_root_28 (lv_at hl 0 rfl) ?_
        refine zr_lmul hx hb dX2_root_30 ?_
        refine lv_lload_n hx hb dX2_root_31 rfl (lv_at hl 3 rfl) ?_
        refine zr_lcmp_gt (tgt := 42) hx hb dX2_root_32 dX2_root_33 (by decide) (by omega) (by omega) (fun c_32 => ?_) (fun c_32 => ?_)
        · refine lv_lload hx hb dX2_root_42 (lv_at hl 0 rfl) ?_
          refine zr_lconst hx hb 1 (by decide) dX2_root_44 ?_
          refine zr_lsub hx hb dX2_root_45 ?_
          refine lv_lstore (lv' := [(4, .long (zL (mid - 1))), (6, .long (zL mid)), (2, .long (zL lo)), (0, .long (zL v))]) hx hb dX2_root_46 hl (by decide) rfl (fun ls hl => ?_)
          refine lv_goto (tgt := 7) hx hb dX2_root_48 (by decide) ?_
          exact ih_loop lo (mid - 1) (by omega) p1 (by omega) (by omega) p4 (by rw [show mid - 1 + 1 = mid by omega]; omega) ls (lv_sub hl [0, 2, 3] rfl)
        · refine lv_lload hx hb dX2_root_36 (lv_at hl 0 rfl) ?_
          refine lv_lstore_n (lv' := [(2, .long (zL mid)), (6, .long (zL mid)), (4, .long (zL hi)), (0, .long (zL v))]) hx hb dX2_root_38 rfl hl (by decide) rfl (fun ls hl => ?_)
          refine lv_goto (tgt := 48) hx hb dX2_root_39 (by decide) ?_
          refine lv_goto (tgt := 7) hx hb dX2_root_48 (by decide) ?_
          exact ih_loop mid hi (by omega) (by omega) (by omega) (by omega) (by omega) p5 ls (lv_sub hl [2, 0, 3] rfl)
  exact loop 400000 0 400000 (by omega) (by omega) (by omega) (by omega) (by omega) (by omega) ls (lv_sub hl [0, 1, 2] rfl)
set_option maxHeartbeats 4000000 in
set_option maxRecDepth 100000 in
/-- planar -/
theorem c_X2_planar (l : Launch) (dC : Nat → ClassId) (dI : Nat → Nat → Nat) (cI cZ cS : ClassId) (dx dy : Int) (hx1 : -200000 ≤ dx ∧ dx ≤ 200000) (hy1 : -200000 ≤ dy ∧ dy ≤ 200000) : Met l yX2_planar wsX2_planar ({ frames := 1, cells := 0, slots := 0, locals := 27 } : Room) (rd_Pc dC dI cI cZ cS ([]) [.long (zL dx), .long (zL dy)]) (rd_Qc (some (.int (zI (sqr (dx * dx + dy * dy)))))) 0 0 nf := by
  refine rd_met (cc := cX2_planar) (maxL := 4) (ret := (some .int)) (by decide) rfl (Nat.le_of_ble_eq_true rfl) ?_
  intro p e s m below meth c ls hx hb hml hr hlocks hts hown hP hK hl
  have hl : lv_has ls 4 [(0, .long (zL dx)), (2, .long (zL dy))] := hl
  have m1 := z_sq hx1
  have m2 := z_sq hy1
  refine lv_lload_n hx hb dX2_planar_0 rfl (lv_at hl 0 rfl) ?_
  refine lv_lload_n hx hb dX2_planar_1 rfl (lv_at hl 0 rfl) ?_
  refine zr_lmul hx hb dX2_planar_2 ?_
  refine lv_lload_n hx hb dX2_planar_3 rfl (lv_at hl 1 rfl) ?_
  refine lv_lload_n hx hb dX2_planar_4 rfl (lv_at hl 1 rfl) ?_
  refine zr_lmul hx hb dX2_planar_5 ?_
  refine zr_ladd hx hb dX2_planar_6 ?_
  refine rd_callS (As := [.long (zL ((dx * dx) + (dy * dy)))]) (rest := []) ⟨hx, hb, hml, hown, hts⟩ (c_X2_root l dC dI cI cZ cS ((dx * dx) + (dy * dy)) (by omega) (by omega)) (va_cwS 1 hts gX2_planar_X2_root rfl rfl rfl (by decide +kernel) ⟨Nat.le_of_ble_eq_true rfl, Nat.le_of_ble_eq_true rfl⟩) va_P_nil hK rfl hl.1 rfl (Nat.le_of_ble_eq_true rfl) dX2_planar_7 ⟨Nat.zero_le _, Nat.zero_le _⟩ ?_
  refine zr_l2i hx hb dX2_planar_10 ?_
  exact rd_iret hx hb hr hlocks rfl dX2_planar_11
set_option maxHeartbeats 4000000 in
set_option maxRecDepth 100000 in
/-- cell -/
theorem c_X2_cell (l : Launch) (dC : Nat → ClassId) (dI : Nat → Nat → Nat) (cI cZ cS : ClassId) (a b : Nat) : Met l yX2_cell wsX2_cell ({ frames := 0, cells := 0, slots := 0, locals := 0 } : Room) (rd_Pc dC dI cI cZ cS ([]) [.int (zI (a : Int)), .int (zI (b : Int))]) (rd_Qc (some (.int (zI ((55 + (10 * a + b) : Nat) : Int))))) 0 0 nf := by
  refine rd_met (cc := cX2_cell) (maxL := 2) (ret := (some .int)) (by decide) rfl (Nat.le_of_ble_eq_true rfl) ?_
  intro p e s m below meth c ls hx hb hml hr hlocks hts hown hP hK hl
  have hl : lv_has ls 2 [(0, .int (zI (a : Int))), (1, .int (zI (b : Int)))] := hl
  refine zr_bipush hx hb dX2_cell_0 (by decide) ?_
  refine zr_bipush hx hb dX2_cell_2 (by decide) ?_
  refine lv_iload_n hx hb dX2_cell_4 rfl (lv_at hl 0 rfl) ?_
  refine zr_imul hx hb dX2_cell_5 ?_
  refine zr_iadd hx hb dX2_cell_6 ?_
  refine lv_iload_n hx hb dX2_cell_7 rfl (lv_at hl 1 rfl) ?_
  refine zr_iadd hx hb dX2_cell_8 ?_
  exact rd_iret hx hb hr hlocks (by omega) dX2_cell_9
set_option maxHeartbeats 4000000 in
set_option maxRecDepth 100000 in
/-- Math.floorMod of a number not below 0 -/
theorem c_J9_floorMod_7cf53 (l : Launch) (dC : Nat → ClassId) (dI : Nat → Nat → Nat) (cI cZ cS : ClassId) (a b : Int) (ha : 0 ≤ a ∧ a ≤ 2147483647) (hb1 : 1 ≤ b ∧ b ≤ 2147483647) : Met l yJ9_floorMod_7cf53 wsJ9_floorMod_7cf53 ({ frames := 0, cells := 0, slots := 0, locals := 0 } : Room) (rd_Pc dC dI cI cZ cS ([]) [.int (zI a), .int (zI b)]) (rd_Qc (some (.int (zI (a % b))))) 0 0 nf := by
  refine rd_metF (cc := cJ9_floorMod_7cf53) (maxL := 3) (ret := (some .int)) (by decide +kernel) rfl (Nat.le_of_ble_eq_true rfl) ?_
  intro p e s m below meth c ls hx hb hml hr hlocks hts hown hP hK hl
  have hl : lv_has ls 3 [(0, .int (zI a)), (1, .int (zI b))] := hl
  refine lv_iload_n hx hb dJ9_floorMod_7cf53_0 rfl (lv_at hl 0 rfl) ?_
  refine lv_iload_n hx hb dJ9_floorMod_7cf53_1 rfl (lv_at hl 1 rfl) ?_
  refine zr_irem hx hb (by omega) (by omega) dJ9_floorMod_7cf53_2 ?_
  refine lv_istore_n (lv' := [(2, .int (zI (a % b))), (0, .int (zI a)), (1, .int (zI b))]) hx hb dJ9_floorMod_7cf53_3 rfl hl (by decide) rfl (fun ls hl => ?_)
  refine lv_iload_n hx hb dJ9_floorMod_7cf53_4 rfl (lv_at hl 1 rfl) ?_
  refine lv_iload_n hx hb dJ9_floorMod_7cf53_5 rfl (lv_at hl 2 rfl) ?_
  refine lv_ixor hx hb dJ9_floorMod_7cf53_6 ?_
  refine lv_if_ge (tgt := 18) hx hb dJ9_floorMod_7cf53_7 (by decide) (fun c_7 => ?_) (fun c_7 => absurd (z_xor ha hb1) c_7)
  refine lv_iload_n hx hb dJ9_floorMod_7cf53_18 rfl (lv_at hl 0 rfl) ?_
  exact rd_iret hx hb hr hlocks rfl dJ9_floorMod_7cf53_19
