/-! OWN ROWS: the class's calls -/
theorem sTi_0 (g : Nat → Nat → Int) (a b : Nat) : sTi g a b (b + 1) = 0 := sm_zero (fun c _ => if_neg (by omega))
theorem sTj_0 (g : Nat → Nat → Int) (n a : Nat) : sTj g n a (a + 1) = 0 := sm_zero (fun c _ => if_neg (by omega))
set_option maxHeartbeats 4000000 in
set_option maxRecDepth 100000 in
/-- suspect -/
theorem c_X2_suspect (l : Launch) (dC : Nat → ClassId) (dI : Nat → Nat → Nat) (cI cZ cS : ClassId) (b : Nat → Nat) (g : Nat → Nat → Int) (w S V o : Nat → Int) (r : Int) (hg : gB g r) : Met l yX2_suspect wsX2_suspect ({ frames := 4, cells := 0, slots := 0, locals := 95 } : Room) (wr_Pc dC dI cI cZ cS (mdw cI cZ b g w S V o) [.ref (b 0)]) (wr_Qc dC dI (mdw cI cZ b g w S V o) (mdw cI cZ b g ((cQ g w o).1) S V ((cQ g w o).2)) (some (.int (zI (aSusM g w o))))) 0 0 (wr_ad (mdw cI cZ b g w S V o)) := by
  refine wr_met (cc := cX2_suspect) (maxL := 3) (ret := (some .int)) (by decide) rfl (Nat.le_of_ble_eq_true rfl) ?_
  intro p e s m below meth c ls hx hb hml hr hlocks hts hown hP hD hS hK hl
  have hl : lv_has ls 3 [(0, .ref (b 0))] := hl
  have hinX2 : ∀ w ∈ u_ws RX2 TX2 11, w ∈ wsX2_suspect := by decide +kernel
  have f_7 := hts (.fieldLink RX2 7 "NetworkCoordinatesModel" "state" "[I") (by decide +kernel)
  have f_125 := hts (.fieldLink RX2 125 "NetworkCoordinatesModel" "violatedMany" "I") (by decide +kernel)
  have k_111 := hts (.constant RX2 111 (-1000005)) (by decide +kernel)
  have f_20 := hts (.fieldLink RX2 20 "NetworkCoordinatesModel" "often" "[I") (by decide +kernel)
  have b0 := hg.1
  have hN := gN_eq hg
  have q5 := cQ_5 hg w o
  have bo : ∀ k, k < gN g → 0 ≤ (cQ g w o).2 k ∧ (cQ g w o).2 k ≤ 100 := fun k hk => by rw [cQ_o hg w o hk]; exact sVa_bd hN.2.2
  refine lv_aload_n hx hb dX2_suspect_0 rfl (lv_at hl 0 rfl) ?_
  refine wr_callV (As := []) (rest := []) ⟨hx, hb, hml, hown, hts⟩ (c_X2_countAll l dC dI cI cZ cS b g w S V o r hg) (cwV 0 hts gX2_suspect_X2_countAll rfl rfl rfl (by decide +kernel) ⟨Nat.le_of_ble_eq_true rfl, Nat.le_of_ble_eq_true rfl⟩) hP hD hS hK 0 rfl rfl rfl hl.1 rfl (Nat.le_of_ble_eq_true rfl) dX2_suspect_1 ⟨Nat.zero_le _, Nat.zero_le _⟩ (fun H locs hP1 hk1 hS => ?_)
  have hP : va_P (dC, dI) vwCl (mdw cI cZ b g (cQ g w o).1 S V (cQ g w o).2) H := hP1
  have hD : va_D (wr_ad (mdw cI cZ b g w S V o)) (mdw cI cZ b g (cQ g w o).1 S V (cQ g w o).2) := va_D_adr hD rfl
  refine zr_iconst hx hb dX2_suspect_4 ?_
  refine lv_istore_n (lv' := [(1, .int (zI 0)), (0, .ref (b 0))]) hx hb dX2_suspect_5 rfl hl (by decide) rfl (fun ls hl => ?_)
  refine zr_iconst hx hb dX2_suspect_6 ?_
  refine lv_istore_n (lv' := [(2, .int (zI 1)), (1, .int (zI 0)), (0, .ref (b 0))]) hx hb dX2_suspect_7 rfl hl (by decide) rfl (fun ls hl => ?_)
  have loop : ∀ (k_loop i : Nat), i + k_loop = gN g → 1 ≤ i → ∀ ls : Array Slot, lv_has ls 3 [(2, .int (zI ((i : Nat) : Int))), (1, .int (zI ((sSb (cQ g w o).2 i : Nat) : Int))), (0, .ref (b 0))] → W p l e ({ frames := 4, cells := 0, slots := 0, locals := 95 } : Room) s m [.ref (b 0)].toArray below meth c H locs 0 0 (MQ below (wr_Qc dC dI (mdw cI cZ b g w S V o) (mdw cI cZ b g ((cQ g w o).1) S V ((cQ g w o).2)) (some (.int (zI (aSusM g w o))))) [.ref (b 0)].toArray s 0 0 (wr_ad (mdw cI cZ b g w S V o))) (F0 m 8 ls []) := by
    intro k_loop
    induction k_loop with
    | zero =>
      intro i hi hi1 ls hl
      refine lv_iload_n hx hb dX2_suspect_8 rfl (lv_at hl 0 rfl) ?_
      refine lv_aload_n hx hb dX2_suspect_9 rfl (lv_at hl 2 rfl) ?_
      refine va_get (D := (dC, dI)) (ci := 2) (v := .ref (b 1)) (C := RX2) (T := TX2) (N := 11) hx hb hts hinX2 hown hK.1 hP 0 rfl rfl 0 (by decide) f_7 (fun _ h9 => h9) rfl dX2_suspect_10 ?_
      refine zr_iconst hx hb dX2_suspect_13 ?_
      refine zr_iald hx hb hK.1 hP 1 0 rfl rfl 0 (g 0 0) (by omega) (by omega) (Nat.le_of_ble_eq_true rfl) (flat_0 (by decide)) dX2_suspect_14 ?_
      refine zr_icmp_ge (tgt := 45) hx hb dX2_suspect_15 (by decide) (by omega) (by omega) (fun c_15 => ?_) (fun c_15 => absurd c_15 (by omega))
      have hi2 : i = gN g := by omega
      subst hi2
      refine lv_aload_n hx hb dX2_suspect_45 rfl (lv_at hl 2 rfl) ?_
      refine va_get (D := (dC, dI)) (ci := 2) (v := .int (zI ((cQ g w o).1 5))) (C := RX2) (T := TX2) (N := 11) hx hb hts hinX2 hown hK.1 hP 0 rfl rfl 8 (by decide) f_125 (fun _ h9 => h9) rfl dX2_suspect_46 ?_
      refine zr_if_ne (tgt := 57) hx hb dX2_suspect_49 (by decide) (by omega) (fun c_49 => ?_) (fun c_49 => ?_)
      · refine lv_iload_n hx hb dX2_suspect_57 rfl (lv_at hl 1 rfl) ?_
        exact wr_iret hx hb hr hlocks hP hS (by unfold aSusM; rw [if_neg c_49]) dX2_suspect_58
      · refine zr_ldc hx hb (-1000005) hown k_111 (by decide) dX2_suspect_52 ?_
        refine lv_goto (tgt := 58) hx hb dX2_suspect_54 (by decide) ?_
        exact wr_iret hx hb hr hlocks hP hS (by unfold aSusM; rw [if_pos c_49]) dX2_suspect_58
    | succ k_loop ih_loop =>
      intro i hi hi1 ls hl
      have hlt : sSb (cQ g w o).2 i < i := by obtain ⟨t, rfl⟩ : ∃ t, i = t + 1 := ⟨i - 1, by omega⟩; exact sSb_lt _ t
      refine lv_iload_n hx hb dX2_suspect_8 rfl (lv_at hl 0 rfl) ?_
      refine lv_aload_n hx hb dX2_suspect_9 rfl (lv_at hl 2 rfl) ?_
      refine va_get (D := (dC, dI)) (ci := 2) (v := .ref (b 1)) (C := RX2) (T := TX2) (N := 11) hx hb hts hinX2 hown hK.1 hP 0 rfl rfl 0 (by decide) f_7 (fun _ h9 => h9) rfl dX2_suspect_10 ?_
      refine zr_iconst hx hb dX2_suspect_13 ?_
      refine zr_iald hx hb hK.1 hP 1 0 rfl rfl 0 (g 0 0) (by omega) (by omega) (Nat.le_of_ble_eq_true rfl) (flat_0 (by decide)) dX2_suspect_14 ?_
      refine zr_icmp_ge (tgt := 45) hx hb dX2_suspect_15 (by decide) (by omega) (by omega) (fun c_15 => absurd c_15 (by omega)) (fun c_15 => ?_)
      have o1 := bo i (by omega)
      have o2 := bo (sSb (cQ g w o).2 i) (by omega)
      refine lv_aload_n hx hb dX2_suspect_18 rfl (lv_at hl 2 rfl) ?_
      refine va_get (D := (dC, dI)) (ci := 2) (v := .ref (b 4)) (C := RX2) (T := TX2) (N := 11) hx hb hts hinX2 hown hK.1 hP 0 rfl rfl 10 (by decide) f_20 (fun _ h9 => h9) rfl dX2_suspect_19 ?_
      refine lv_iload_n hx hb dX2_suspect_22 rfl (lv_at hl 0 rfl) ?_
      refine zr_iald hx hb hK.1 hP 4 0 rfl rfl i ((cQ g w o).2 i) (by omega) (by omega) (Nat.le_of_ble_eq_true rfl) rfl dX2_suspect_23 ?_
      refine lv_aload_n hx hb dX2_suspect_24 rfl (lv_at hl 2 rfl) ?_
      refine va_get (D := (dC, dI)) (ci := 2) (v := .ref (b 4)) (C := RX2) (T := TX2) (N := 11) hx hb hts hinX2 hown hK.1 hP 0 rfl rfl 10 (by decide) f_20 (fun _ h9 => h9) rfl dX2_suspect_25 ?_
      refine lv_iload_n hx hb dX2_suspect_28 rfl (lv_at hl 1 rfl) ?_
      refine zr_iald hx hb hK.1 hP 4 0 rfl rfl (sSb (cQ g w o).2 i) ((cQ g w o).2 (sSb (cQ g w o).2 i)) (by omega) (by omega) (Nat.le_of_ble_eq_true rfl) rfl dX2_suspect_29 ?_
      refine zr_icmp_le (tgt := 37) hx hb dX2_suspect_30 (by decide) (by omega) (by omega) (fun c_30 => ?_) (fun c_30 => ?_)
      · refine lv_iload_n hx hb dX2_suspect_37 rfl (lv_at hl 1 rfl) ?_
        refine zr_topI ((sSb (cQ g w o).2 (i + 1) : Nat) : Int) (by rw [show sSb (cQ g w o).2 (i + 1) = _ from if_neg (c := (cQ g w o).2 (sSb (cQ g w o).2 i) < (cQ g w o).2 i) (by omega)]) ?_
        refine lv_istore_n (lv' := [(1, .int (zI ((sSb (cQ g w o).2 (i + 1) : Nat) : Int))), (2, .int (zI ((i : Nat) : Int))), (0, .ref (b 0))]) hx hb dX2_suspect_38 rfl hl (by decide) rfl (fun ls hl => ?_)
        refine zr_iinc (b := ((i + 1 : Nat) : Int)) (lv' := [(2, .int (zI ((i + 1 : Nat) : Int))), (1, .int (zI ((sSb (cQ g w o).2 (i + 1) : Nat) : Int))), (0, .ref (b 0))]) hx hb dX2_suspect_39 hl (k := 1) rfl (by omega) (by decide) rfl (fun ls hl => ?_)
        refine lv_goto (tgt := 8) hx hb dX2_suspect_42 (by decide) ?_
        exact ih_loop (i + 1) (by omega) (by omega) ls (lv_sub hl [0, 1, 2] rfl)
      · refine lv_iload_n hx hb dX2_suspect_33 rfl (lv_at hl 0 rfl) ?_
        refine lv_goto (tgt := 38) hx hb dX2_suspect_34 (by decide) ?_
        refine zr_topI ((sSb (cQ g w o).2 (i + 1) : Nat) : Int) (by rw [show sSb (cQ g w o).2 (i + 1) = _ from if_pos (c := (cQ g w o).2 (sSb (cQ g w o).2 i) < (cQ g w o).2 i) (by omega)]) ?_
        refine lv_istore_n (lv' := [(1, .int (zI ((sSb (cQ g w o).2 (i + 1) : Nat) : Int))), (2, .int (zI ((i : Nat) : Int))), (0, .ref (b 0))]) hx hb dX2_suspect_38 rfl hl (by decide) rfl (fun ls hl => ?_)
        refine zr_iinc (b := ((i + 1 : Nat) : Int)) (lv' := [(2, .int (zI ((i + 1 : Nat) : Int))), (1, .int (zI ((sSb (cQ g w o).2 (i + 1) : Nat) : Int))), (0, .ref (b 0))]) hx hb dX2_suspect_39 hl (k := 1) rfl (by omega) (by decide) rfl (fun ls hl => ?_)
        refine lv_goto (tgt := 8) hx hb dX2_suspect_42 (by decide) ?_
        exact ih_loop (i + 1) (by omega) (by omega) ls (lv_sub hl [0, 1, 2] rfl)
  have e0 : sSb (cQ g w o).2 1 = 0 := by show (if (cQ g w o).2 0 < (cQ g w o).2 0 then 0 else 0) = 0; split <;> rfl
  have hl : lv_has ls 3 [(2, .int (zI ((1 : Nat) : Int))), (1, .int (zI ((sSb (cQ g w o).2 1 : Nat) : Int))), (0, .ref (b 0))] := by rw [e0]; exact hl
  exact loop (gN g - 1) 1 (by omega) (by omega) ls (lv_sub hl [0, 1, 2] rfl)
set_option maxHeartbeats 4000000 in
set_option maxRecDepth 100000 in
/-- isNode -/
theorem c_X1_isNode (l : Launch) (dC : Nat → ClassId) (dI : Nat → Nat → Nat) (cI cZ cS : ClassId) (a : Nat → Nat) (h hs : Nat) (g : Nat → Nat → Int) (r : Int) (hg : gB g r) (u : Int) (hu : -2147483648 ≤ u ∧ u ≤ 2147483647) : Met l yX1_isNode wsX1_isNode ({ frames := 1, cells := 0, slots := 0, locals := 22 } : Room) (rd_Pc dC dI cI cZ cS (stw cI a g ++ mnw a h hs) [.ref h, .int (zI u)]) (rd_Qc (some (.int (zI (if 0 ≤ u ∧ u ≤ g 0 0 - 1 then 1 else 0))))) 0 0 nf := by
  refine rd_met (cc := cX1_isNode) (maxL := 2) (ret := (some .boolean)) (by decide) rfl (Nat.le_of_ble_eq_true rfl) ?_
  intro p e s m below meth c ls hx hb hml hr hlocks hts hown hP hK hl
  have hl : lv_has ls 2 [(0, .ref h), (1, .int (zI u))] := hl
  have hinX0 : ∀ w ∈ u_ws RX0 TX0 11, w ∈ wsX1_isNode := by decide +kernel
  have hinX1 : ∀ w ∈ u_ws RX1 TX1 2, w ∈ wsX1_isNode := by decide +kernel
  have f_10 := hts (.fieldLink RX1 10 "NetworkCoordinates" "now" "LNetworkCoordinates$State;") (by decide +kernel)
  have b0 := hg.1
  have hPs : va_P (dC, dI) vwCl (stw cI a g) s.heap := va_P_left hP
  refine lv_iload_n hx hb dX1_isNode_0 rfl (lv_at hl 1 rfl) ?_
  refine zr_iconst hx hb dX1_isNode_1 ?_
  refine lv_aload_n hx hb dX1_isNode_2 rfl (lv_at hl 0 rfl) ?_
  refine va_get (D := (dC, dI)) (ci := 1) (v := .ref (a 0)) (C := RX1) (T := TX1) (N := 2) hx hb hts hinX1 hown hK.1 hP 7 rfl rfl 0 (by decide) f_10 (fun _ h9 => h9) rfl dX1_isNode_3 ?_
  refine va_getN (D := (dC, dI)) (ci := 0) (v := .int (zI (g 0 0))) (C := RX0) (T := TX0) (N := 11) hx hb hts hinX0 hown hK.1 hP 0 rfl rfl 0 (by decide) (hK.nw 0 rfl) (fun _ h9 => h9) rfl dX1_isNode_6 ?_
  refine zr_iconst hx hb dX1_isNode_9 ?_
  refine zr_isub hx hb dX1_isNode_10 ?_
  refine rd_callS (As := [.int (zI u), .int (zI 0), .int (zI (g 0 0 - 1))]) (rest := []) ⟨hx, hb, hml, hown, hts⟩ (c_X1_isWithin l dC dI cI cZ cS u 0 (g 0 0 - 1) (by omega) (by omega) (by omega)) (va_cwS 3 hts gX1_isNode_X1_isWithin rfl rfl rfl (by decide +kernel) ⟨Nat.le_of_ble_eq_true rfl, Nat.le_of_ble_eq_true rfl⟩) va_P_nil hK rfl hl.1 rfl (Nat.le_of_ble_eq_true rfl) dX1_isNode_11 ⟨Nat.zero_le _, Nat.zero_le _⟩ ?_
  exact rd_zret hx hb hr hlocks rfl (by split <;> omega) dX1_isNode_14
set_option maxHeartbeats 4000000 in
set_option maxRecDepth 100000 in
/-- pairFault -/
theorem c_X1_pairFault (l : Launch) (dC : Nat → ClassId) (dI : Nat → Nat → Nat) (cI cZ cS : ClassId) (a : Nat → Nat) (h hs : Nat) (g : Nat → Nat → Int) (r : Int) (hg : gB g r) (u : Int) (hu : -2147483648 ≤ u ∧ u ≤ 2147483647) (v : Int) (hv : -2147483648 ≤ v ∧ v ≤ 2147483647) : Met l yX1_pairFault wsX1_pairFault ({ frames := 2, cells := 0, slots := 0, locals := 43 } : Room) (rd_Pc dC dI cI cZ cS (stw cI a g ++ mnw a h hs) [.ref h, .int (zI u), .int (zI v)]) (rd_Qc (some (.int (zI (sPf g u v))))) 0 0 nf := by
  refine rd_met (cc := cX1_pairFault) (maxL := 3) (ret := (some .int)) (by decide) rfl (Nat.le_of_ble_eq_true rfl) ?_
  intro p e s m below meth c ls hx hb hml hr hlocks hts hown hP hK hl
  have hl : lv_has ls 3 [(0, .ref h), (1, .int (zI u)), (2, .int (zI v))] := hl
  have k_51 := hts (.constant RX1 51 (-1000001)) (by decide +kernel)
  have k_142 := hts (.constant RX1 142 (-1000003)) (by decide +kernel)
  have b0 := hg.1
  have hPs : va_P (dC, dI) vwCl (stw cI a g) s.heap := va_P_left hP
  refine lv_aload_n hx hb dX1_pairFault_0 rfl (lv_at hl 0 rfl) ?_
  refine lv_iload_n hx hb dX1_pairFault_1 rfl (lv_at hl 1 rfl) ?_
  refine rd_callV (As := [.int (zI u)]) (rest := []) ⟨hx, hb, hml, hown, hts⟩ (c_X1_isNode l dC dI cI cZ cS a h hs g r hg u (by omega)) (cwV 1 hts gX1_pairFault_X1_isNode rfl rfl rfl (by decide +kernel) ⟨Nat.le_of_ble_eq_true rfl, Nat.le_of_ble_eq_true rfl⟩) hP hK 7 rfl rfl rfl hl.1 rfl (Nat.le_of_ble_eq_true rfl) dX1_pairFault_2 ⟨Nat.zero_le _, Nat.zero_le _⟩ ?_
  refine zr_bif_eq (tgt := 16) hx hb dX1_pairFault_5 (by decide) (fun c_5 => ?_) (fun c_5 => ?_)
  · refine zr_ldc hx hb (-1000001) hown k_51 (by decide) dX1_pairFault_16 ?_
    exact rd_iret hx hb hr hlocks (by unfold sPf; rw [if_neg (by omega)]) dX1_pairFault_18
  · refine lv_aload_n hx hb dX1_pairFault_8 rfl (lv_at hl 0 rfl) ?_
    refine lv_iload_n hx hb dX1_pairFault_9 rfl (lv_at hl 2 rfl) ?_
    refine rd_callV (As := [.int (zI v)]) (rest := []) ⟨hx, hb, hml, hown, hts⟩ (c_X1_isNode l dC dI cI cZ cS a h hs g r hg v (by omega)) (cwV 1 hts gX1_pairFault_X1_isNode rfl rfl rfl (by decide +kernel) ⟨Nat.le_of_ble_eq_true rfl, Nat.le_of_ble_eq_true rfl⟩) hP hK 7 rfl rfl rfl hl.1 rfl (Nat.le_of_ble_eq_true rfl) dX1_pairFault_10 ⟨Nat.zero_le _, Nat.zero_le _⟩ ?_
    refine zr_bif_ne (tgt := 19) hx hb dX1_pairFault_13 (by decide) (fun c_13 => ?_) (fun c_13 => ?_)
    · refine lv_iload_n hx hb dX1_pairFault_19 rfl (lv_at hl 1 rfl) ?_
      refine lv_iload_n hx hb dX1_pairFault_20 rfl (lv_at hl 2 rfl) ?_
      refine zr_icmp_ne (tgt := 29) hx hb dX1_pairFault_21 (by decide) (by omega) (by omega) (fun c_21 => ?_) (fun c_21 => ?_)
      · refine zr_iconst hx hb dX1_pairFault_29 ?_
        exact rd_iret hx hb hr hlocks (by unfold sPf; rw [if_pos (by omega), if_neg (by omega)]) dX1_pairFault_30
      · refine zr_ldc hx hb (-1000003) hown k_142 (by decide) dX1_pairFault_24 ?_
        refine lv_goto (tgt := 30) hx hb dX1_pairFault_26 (by decide) ?_
        exact rd_iret hx hb hr hlocks (by unfold sPf; rw [if_pos (by omega), if_pos (by omega)]) dX1_pairFault_30
    · refine zr_ldc hx hb (-1000001) hown k_51 (by decide) dX1_pairFault_16 ?_
      exact rd_iret hx hb hr hlocks (by unfold sPf; rw [if_neg (by omega)]) dX1_pairFault_18
set_option maxHeartbeats 4000000 in
set_option maxRecDepth 100000 in
/-- knownPairFault -/
theorem c_X1_knownPairFault (l : Launch) (dC : Nat → ClassId) (dI : Nat → Nat → Nat) (cI cZ cS : ClassId) (a : Nat → Nat) (h hs : Nat) (g : Nat → Nat → Int) (r : Int) (hg : gB g r) (u : Int) (hu : -2147483648 ≤ u ∧ u ≤ 2147483647) (v : Int) (hv : -2147483648 ≤ v ∧ v ≤ 2147483647) : Met l yX1_knownPairFault wsX1_knownPairFault ({ frames := 3, cells := 0, slots := 0, locals := 65 } : Room) (rd_Pc dC dI cI cZ cS (stw cI a g ++ mnw a h hs) [.ref h, .int (zI u), .int (zI v)]) (rd_Qc (some (.int (zI (sKf g u v))))) 0 0 nf := by
  refine rd_met (cc := cX1_knownPairFault) (maxL := 4) (ret := (some .int)) (by decide) rfl (Nat.le_of_ble_eq_true rfl) ?_
  intro p e s m below meth c ls hx hb hml hr hlocks hts hown hP hK hl
  have hl : lv_has ls 4 [(0, .ref h), (1, .int (zI u)), (2, .int (zI v))] := hl
  have hinX1 : ∀ w ∈ u_ws RX1 TX1 2, w ∈ wsX1_knownPairFault := by decide +kernel
  have f_10 := hts (.fieldLink RX1 10 "NetworkCoordinates" "now" "LNetworkCoordinates$State;") (by decide +kernel)
  have k_143 := hts (.constant RX1 143 (-1000004)) (by decide +kernel)
  have b0 := hg.1
  have hPs : va_P (dC, dI) vwCl (stw cI a g) s.heap := va_P_left hP
  have s0 := sPf_rng g u v
  refine lv_aload_n hx hb dX1_knownPairFault_0 rfl (lv_at hl 0 rfl) ?_
  refine lv_iload_n hx hb dX1_knownPairFault_1 rfl (lv_at hl 1 rfl) ?_
  refine lv_iload_n hx hb dX1_knownPairFault_2 rfl (lv_at hl 2 rfl) ?_
  refine rd_callV (As := [.int (zI u), .int (zI v)]) (rest := []) ⟨hx, hb, hml, hown, hts⟩ (c_X1_pairFault l dC dI cI cZ cS a h hs g r hg u (by omega) v (by omega)) (cwV 2 hts gX1_knownPairFault_X1_pairFault rfl rfl rfl (by decide +kernel) ⟨Nat.le_of_ble_eq_true rfl, Nat.le_of_ble_eq_true rfl⟩) hP hK 7 rfl rfl rfl hl.1 rfl (Nat.le_of_ble_eq_true rfl) dX1_knownPairFault_3 ⟨Nat.zero_le _, Nat.zero_le _⟩ ?_
  refine lv_istore_n (lv' := [(3, .int (zI (sPf g u v))), (0, .ref h), (1, .int (zI u)), (2, .int (zI v))]) hx hb dX1_knownPairFault_6 rfl hl (by decide) rfl (fun ls hl => ?_)
  refine lv_iload_n hx hb dX1_knownPairFault_7 rfl (lv_at hl 0 rfl) ?_
  refine zr_if_eq (tgt := 13) hx hb dX1_knownPairFault_8 (by decide) (by omega) (fun c_8 => ?_) (fun c_8 => ?_)
  · obtain ⟨A, B, rfl, rfl, hA2, hB2, hA, hB, hAB, eA, eB⟩ := z_nodes hg c_8
    have kAB := hg.2.2 A B hA hB
    refine lv_aload_n hx hb dX1_knownPairFault_13 rfl (lv_at hl 1 rfl) ?_
    refine va_get (D := (dC, dI)) (ci := 1) (v := .ref (a 0)) (C := RX1) (T := TX1) (N := 2) hx hb hts hinX1 hown hK.1 hP 7 rfl rfl 0 (by decide) f_10 (fun _ h9 => h9) rfl dX1_knownPairFault_14 ?_
    refine lv_iload_n hx hb dX1_knownPairFault_17 rfl (lv_at hl 2 rfl) ?_
    refine lv_iload_n hx hb dX1_knownPairFault_18 rfl (lv_at hl 3 rfl) ?_
    refine rd_callV (As := [.int (zI (A : Int)), .int (zI (B : Int))]) (rest := []) ⟨hx, hb, hml, hown, hts⟩ (c_X0_isKnown l dC dI cI cZ cS a g r hg A B (by omega) (by omega)) (cwV 2 hts gX1_knownPairFault_X0_isKnown rfl rfl rfl (by decide +kernel) ⟨Nat.le_of_ble_eq_true rfl, Nat.le_of_ble_eq_true rfl⟩) hPs hK 0 rfl rfl rfl hl.1 rfl (Nat.le_of_ble_eq_true rfl) dX1_knownPairFault_19 ⟨Nat.zero_le _, Nat.zero_le _⟩ ?_
    refine zr_bif_eq (tgt := 29) hx hb dX1_knownPairFault_22 (by decide) (fun c_22 => ?_) (fun c_22 => ?_)
    · refine zr_ldc hx hb (-1000004) hown k_143 (by decide) dX1_knownPairFault_29 ?_
      exact rd_iret hx hb hr hlocks (by unfold sKf; rw [if_pos c_8, eA, eB, if_neg c_22]) dX1_knownPairFault_31
    · refine zr_iconst hx hb dX1_knownPairFault_25 ?_
      refine lv_goto (tgt := 31) hx hb dX1_knownPairFault_26 (by decide) ?_
      exact rd_iret hx hb hr hlocks (by unfold sKf; rw [if_pos c_8, eA, eB, if_pos c_22]) dX1_knownPairFault_31
  · refine lv_iload_n hx hb dX1_knownPairFault_11 rfl (lv_at hl 0 rfl) ?_
    exact rd_iret hx hb hr hlocks (by unfold sKf; rw [if_neg c_8]) dX1_knownPairFault_12
set_option maxHeartbeats 4000000 in
set_option maxRecDepth 100000 in
/-- rtt -/
theorem c_X1_rtt (l : Launch) (dC : Nat → ClassId) (dI : Nat → Nat → Nat) (cI cZ cS : ClassId) (a : Nat → Nat) (h hs : Nat) (g : Nat → Nat → Int) (r : Int) (hg : gB g r) (u : Int) (hu : -2147483648 ≤ u ∧ u ≤ 2147483647) (v : Int) (hv : -2147483648 ≤ v ∧ v ≤ 2147483647) : Met l yX1_rtt wsX1_rtt ({ frames := 4, cells := 0, slots := 0, locals := 88 } : Room) (rd_Pc dC dI cI cZ cS (stw cI a g ++ mnw a h hs) [.ref h, .int (zI u), .int (zI v)]) (rd_Qc (some (.int (zI (aRtt g u v))))) 0 0 nf := by
  refine rd_met (cc := cX1_rtt) (maxL := 4) (ret := (some .int)) (by decide) rfl (Nat.le_of_ble_eq_true rfl) ?_
  intro p e s m below meth c ls hx hb hml hr hlocks hts hown hP hK hl
  have hl : lv_has ls 4 [(0, .ref h), (1, .int (zI u)), (2, .int (zI v))] := hl
  have hinX1 : ∀ w ∈ u_ws RX1 TX1 2, w ∈ wsX1_rtt := by decide +kernel
  have f_10 := hts (.fieldLink RX1 10 "NetworkCoordinates" "now" "LNetworkCoordinates$State;") (by decide +kernel)
  have b0 := hg.1
  have hPs : va_P (dC, dI) vwCl (stw cI a g) s.heap := va_P_left hP
  have s0 := sKf_rng g u v
  refine lv_aload_n hx hb dX1_rtt_0 rfl (lv_at hl 0 rfl) ?_
  refine lv_iload_n hx hb dX1_rtt_1 rfl (lv_at hl 1 rfl) ?_
  refine lv_iload_n hx hb dX1_rtt_2 rfl (lv_at hl 2 rfl) ?_
  refine rd_callV (As := [.int (zI u), .int (zI v)]) (rest := []) ⟨hx, hb, hml, hown, hts⟩ (c_X1_knownPairFault l dC dI cI cZ cS a h hs g r hg u (by omega) v (by omega)) (cwV 2 hts gX1_rtt_X1_knownPairFault rfl rfl rfl (by decide +kernel) ⟨Nat.le_of_ble_eq_true rfl, Nat.le_of_ble_eq_true rfl⟩) hP hK 7 rfl rfl rfl hl.1 rfl (Nat.le_of_ble_eq_true rfl) dX1_rtt_3 ⟨Nat.zero_le _, Nat.zero_le _⟩ ?_
  refine lv_istore_n (lv' := [(3, .int (zI (sKf g u v))), (0, .ref h), (1, .int (zI u)), (2, .int (zI v))]) hx hb dX1_rtt_6 rfl hl (by decide) rfl (fun ls hl => ?_)
  refine lv_iload_n hx hb dX1_rtt_7 rfl (lv_at hl 0 rfl) ?_
  refine zr_if_eq (tgt := 15) hx hb dX1_rtt_8 (by decide) (by omega) (fun c_8 => ?_) (fun c_8 => ?_)
  · obtain ⟨c1, c2⟩ := sKf_0 c_8
    obtain ⟨A, B, rfl, rfl, hA2, hB2, hA, hB, hAB, eA, eB⟩ := z_nodes hg c1
    have kAB := hg.2.2 A B hA hB
    rw [eA, eB] at c2
    refine lv_aload_n hx hb dX1_rtt_15 rfl (lv_at hl 1 rfl) ?_
    refine va_get (D := (dC, dI)) (ci := 1) (v := .ref (a 0)) (C := RX1) (T := TX1) (N := 2) hx hb hts hinX1 hown hK.1 hP 7 rfl rfl 0 (by decide) f_10 (fun _ h9 => h9) rfl dX1_rtt_16 ?_
    refine lv_iload_n hx hb dX1_rtt_19 rfl (lv_at hl 2 rfl) ?_
    refine lv_iload_n hx hb dX1_rtt_20 rfl (lv_at hl 3 rfl) ?_
    refine rd_callV (As := [.int (zI (A : Int)), .int (zI (B : Int))]) (rest := []) ⟨hx, hb, hml, hown, hts⟩ (c_X0_rttOf l dC dI cI cZ cS a g r hg A B (by omega) (by omega)) (cwV 2 hts gX1_rtt_X0_rttOf rfl rfl rfl (by decide +kernel) ⟨Nat.le_of_ble_eq_true rfl, Nat.le_of_ble_eq_true rfl⟩) hPs hK 0 rfl rfl rfl hl.1 rfl (Nat.le_of_ble_eq_true rfl) dX1_rtt_21 ⟨Nat.zero_le _, Nat.zero_le _⟩ ?_
    exact rd_iret hx hb hr hlocks (by unfold aRtt; rw [if_pos c_8, eA, eB]) dX1_rtt_24
  · refine lv_iload_n hx hb dX1_rtt_11 rfl (lv_at hl 0 rfl) ?_
    refine lv_goto (tgt := 24) hx hb dX1_rtt_12 (by decide) ?_
    exact rd_iret hx hb hr hlocks (by unfold aRtt; rw [if_neg c_8]) dX1_rtt_24
set_option maxHeartbeats 4000000 in
set_option maxRecDepth 100000 in
/-- relativeError -/
theorem c_X1_relativeError (l : Launch) (dC : Nat → ClassId) (dI : Nat → Nat → Nat) (cI cZ cS : ClassId) (a : Nat → Nat) (h hs : Nat) (g : Nat → Nat → Int) (r : Int) (hg : gB g r) (u : Int) (hu : -2147483648 ≤ u ∧ u ≤ 2147483647) (v : Int) (hv : -2147483648 ≤ v ∧ v ≤ 2147483647) : Met l yX1_relativeError wsX1_relativeError ({ frames := 4, cells := 0, slots := 0, locals := 94 } : Room) (rd_Pc dC dI cI cZ cS (stw cI a g ++ mnw a h hs) [.ref h, .int (zI u), .int (zI v)]) (rd_Qc (some (.int (zI (aRelErr g u v))))) 0 0 nf := by
  refine rd_met (cc := cX1_relativeError) (maxL := 4) (ret := (some .int)) (by decide) rfl (Nat.le_of_ble_eq_true rfl) ?_
  intro p e s m below meth c ls hx hb hml hr hlocks hts hown hP hK hl
  have hl : lv_has ls 4 [(0, .ref h), (1, .int (zI u)), (2, .int (zI v))] := hl
  have hinX1 : ∀ w ∈ u_ws RX1 TX1 2, w ∈ wsX1_relativeError := by decide +kernel
  have f_10 := hts (.fieldLink RX1 10 "NetworkCoordinates" "now" "LNetworkCoordinates$State;") (by decide +kernel)
  have b0 := hg.1
  have hPs : va_P (dC, dI) vwCl (stw cI a g) s.heap := va_P_left hP
  have s0 := sKf_rng g u v
  refine lv_aload_n hx hb dX1_relativeError_0 rfl (lv_at hl 0 rfl) ?_
  refine lv_iload_n hx hb dX1_relativeError_1 rfl (lv_at hl 1 rfl) ?_
  refine lv_iload_n hx hb dX1_relativeError_2 rfl (lv_at hl 2 rfl) ?_
  refine rd_callV (As := [.int (zI u), .int (zI v)]) (rest := []) ⟨hx, hb, hml, hown, hts⟩ (c_X1_knownPairFault l dC dI cI cZ cS a h hs g r hg u (by omega) v (by omega)) (cwV 2 hts gX1_relativeError_X1_knownPairFault rfl rfl rfl (by decide +kernel) ⟨Nat.le_of_ble_eq_true rfl, Nat.le_of_ble_eq_true rfl⟩) hP hK 7 rfl rfl rfl hl.1 rfl (Nat.le_of_ble_eq_true rfl) dX1_relativeError_3 ⟨Nat.zero_le _, Nat.zero_le _⟩ ?_
  refine lv_istore_n (lv' := [(3, .int (zI (sKf g u v))), (0, .ref h), (1, .int (zI u)), (2, .int (zI v))]) hx hb dX1_relativeError_6 rfl hl (by decide) rfl (fun ls hl => ?_)
  refine lv_iload_n hx hb dX1_relativeError_7 rfl (lv_at hl 0 rfl) ?_
  refine zr_if_eq (tgt := 15) hx hb dX1_relativeError_8 (by decide) (by omega) (fun c_8 => ?_) (fun c_8 => ?_)
  · obtain ⟨c1, c2⟩ := sKf_0 c_8
    obtain ⟨A, B, rfl, rfl, hA2, hB2, hA, hB, hAB, eA, eB⟩ := z_nodes hg c1
    have kAB := hg.2.2 A B hA hB
    rw [eA, eB] at c2
    refine lv_aload_n hx hb dX1_relativeError_15 rfl (lv_at hl 1 rfl) ?_
    refine va_get (D := (dC, dI)) (ci := 1) (v := .ref (a 0)) (C := RX1) (T := TX1) (N := 2) hx hb hts hinX1 hown hK.1 hP 7 rfl rfl 0 (by decide) f_10 (fun _ h9 => h9) rfl dX1_relativeError_16 ?_
    refine lv_iload_n hx hb dX1_relativeError_19 rfl (lv_at hl 2 rfl) ?_
    refine lv_iload_n hx hb dX1_relativeError_20 rfl (lv_at hl 3 rfl) ?_
    refine rd_callV (As := [.int (zI (A : Int)), .int (zI (B : Int))]) (rest := []) ⟨hx, hb, hml, hown, hts⟩ (c_X0_relative l dC dI cI cZ cS a g r hg A B (by omega) (by omega) (by omega)) (cwV 2 hts gX1_relativeError_X0_relative rfl rfl rfl (by decide +kernel) ⟨Nat.le_of_ble_eq_true rfl, Nat.le_of_ble_eq_true rfl⟩) hPs hK 0 rfl rfl rfl hl.1 rfl (Nat.le_of_ble_eq_true rfl) dX1_relativeError_21 ⟨Nat.zero_le _, Nat.zero_le _⟩ ?_
    exact rd_iret hx hb hr hlocks (by unfold aRelErr; rw [if_pos c_8, eA, eB]) dX1_relativeError_24
  · refine lv_iload_n hx hb dX1_relativeError_11 rfl (lv_at hl 0 rfl) ?_
    refine lv_goto (tgt := 24) hx hb dX1_relativeError_12 (by decide) ?_
    exact rd_iret hx hb hr hlocks (by unfold aRelErr; rw [if_neg c_8]) dX1_relativeError_24
set_option maxHeartbeats 4000000 in
set_option maxRecDepth 100000 in
/-- move -/
theorem c_X1_move (l : Launch) (dC : Nat → ClassId) (dI : Nat → Nat → Nat) (cI cZ cS : ClassId) (a : Nat → Nat) (h hs : Nat) (g : Nat → Nat → Int) (r : Int) (hg : gB g r) (u : Int) (hu : -2147483648 ≤ u ∧ u ≤ 2147483647) (v : Int) (hv : -2147483648 ≤ v ∧ v ≤ 2147483647) : Met l yX1_move wsX1_move ({ frames := 4, cells := 0, slots := 0, locals := 113 } : Room) (rd_Pc dC dI cI cZ cS (stw cI a g ++ mnw a h hs) [.ref h, .int (zI u), .int (zI v)]) (rd_Qc (some (.int (zI (aMove g u v))))) 0 0 nf := by
  refine rd_met (cc := cX1_move) (maxL := 4) (ret := (some .int)) (by decide) rfl (Nat.le_of_ble_eq_true rfl) ?_
  intro p e s m below meth c ls hx hb hml hr hlocks hts hown hP hK hl
  have hl : lv_has ls 4 [(0, .ref h), (1, .int (zI u)), (2, .int (zI v))] := hl
  have hinX1 : ∀ w ∈ u_ws RX1 TX1 2, w ∈ wsX1_move := by decide +kernel
  have f_10 := hts (.fieldLink RX1 10 "NetworkCoordinates" "now" "LNetworkCoordinates$State;") (by decide +kernel)
  have b0 := hg.1
  have hPs : va_P (dC, dI) vwCl (stw cI a g) s.heap := va_P_left hP
  have s0 := sKf_rng g u v
  refine lv_aload_n hx hb dX1_move_0 rfl (lv_at hl 0 rfl) ?_
  refine lv_iload_n hx hb dX1_move_1 rfl (lv_at hl 1 rfl) ?_
  refine lv_iload_n hx hb dX1_move_2 rfl (lv_at hl 2 rfl) ?_
  refine rd_callV (As := [.int (zI u), .int (zI v)]) (rest := []) ⟨hx, hb, hml, hown, hts⟩ (c_X1_knownPairFault l dC dI cI cZ cS a h hs g r hg u (by omega) v (by omega)) (cwV 2 hts gX1_move_X1_knownPairFault rfl rfl rfl (by decide +kernel) ⟨Nat.le_of_ble_eq_true rfl, Nat.le_of_ble_eq_true rfl⟩) hP hK 7 rfl rfl rfl hl.1 rfl (Nat.le_of_ble_eq_true rfl) dX1_move_3 ⟨Nat.zero_le _, Nat.zero_le _⟩ ?_
  refine lv_istore_n (lv' := [(3, .int (zI (sKf g u v))), (0, .ref h), (1, .int (zI u)), (2, .int (zI v))]) hx hb dX1_move_6 rfl hl (by decide) rfl (fun ls hl => ?_)
  refine lv_iload_n hx hb dX1_move_7 rfl (lv_at hl 0 rfl) ?_
  refine zr_if_eq (tgt := 15) hx hb dX1_move_8 (by decide) (by omega) (fun c_8 => ?_) (fun c_8 => ?_)
  · obtain ⟨c1, c2⟩ := sKf_0 c_8
    obtain ⟨A, B, rfl, rfl, hA2, hB2, hA, hB, hAB, eA, eB⟩ := z_nodes hg c1
    have kAB := hg.2.2 A B hA hB
    rw [eA, eB] at c2
    refine lv_aload_n hx hb dX1_move_15 rfl (lv_at hl 1 rfl) ?_
    refine va_get (D := (dC, dI)) (ci := 1) (v := .ref (a 0)) (C := RX1) (T := TX1) (N := 2) hx hb hts hinX1 hown hK.1 hP 7 rfl rfl 0 (by decide) f_10 (fun _ h9 => h9) rfl dX1_move_16 ?_
    refine lv_iload_n hx hb dX1_move_19 rfl (lv_at hl 2 rfl) ?_
    refine lv_iload_n hx hb dX1_move_20 rfl (lv_at hl 3 rfl) ?_
    refine rd_callV (As := [.int (zI (A : Int)), .int (zI (B : Int))]) (rest := []) ⟨hx, hb, hml, hown, hts⟩ (c_X0_distanceMoved l dC dI cI cZ cS a g r hg A B (by omega) (by omega)) (cwV 2 hts gX1_move_X0_distanceMoved rfl rfl rfl (by decide +kernel) ⟨Nat.le_of_ble_eq_true rfl, Nat.le_of_ble_eq_true rfl⟩) hPs hK 0 rfl rfl rfl hl.1 rfl (Nat.le_of_ble_eq_true rfl) dX1_move_21 ⟨Nat.zero_le _, Nat.zero_le _⟩ ?_
    exact rd_iret hx hb hr hlocks (by unfold aMove; rw [if_pos c_8, eA, eB]) dX1_move_24
  · refine lv_iload_n hx hb dX1_move_11 rfl (lv_at hl 0 rfl) ?_
    refine lv_goto (tgt := 24) hx hb dX1_move_12 (by decide) ?_
    exact rd_iret hx hb hr hlocks (by unfold aMove; rw [if_neg c_8]) dX1_move_24
set_option maxHeartbeats 4000000 in
set_option maxRecDepth 100000 in
/-- predict -/
theorem c_X1_predict (l : Launch) (dC : Nat → ClassId) (dI : Nat → Nat → Nat) (cI cZ cS : ClassId) (a : Nat → Nat) (h hs : Nat) (g : Nat → Nat → Int) (r : Int) (hg : gB g r) (u : Int) (hu : -2147483648 ≤ u ∧ u ≤ 2147483647) (v : Int) (hv : -2147483648 ≤ v ∧ v ≤ 2147483647) : Met l yX1_predict wsX1_predict ({ frames := 3, cells := 0, slots := 0, locals := 71 } : Room) (rd_Pc dC dI cI cZ cS (stw cI a g ++ mnw a h hs) [.ref h, .int (zI u), .int (zI v)]) (rd_Qc (some (.int (zI (aPredict g u v))))) 0 0 nf := by
  refine rd_met (cc := cX1_predict) (maxL := 4) (ret := (some .int)) (by decide) rfl (Nat.le_of_ble_eq_true rfl) ?_
  intro p e s m below meth c ls hx hb hml hr hlocks hts hown hP hK hl
  have hl : lv_has ls 4 [(0, .ref h), (1, .int (zI u)), (2, .int (zI v))] := hl
  have hinX1 : ∀ w ∈ u_ws RX1 TX1 2, w ∈ wsX1_predict := by decide +kernel
  have f_10 := hts (.fieldLink RX1 10 "NetworkCoordinates" "now" "LNetworkCoordinates$State;") (by decide +kernel)
  have b0 := hg.1
  have hPs : va_P (dC, dI) vwCl (stw cI a g) s.heap := va_P_left hP
  have s0 := sPf_rng g u v
  refine lv_aload_n hx hb dX1_predict_0 rfl (lv_at hl 0 rfl) ?_
  refine lv_iload_n hx hb dX1_predict_1 rfl (lv_at hl 1 rfl) ?_
  refine lv_iload_n hx hb dX1_predict_2 rfl (lv_at hl 2 rfl) ?_
  refine rd_callV (As := [.int (zI u), .int (zI v)]) (rest := []) ⟨hx, hb, hml, hown, hts⟩ (c_X1_pairFault l dC dI cI cZ cS a h hs g r hg u (by omega) v (by omega)) (cwV 2 hts gX1_predict_X1_pairFault rfl rfl rfl (by decide +kernel) ⟨Nat.le_of_ble_eq_true rfl, Nat.le_of_ble_eq_true rfl⟩) hP hK 7 rfl rfl rfl hl.1 rfl (Nat.le_of_ble_eq_true rfl) dX1_predict_3 ⟨Nat.zero_le _, Nat.zero_le _⟩ ?_
  refine lv_istore_n (lv' := [(3, .int (zI (sPf g u v))), (0, .ref h), (1, .int (zI u)), (2, .int (zI v))]) hx hb dX1_predict_6 rfl hl (by decide) rfl (fun ls hl => ?_)
  refine lv_iload_n hx hb dX1_predict_7 rfl (lv_at hl 0 rfl) ?_
  refine zr_if_eq (tgt := 15) hx hb dX1_predict_8 (by decide) (by omega) (fun c_8 => ?_) (fun c_8 => ?_)
  · obtain ⟨A, B, rfl, rfl, hA2, hB2, hA, hB, hAB, eA, eB⟩ := z_nodes hg c_8
    have kAB := hg.2.2 A B hA hB
    refine lv_aload_n hx hb dX1_predict_15 rfl (lv_at hl 1 rfl) ?_
    refine va_get (D := (dC, dI)) (ci := 1) (v := .ref (a 0)) (C := RX1) (T := TX1) (N := 2) hx hb hts hinX1 hown hK.1 hP 7 rfl rfl 0 (by decide) f_10 (fun _ h9 => h9) rfl dX1_predict_16 ?_
    refine lv_iload_n hx hb dX1_predict_19 rfl (lv_at hl 2 rfl) ?_
    refine lv_iload_n hx hb dX1_predict_20 rfl (lv_at hl 3 rfl) ?_
    refine rd_callV (As := [.int (zI (A : Int)), .int (zI (B : Int))]) (rest := []) ⟨hx, hb, hml, hown, hts⟩ (c_X0_predicted l dC dI cI cZ cS a g r hg A B (by omega) (by omega)) (cwV 2 hts gX1_predict_X0_predicted rfl rfl rfl (by decide +kernel) ⟨Nat.le_of_ble_eq_true rfl, Nat.le_of_ble_eq_true rfl⟩) hPs hK 0 rfl rfl rfl hl.1 rfl (Nat.le_of_ble_eq_true rfl) dX1_predict_21 ⟨Nat.zero_le _, Nat.zero_le _⟩ ?_
    exact rd_iret hx hb hr hlocks (by unfold aPredict; rw [if_pos c_8, eA, eB]) dX1_predict_24
  · refine lv_iload_n hx hb dX1_predict_11 rfl (lv_at hl 0 rfl) ?_
    refine lv_goto (tgt := 24) hx hb dX1_predict_12 (by decide) ?_
    exact rd_iret hx hb hr hlocks (by unfold aPredict; rw [if_neg c_8]) dX1_predict_24
set_option maxHeartbeats 4000000 in
set_option maxRecDepth 100000 in
/-- x -/
theorem c_X1_x (l : Launch) (dC : Nat → ClassId) (dI : Nat → Nat → Nat) (cI cZ cS : ClassId) (a : Nat → Nat) (h hs : Nat) (g : Nat → Nat → Int) (r : Int) (hg : gB g r) (u : Int) (hu : -2147483648 ≤ u ∧ u ≤ 2147483647) : Met l yX1_x wsX1_x ({ frames := 2, cells := 0, slots := 0, locals := 43 } : Room) (rd_Pc dC dI cI cZ cS (stw cI a g ++ mnw a h hs) [.ref h, .int (zI u)]) (rd_Qc (some (.int (zI (aOf 1 g u))))) 0 0 nf := by
  refine rd_met (cc := cX1_x) (maxL := 2) (ret := (some .int)) (by decide) rfl (Nat.le_of_ble_eq_true rfl) ?_
  intro p e s m below meth c ls hx hb hml hr hlocks hts hown hP hK hl
  have hl : lv_has ls 2 [(0, .ref h), (1, .int (zI u))] := hl
  have hinX0 : ∀ w ∈ u_ws RX0 TX0 11, w ∈ wsX1_x := by decide +kernel
  have hinX1 : ∀ w ∈ u_ws RX1 TX1 2, w ∈ wsX1_x := by decide +kernel
  have k_51 := hts (.constant RX1 51 (-1000001)) (by decide +kernel)
  have f_10 := hts (.fieldLink RX1 10 "NetworkCoordinates" "now" "LNetworkCoordinates$State;") (by decide +kernel)
  have b0 := hg.1
  have hPs : va_P (dC, dI) vwCl (stw cI a g) s.heap := va_P_left hP
  refine lv_aload_n hx hb dX1_x_0 rfl (lv_at hl 0 rfl) ?_
  refine lv_iload_n hx hb dX1_x_1 rfl (lv_at hl 1 rfl) ?_
  refine rd_callV (As := [.int (zI u)]) (rest := []) ⟨hx, hb, hml, hown, hts⟩ (c_X1_isNode l dC dI cI cZ cS a h hs g r hg u (by omega)) (cwV 1 hts gX1_x_X1_isNode rfl rfl rfl (by decide +kernel) ⟨Nat.le_of_ble_eq_true rfl, Nat.le_of_ble_eq_true rfl⟩) hP hK 7 rfl rfl rfl hl.1 rfl (Nat.le_of_ble_eq_true rfl) dX1_x_2 ⟨Nat.zero_le _, Nat.zero_le _⟩ ?_
  refine zr_bif_eq (tgt := 20) hx hb dX1_x_5 (by decide) (fun c_5 => ?_) (fun c_5 => ?_)
  · refine zr_ldc hx hb (-1000001) hown k_51 (by decide) dX1_x_20 ?_
    exact rd_iret hx hb hr hlocks (by unfold aOf; rw [if_neg c_5]) dX1_x_22
  · obtain ⟨A, rfl⟩ : ∃ A : Nat, u = (A : Int) := ⟨u.toNat, by omega⟩
    have eA : ((A : Nat) : Int).toNat = A := by omega
    have hA : A < 10 := by omega
    refine lv_aload_n hx hb dX1_x_8 rfl (lv_at hl 0 rfl) ?_
    refine va_get (D := (dC, dI)) (ci := 1) (v := .ref (a 0)) (C := RX1) (T := TX1) (N := 2) hx hb hts hinX1 hown hK.1 hP 7 rfl rfl 0 (by decide) f_10 (fun _ h9 => h9) rfl dX1_x_9 ?_
    refine va_getN (D := (dC, dI)) (ci := 0) (v := .ref (a 1)) (C := RX0) (T := TX0) (N := 11) hx hb hts hinX0 hown hK.1 hP 0 rfl rfl 5 (by decide) (hK.nw 5 rfl) (fun _ h9 => h9) rfl dX1_x_12 ?_
    refine lv_iload_n hx hb dX1_x_15 rfl (lv_at hl 1 rfl) ?_
    refine zr_iald hx hb hK.1 hP 1 0 rfl rfl A (g 1 A) (by omega) (by omega) (Nat.le_of_ble_eq_true rfl) rfl dX1_x_16 ?_
    refine lv_goto (tgt := 22) hx hb dX1_x_17 (by decide) ?_
    exact rd_iret hx hb hr hlocks (by unfold aOf; rw [if_pos c_5, eA]) dX1_x_22
set_option maxHeartbeats 4000000 in
set_option maxRecDepth 100000 in
/-- y -/
theorem c_X1_y (l : Launch) (dC : Nat → ClassId) (dI : Nat → Nat → Nat) (cI cZ cS : ClassId) (a : Nat → Nat) (h hs : Nat) (g : Nat → Nat → Int) (r : Int) (hg : gB g r) (u : Int) (hu : -2147483648 ≤ u ∧ u ≤ 2147483647) : Met l yX1_y wsX1_y ({ frames := 2, cells := 0, slots := 0, locals := 43 } : Room) (rd_Pc dC dI cI cZ cS (stw cI a g ++ mnw a h hs) [.ref h, .int (zI u)]) (rd_Qc (some (.int (zI (aOf 2 g u))))) 0 0 nf := by
  refine rd_met (cc := cX1_y) (maxL := 2) (ret := (some .int)) (by decide) rfl (Nat.le_of_ble_eq_true rfl) ?_
  intro p e s m below meth c ls hx hb hml hr hlocks hts hown hP hK hl
  have hl : lv_has ls 2 [(0, .ref h), (1, .int (zI u))] := hl
  have hinX0 : ∀ w ∈ u_ws RX0 TX0 11, w ∈ wsX1_y := by decide +kernel
  have hinX1 : ∀ w ∈ u_ws RX1 TX1 2, w ∈ wsX1_y := by decide +kernel
  have k_51 := hts (.constant RX1 51 (-1000001)) (by decide +kernel)
  have f_10 := hts (.fieldLink RX1 10 "NetworkCoordinates" "now" "LNetworkCoordinates$State;") (by decide +kernel)
  have b0 := hg.1
  have hPs : va_P (dC, dI) vwCl (stw cI a g) s.heap := va_P_left hP
  refine lv_aload_n hx hb dX1_y_0 rfl (lv_at hl 0 rfl) ?_
  refine lv_iload_n hx hb dX1_y_1 rfl (lv_at hl 1 rfl) ?_
  refine rd_callV (As := [.int (zI u)]) (rest := []) ⟨hx, hb, hml, hown, hts⟩ (c_X1_isNode l dC dI cI cZ cS a h hs g r hg u (by omega)) (cwV 1 hts gX1_y_X1_isNode rfl rfl rfl (by decide +kernel) ⟨Nat.le_of_ble_eq_true rfl, Nat.le_of_ble_eq_true rfl⟩) hP hK 7 rfl rfl rfl hl.1 rfl (Nat.le_of_ble_eq_true rfl) dX1_y_2 ⟨Nat.zero_le _, Nat.zero_le _⟩ ?_
  refine zr_bif_eq (tgt := 20) hx hb dX1_y_5 (by decide) (fun c_5 => ?_) (fun c_5 => ?_)
  · refine zr_ldc hx hb (-1000001) hown k_51 (by decide) dX1_y_20 ?_
    exact rd_iret hx hb hr hlocks (by unfold aOf; rw [if_neg c_5]) dX1_y_22
  · obtain ⟨A, rfl⟩ : ∃ A : Nat, u = (A : Int) := ⟨u.toNat, by omega⟩
    have eA : ((A : Nat) : Int).toNat = A := by omega
    have hA : A < 10 := by omega
    refine lv_aload_n hx hb dX1_y_8 rfl (lv_at hl 0 rfl) ?_
    refine va_get (D := (dC, dI)) (ci := 1) (v := .ref (a 0)) (C := RX1) (T := TX1) (N := 2) hx hb hts hinX1 hown hK.1 hP 7 rfl rfl 0 (by decide) f_10 (fun _ h9 => h9) rfl dX1_y_9 ?_
    refine va_getN (D := (dC, dI)) (ci := 0) (v := .ref (a 2)) (C := RX0) (T := TX0) (N := 11) hx hb hts hinX0 hown hK.1 hP 0 rfl rfl 6 (by decide) (hK.nw 6 rfl) (fun _ h9 => h9) rfl dX1_y_12 ?_
    refine lv_iload_n hx hb dX1_y_15 rfl (lv_at hl 1 rfl) ?_
    refine zr_iald hx hb hK.1 hP 2 0 rfl rfl A (g 2 A) (by omega) (by omega) (Nat.le_of_ble_eq_true rfl) rfl dX1_y_16 ?_
    refine lv_goto (tgt := 22) hx hb dX1_y_17 (by decide) ?_
    exact rd_iret hx hb hr hlocks (by unfold aOf; rw [if_pos c_5, eA]) dX1_y_22
set_option maxHeartbeats 4000000 in
set_option maxRecDepth 100000 in
/-- height -/
theorem c_X1_height (l : Launch) (dC : Nat → ClassId) (dI : Nat → Nat → Nat) (cI cZ cS : ClassId) (a : Nat → Nat) (h hs : Nat) (g : Nat → Nat → Int) (r : Int) (hg : gB g r) (u : Int) (hu : -2147483648 ≤ u ∧ u ≤ 2147483647) : Met l yX1_height wsX1_height ({ frames := 2, cells := 0, slots := 0, locals := 43 } : Room) (rd_Pc dC dI cI cZ cS (stw cI a g ++ mnw a h hs) [.ref h, .int (zI u)]) (rd_Qc (some (.int (zI (aOf 3 g u))))) 0 0 nf := by
  refine rd_met (cc := cX1_height) (maxL := 2) (ret := (some .int)) (by decide) rfl (Nat.le_of_ble_eq_true rfl) ?_
  intro p e s m below meth c ls hx hb hml hr hlocks hts hown hP hK hl
  have hl : lv_has ls 2 [(0, .ref h), (1, .int (zI u))] := hl
  have hinX0 : ∀ w ∈ u_ws RX0 TX0 11, w ∈ wsX1_height := by decide +kernel
  have hinX1 : ∀ w ∈ u_ws RX1 TX1 2, w ∈ wsX1_height := by decide +kernel
  have k_51 := hts (.constant RX1 51 (-1000001)) (by decide +kernel)
  have f_10 := hts (.fieldLink RX1 10 "NetworkCoordinates" "now" "LNetworkCoordinates$State;") (by decide +kernel)
  have b0 := hg.1
  have hPs : va_P (dC, dI) vwCl (stw cI a g) s.heap := va_P_left hP
  refine lv_aload_n hx hb dX1_height_0 rfl (lv_at hl 0 rfl) ?_
  refine lv_iload_n hx hb dX1_height_1 rfl (lv_at hl 1 rfl) ?_
  refine rd_callV (As := [.int (zI u)]) (rest := []) ⟨hx, hb, hml, hown, hts⟩ (c_X1_isNode l dC dI cI cZ cS a h hs g r hg u (by omega)) (cwV 1 hts gX1_height_X1_isNode rfl rfl rfl (by decide +kernel) ⟨Nat.le_of_ble_eq_true rfl, Nat.le_of_ble_eq_true rfl⟩) hP hK 7 rfl rfl rfl hl.1 rfl (Nat.le_of_ble_eq_true rfl) dX1_height_2 ⟨Nat.zero_le _, Nat.zero_le _⟩ ?_
  refine zr_bif_eq (tgt := 20) hx hb dX1_height_5 (by decide) (fun c_5 => ?_) (fun c_5 => ?_)
  · refine zr_ldc hx hb (-1000001) hown k_51 (by decide) dX1_height_20 ?_
    exact rd_iret hx hb hr hlocks (by unfold aOf; rw [if_neg c_5]) dX1_height_22
  · obtain ⟨A, rfl⟩ : ∃ A : Nat, u = (A : Int) := ⟨u.toNat, by omega⟩
    have eA : ((A : Nat) : Int).toNat = A := by omega
    have hA : A < 10 := by omega
    refine lv_aload_n hx hb dX1_height_8 rfl (lv_at hl 0 rfl) ?_
    refine va_get (D := (dC, dI)) (ci := 1) (v := .ref (a 0)) (C := RX1) (T := TX1) (N := 2) hx hb hts hinX1 hown hK.1 hP 7 rfl rfl 0 (by decide) f_10 (fun _ h9 => h9) rfl dX1_height_9 ?_
    refine va_getN (D := (dC, dI)) (ci := 0) (v := .ref (a 3)) (C := RX0) (T := TX0) (N := 11) hx hb hts hinX0 hown hK.1 hP 0 rfl rfl 7 (by decide) (hK.nw 7 rfl) (fun _ h9 => h9) rfl dX1_height_12 ?_
    refine lv_iload_n hx hb dX1_height_15 rfl (lv_at hl 1 rfl) ?_
    refine zr_iald hx hb hK.1 hP 3 0 rfl rfl A (g 3 A) (by omega) (by omega) (Nat.le_of_ble_eq_true rfl) rfl dX1_height_16 ?_
    refine lv_goto (tgt := 22) hx hb dX1_height_17 (by decide) ?_
    exact rd_iret hx hb hr hlocks (by unfold aOf; rw [if_pos c_5, eA]) dX1_height_22
set_option maxHeartbeats 4000000 in
set_option maxRecDepth 100000 in
/-- error -/
theorem c_X1_error (l : Launch) (dC : Nat → ClassId) (dI : Nat → Nat → Nat) (cI cZ cS : ClassId) (a : Nat → Nat) (h hs : Nat) (g : Nat → Nat → Int) (r : Int) (hg : gB g r) (u : Int) (hu : -2147483648 ≤ u ∧ u ≤ 2147483647) : Met l yX1_error wsX1_error ({ frames := 2, cells := 0, slots := 0, locals := 43 } : Room) (rd_Pc dC dI cI cZ cS (stw cI a g ++ mnw a h hs) [.ref h, .int (zI u)]) (rd_Qc (some (.int (zI (aOf 4 g u))))) 0 0 nf := by
  refine rd_met (cc := cX1_error) (maxL := 2) (ret := (some .int)) (by decide) rfl (Nat.le_of_ble_eq_true rfl) ?_
  intro p e s m below meth c ls hx hb hml hr hlocks hts hown hP hK hl
  have hl : lv_has ls 2 [(0, .ref h), (1, .int (zI u))] := hl
  have hinX0 : ∀ w ∈ u_ws RX0 TX0 11, w ∈ wsX1_error := by decide +kernel
  have hinX1 : ∀ w ∈ u_ws RX1 TX1 2, w ∈ wsX1_error := by decide +kernel
  have k_51 := hts (.constant RX1 51 (-1000001)) (by decide +kernel)
  have f_10 := hts (.fieldLink RX1 10 "NetworkCoordinates" "now" "LNetworkCoordinates$State;") (by decide +kernel)
  have b0 := hg.1
  have hPs : va_P (dC, dI) vwCl (stw cI a g) s.heap := va_P_left hP
  refine lv_aload_n hx hb dX1_error_0 rfl (lv_at hl 0 rfl) ?_
  refine lv_iload_n hx hb dX1_error_1 rfl (lv_at hl 1 rfl) ?_
  refine rd_callV (As := [.int (zI u)]) (rest := []) ⟨hx, hb, hml, hown, hts⟩ (c_X1_isNode l dC dI cI cZ cS a h hs g r hg u (by omega)) (cwV 1 hts gX1_error_X1_isNode rfl rfl rfl (by decide +kernel) ⟨Nat.le_of_ble_eq_true rfl, Nat.le_of_ble_eq_true rfl⟩) hP hK 7 rfl rfl rfl hl.1 rfl (Nat.le_of_ble_eq_true rfl) dX1_error_2 ⟨Nat.zero_le _, Nat.zero_le _⟩ ?_
  refine zr_bif_eq (tgt := 20) hx hb dX1_error_5 (by decide) (fun c_5 => ?_) (fun c_5 => ?_)
  · refine zr_ldc hx hb (-1000001) hown k_51 (by decide) dX1_error_20 ?_
    exact rd_iret hx hb hr hlocks (by unfold aOf; rw [if_neg c_5]) dX1_error_22
  · obtain ⟨A, rfl⟩ : ∃ A : Nat, u = (A : Int) := ⟨u.toNat, by omega⟩
    have eA : ((A : Nat) : Int).toNat = A := by omega
    have hA : A < 10 := by omega
    refine lv_aload_n hx hb dX1_error_8 rfl (lv_at hl 0 rfl) ?_
    refine va_get (D := (dC, dI)) (ci := 1) (v := .ref (a 0)) (C := RX1) (T := TX1) (N := 2) hx hb hts hinX1 hown hK.1 hP 7 rfl rfl 0 (by decide) f_10 (fun _ h9 => h9) rfl dX1_error_9 ?_
    refine va_getN (D := (dC, dI)) (ci := 0) (v := .ref (a 4)) (C := RX0) (T := TX0) (N := 11) hx hb hts hinX0 hown hK.1 hP 0 rfl rfl 8 (by decide) (hK.nw 8 rfl) (fun _ h9 => h9) rfl dX1_error_12 ?_
    refine lv_iload_n hx hb dX1_error_15 rfl (lv_at hl 1 rfl) ?_
    refine zr_iald hx hb hK.1 hP 4 0 rfl rfl A (g 4 A) (by omega) (by omega) (Nat.le_of_ble_eq_true rfl) rfl dX1_error_16 ?_
    refine lv_goto (tgt := 22) hx hb dX1_error_17 (by decide) ?_
    exact rd_iret hx hb hr hlocks (by unfold aOf; rw [if_pos c_5, eA]) dX1_error_22
set_option maxHeartbeats 4000000 in
set_option maxRecDepth 100000 in
/-- roundCounter -/
theorem c_X1_roundCounter (l : Launch) (dC : Nat → ClassId) (dI : Nat → Nat → Nat) (cI cZ cS : ClassId) (a : Nat → Nat) (h hs : Nat) (g : Nat → Nat → Int) (r : Int) (hg : gB g r) : Met l yX1_roundCounter wsX1_roundCounter ({ frames := 0, cells := 0, slots := 0, locals := 0 } : Room) (rd_Pc dC dI cI cZ cS (stw cI a g ++ mnw a h hs) [.ref h]) (rd_Qc (some (.int (zI (g 0 1))))) 0 0 nf := by
  refine rd_met (cc := cX1_roundCounter) (maxL := 1) (ret := (some .int)) (by decide) rfl (Nat.le_of_ble_eq_true rfl) ?_
  intro p e s m below meth c ls hx hb hml hr hlocks hts hown hP hK hl
  have hl : lv_has ls 1 [(0, .ref h)] := hl
  have hinX0 : ∀ w ∈ u_ws RX0 TX0 11, w ∈ wsX1_roundCounter := by decide +kernel
  have hinX1 : ∀ w ∈ u_ws RX1 TX1 2, w ∈ wsX1_roundCounter := by decide +kernel
  have f_10 := hts (.fieldLink RX1 10 "NetworkCoordinates" "now" "LNetworkCoordinates$State;") (by decide +kernel)
  have b0 := hg.1
  have hPs : va_P (dC, dI) vwCl (stw cI a g) s.heap := va_P_left hP
  refine lv_aload_n hx hb dX1_roundCounter_0 rfl (lv_at hl 0 rfl) ?_
  refine va_get (D := (dC, dI)) (ci := 1) (v := .ref (a 0)) (C := RX1) (T := TX1) (N := 2) hx hb hts hinX1 hown hK.1 hP 7 rfl rfl 0 (by decide) f_10 (fun _ h9 => h9) rfl dX1_roundCounter_1 ?_
  refine va_getN (D := (dC, dI)) (ci := 0) (v := .int (zI (g 0 1))) (C := RX0) (T := TX0) (N := 11) hx hb hts hinX0 hown hK.1 hP 0 rfl rfl 1 (by decide) (hK.nw 1 rfl) (fun _ h9 => h9) rfl dX1_roundCounter_4 ?_
  exact rd_iret hx hb hr hlocks rfl dX1_roundCounter_7
set_option maxHeartbeats 4000000 in
set_option maxRecDepth 100000 in
/-- reset -/
theorem c_X1_reset (l : Launch) (dC : Nat → ClassId) (dI : Nat → Nat → Nat) (cI cZ cS : ClassId) (a : Nat → Nat) (h hs : Nat) (g : Nat → Nat → Int) (r : Int) (hg : gB g r) (n : Int) (hn : -2147483648 ≤ n ∧ n ≤ 2147483647) : Met l yX1_reset wsX1_reset ({ frames := 2, cells := 0, slots := 0, locals := 47 } : Room) (wr_Pc dC dI cI cZ cS (stw cI a g ++ mnw a h hs) [.ref h, .int (zI n)]) (wr_Qc dC dI (stw cI a g ++ mnw a h hs) (stw cI a (nReset g n) ++ mnw a h hs) (some (.int (zI (aReset g n))))) 0 0 (wr_ad (stw cI a g ++ mnw a h hs)) := by
  refine wr_met (cc := cX1_reset) (maxL := 3) (ret := (some .int)) (by decide) rfl (Nat.le_of_ble_eq_true rfl) ?_
  intro p e s m below meth c ls hx hb hml hr hlocks hts hown hP hD hS hK hl
  have hl : lv_has ls 3 [(0, .ref h), (1, .int (zI n))] := hl
  have hinX0 : ∀ w ∈ u_ws RX0 TX0 11, w ∈ wsX1_reset := by decide +kernel
  have hinX1 : ∀ w ∈ u_ws RX1 TX1 2, w ∈ wsX1_reset := by decide +kernel
  have f_10 := hts (.fieldLink RX1 10 "NetworkCoordinates" "now" "LNetworkCoordinates$State;") (by decide +kernel)
  have k_24 := hts (.constant RX1 24 (-1000002)) (by decide +kernel)
  have b0 := hg.1
  have hPs : va_P (dC, dI) vwCl (stw cI a g) s.heap := va_P_left hP
  refine lv_iload_n hx hb dX1_reset_0 rfl (lv_at hl 1 rfl) ?_
  refine zr_iconst hx hb dX1_reset_1 ?_
  refine zr_bipush hx hb dX1_reset_2 (by decide) ?_
  refine rd_callS (As := [.int (zI n), .int (zI 2), .int (zI 10)]) (rest := []) ⟨hx, hb, hml, hown, hts⟩ (c_X1_isWithin l dC dI cI cZ cS n 2 10 (by omega) (by omega) (by omega)) (va_cwS 3 hts gX1_reset_X1_isWithin rfl rfl rfl (by decide +kernel) ⟨Nat.le_of_ble_eq_true rfl, Nat.le_of_ble_eq_true rfl⟩) va_P_nil hK rfl hl.1 rfl (Nat.le_of_ble_eq_true rfl) dX1_reset_4 ⟨Nat.zero_le _, Nat.zero_le _⟩ ?_
  refine zr_bif_ne (tgt := 13) hx hb dX1_reset_7 (by decide) (fun c_7 => ?_) (fun c_7 => ?_)
  · refine lv_aload_n hx hb dX1_reset_13 rfl (lv_at hl 0 rfl) ?_
    refine va_get (D := (dC, dI)) (ci := 1) (v := .ref (a 0)) (C := RX1) (T := TX1) (N := 2) hx hb hts hinX1 hown hK.1 hP 7 rfl rfl 0 (by decide) f_10 (fun _ h9 => h9) rfl dX1_reset_14 ?_
    refine va_getN (D := (dC, dI)) (ci := 0) (v := .int (zI (g 0 0))) (C := RX0) (T := TX0) (N := 11) hx hb hts hinX0 hown hK.1 hP 0 rfl rfl 0 (by decide) (hK.nw 0 rfl) (fun _ h9 => h9) rfl dX1_reset_17 ?_
    refine lv_istore_n (lv' := [(2, .int (zI (g 0 0))), (0, .ref h), (1, .int (zI n))]) hx hb dX1_reset_20 rfl hl (by decide) rfl (fun ls hl => ?_)
    refine lv_aload_n hx hb dX1_reset_21 rfl (lv_at hl 1 rfl) ?_
    refine va_get (D := (dC, dI)) (ci := 1) (v := .ref (a 0)) (C := RX1) (T := TX1) (N := 2) hx hb hts hinX1 hown hK.1 hP 7 rfl rfl 0 (by decide) f_10 (fun _ h9 => h9) rfl dX1_reset_22 ?_
    refine lv_iload_n hx hb dX1_reset_25 rfl (lv_at hl 2 rfl) ?_
    refine wr_callV (As := [.int (zI n)]) (rest := []) ⟨hx, hb, hml, hown, hts⟩ (c_X0_begin l dC dI cI cZ cS a g n) (cwV 1 hts gX1_reset_X0_begin rfl rfl rfl (by decide +kernel) ⟨Nat.le_of_ble_eq_true rfl, Nat.le_of_ble_eq_true rfl⟩) hPs (va_D_left hD) hS hK 0 rfl rfl rfl hl.1 rfl (Nat.le_of_ble_eq_true rfl) dX1_reset_26 ⟨Nat.zero_le _, Nat.zero_le _⟩ (fun H locs hP1 hk1 hS => ?_)
    have hP : va_P (dC, dI) vwCl (stw cI a (sBeg g n) ++ mnw a h hs) H := wr_tail hP hD hP1 hk1
    have hD : va_D (wr_ad (stw cI a g ++ mnw a h hs)) (stw cI a (sBeg g n) ++ mnw a h hs) := va_D_adr hD rfl
    have hPs : va_P (dC, dI) vwCl (stw cI a (sBeg g n)) H := va_P_left hP
    refine lv_iload_n hx hb dX1_reset_29 rfl (lv_at hl 0 rfl) ?_
    exact wr_iret hx hb hr hlocks (show va_P (dC, dI) vwCl (stw cI a (nReset g n) ++ mnw a h hs) _ by rw [show nReset g n = sBeg g n from if_pos c_7]; exact hP) hS (by unfold aReset; rw [if_pos c_7]) dX1_reset_30
  · refine zr_ldc hx hb (-1000002) hown k_24 (by decide) dX1_reset_10 ?_
    exact wr_iret hx hb hr hlocks (show va_P (dC, dI) vwCl (stw cI a (nReset g n) ++ mnw a h hs) _ by rw [show nReset g n = g from if_neg c_7]; exact hP) hS (by unfold aReset; rw [if_neg c_7]) dX1_reset_12
set_option maxHeartbeats 4000000 in
set_option maxRecDepth 100000 in
/-- setRtt -/
theorem c_X1_setRtt (l : Launch) (dC : Nat → ClassId) (dI : Nat → Nat → Nat) (cI cZ cS : ClassId) (a : Nat → Nat) (h hs : Nat) (g : Nat → Nat → Int) (r : Int) (hg : gB g r) (u : Int) (hu : -2147483648 ≤ u ∧ u ≤ 2147483647) (v : Int) (hv : -2147483648 ≤ v ∧ v ≤ 2147483647) (z : Int) (hz : -2147483648 ≤ z ∧ z ≤ 2147483647) : Met l yX1_setRtt wsX1_setRtt ({ frames := 3, cells := 0, slots := 0, locals := 65 } : Room) (wr_Pc dC dI cI cZ cS (stw cI a g ++ mnw a h hs) [.ref h, .int (zI u), .int (zI v), .int (zI z)]) (wr_Qc dC dI (stw cI a g ++ mnw a h hs) (stw cI a (nSetRtt g u v z) ++ mnw a h hs) (some (.int (zI (aSetRtt g u v z))))) 0 0 (wr_ad (stw cI a g ++ mnw a h hs)) := by
  refine wr_met (cc := cX1_setRtt) (maxL := 6) (ret := (some .int)) (by decide) rfl (Nat.le_of_ble_eq_true rfl) ?_
  intro p e s m below meth c ls hx hb hml hr hlocks hts hown hP hD hS hK hl
  have hl : lv_has ls 6 [(0, .ref h), (1, .int (zI u)), (2, .int (zI v)), (3, .int (zI z))] := hl
  have hinX1 : ∀ w ∈ u_ws RX1 TX1 2, w ∈ wsX1_setRtt := by decide +kernel
  have f_10 := hts (.fieldLink RX1 10 "NetworkCoordinates" "now" "LNetworkCoordinates$State;") (by decide +kernel)
  have k_24 := hts (.constant RX1 24 (-1000002)) (by decide +kernel)
  have b0 := hg.1
  have hPs : va_P (dC, dI) vwCl (stw cI a g) s.heap := va_P_left hP
  have s0 := sPf_rng g u v
  refine lv_aload_n hx hb dX1_setRtt_0 rfl (lv_at hl 0 rfl) ?_
  refine lv_iload_n hx hb dX1_setRtt_1 rfl (lv_at hl 1 rfl) ?_
  refine lv_iload_n hx hb dX1_setRtt_2 rfl (lv_at hl 2 rfl) ?_
  refine rd_callV (As := [.int (zI u), .int (zI v)]) (rest := []) ⟨hx, hb, hml, hown, hts⟩ (c_X1_pairFault l dC dI cI cZ cS a h hs g r hg u (by omega) v (by omega)) (cwV 2 hts gX1_setRtt_X1_pairFault rfl rfl rfl (by decide +kernel) ⟨Nat.le_of_ble_eq_true rfl, Nat.le_of_ble_eq_true rfl⟩) hP hK 7 rfl rfl rfl hl.1 rfl (Nat.le_of_ble_eq_true rfl) dX1_setRtt_3 ⟨Nat.zero_le _, Nat.zero_le _⟩ ?_
  refine lv_istore (lv' := [(4, .int (zI (sPf g u v))), (0, .ref h), (1, .int (zI u)), (2, .int (zI v)), (3, .int (zI z))]) hx hb dX1_setRtt_6 hl (by decide) rfl (fun ls hl => ?_)
  refine lv_iload hx hb dX1_setRtt_8 (lv_at hl 0 rfl) ?_
  refine zr_if_eq (tgt := 16) hx hb dX1_setRtt_10 (by decide) (by omega) (fun c_10 => ?_) (fun c_10 => ?_)
  · obtain ⟨A, B, rfl, rfl, hA2, hB2, hA, hB, hAB, eA, eB⟩ := z_nodes hg c_10
    have kAB := hg.2.2 A B hA hB
    refine lv_iload_n hx hb dX1_setRtt_16 rfl (lv_at hl 4 rfl) ?_
    refine zr_iconst hx hb dX1_setRtt_17 ?_
    refine zr_sipush hx hb dX1_setRtt_18 (by decide) ?_
    refine rd_callS (As := [.int (zI z), .int (zI 0), .int (zI 20000)]) (rest := []) ⟨hx, hb, hml, hown, hts⟩ (c_X1_isWithin l dC dI cI cZ cS z 0 20000 (by omega) (by omega) (by omega)) (va_cwS 3 hts gX1_setRtt_X1_isWithin rfl rfl rfl (by decide +kernel) ⟨Nat.le_of_ble_eq_true rfl, Nat.le_of_ble_eq_true rfl⟩) va_P_nil hK rfl hl.1 rfl (Nat.le_of_ble_eq_true rfl) dX1_setRtt_21 ⟨Nat.zero_le _, Nat.zero_le _⟩ ?_
    refine zr_bif_ne (tgt := 30) hx hb dX1_setRtt_24 (by decide) (fun c_24 => ?_) (fun c_24 => ?_)
    · refine lv_aload_n hx hb dX1_setRtt_30 rfl (lv_at hl 1 rfl) ?_
      refine va_get (D := (dC, dI)) (ci := 1) (v := .ref (a 0)) (C := RX1) (T := TX1) (N := 2) hx hb hts hinX1 hown hK.1 hP 7 rfl rfl 0 (by decide) f_10 (fun _ h9 => h9) rfl dX1_setRtt_31 ?_
      refine lv_iload_n hx hb dX1_setRtt_34 rfl (lv_at hl 2 rfl) ?_
      refine lv_iload_n hx hb dX1_setRtt_35 rfl (lv_at hl 3 rfl) ?_
      refine rd_callV (As := [.int (zI (A : Int)), .int (zI (B : Int))]) (rest := []) ⟨hx, hb, hml, hown, hts⟩ (c_X0_rttOf l dC dI cI cZ cS a g r hg A B (by omega) (by omega)) (cwV 2 hts gX1_setRtt_X0_rttOf rfl rfl rfl (by decide +kernel) ⟨Nat.le_of_ble_eq_true rfl, Nat.le_of_ble_eq_true rfl⟩) hPs hK 0 rfl rfl rfl hl.1 rfl (Nat.le_of_ble_eq_true rfl) dX1_setRtt_36 ⟨Nat.zero_le _, Nat.zero_le _⟩ ?_
      refine lv_istore (lv' := [(5, .int (zI (g 6 (10 * A + B)))), (4, .int (zI (sPf g (A : Int) (B : Int)))), (0, .ref h), (1, .int (zI (A : Int))), (2, .int (zI (B : Int))), (3, .int (zI z))]) hx hb dX1_setRtt_39 hl (by decide) rfl (fun ls hl => ?_)
      refine lv_aload_n hx hb dX1_setRtt_41 rfl (lv_at hl 2 rfl) ?_
      refine va_get (D := (dC, dI)) (ci := 1) (v := .ref (a 0)) (C := RX1) (T := TX1) (N := 2) hx hb hts hinX1 hown hK.1 hP 7 rfl rfl 0 (by decide) f_10 (fun _ h9 => h9) rfl dX1_setRtt_42 ?_
      refine lv_iload_n hx hb dX1_setRtt_45 rfl (lv_at hl 3 rfl) ?_
      refine lv_iload_n hx hb dX1_setRtt_46 rfl (lv_at hl 4 rfl) ?_
      refine lv_iload_n hx hb dX1_setRtt_47 rfl (lv_at hl 5 rfl) ?_
      refine wr_callV (As := [.int (zI (A : Int)), .int (zI (B : Int)), .int (zI z)]) (rest := []) ⟨hx, hb, hml, hown, hts⟩ (c_X0_keepRtt l dC dI cI cZ cS a g A B z (by omega) (by omega)) (cwV 3 hts gX1_setRtt_X0_keepRtt rfl rfl rfl (by decide +kernel) ⟨Nat.le_of_ble_eq_true rfl, Nat.le_of_ble_eq_true rfl⟩) hPs (va_D_left hD) hS hK 0 rfl rfl rfl hl.1 rfl (Nat.le_of_ble_eq_true rfl) dX1_setRtt_48 ⟨Nat.zero_le _, Nat.zero_le _⟩ (fun H locs hP1 hk1 hS => ?_)
      have hP : va_P (dC, dI) vwCl (stw cI a (gset (gset g 6 (10 * A + B) z) 6 (10 * B + A) z) ++ mnw a h hs) H := wr_tail hP hD hP1 hk1
      have hD : va_D (wr_ad (stw cI a g ++ mnw a h hs)) (stw cI a (gset (gset g 6 (10 * A + B) z) 6 (10 * B + A) z) ++ mnw a h hs) := va_D_adr hD rfl
      have hPs : va_P (dC, dI) vwCl (stw cI a (gset (gset g 6 (10 * A + B) z) 6 (10 * B + A) z)) H := va_P_left hP
      refine lv_iload hx hb dX1_setRtt_51 (lv_at hl 0 rfl) ?_
      exact wr_iret hx hb hr hlocks (show va_P (dC, dI) vwCl (stw cI a (nSetRtt g (A : Int) (B : Int) z) ++ mnw a h hs) _ by rw [show nSetRtt g (A : Int) (B : Int) z = gset (gset g 6 (10 * A + B) z) 6 (10 * B + A) z from (if_pos ⟨c_10, c_24⟩).trans (by rw [eA, eB])]; exact hP) hS (by unfold aSetRtt; rw [if_pos c_10, if_pos c_24, eA, eB]) dX1_setRtt_53
    · refine zr_ldc hx hb (-1000002) hown k_24 (by decide) dX1_setRtt_27 ?_
      exact wr_iret hx hb hr hlocks (show va_P (dC, dI) vwCl (stw cI a (nSetRtt g (A : Int) (B : Int) z) ++ mnw a h hs) _ by rw [show nSetRtt g (A : Int) (B : Int) z = g from if_neg (fun q => c_24 q.2)]; exact hP) hS (by unfold aSetRtt; rw [if_pos c_10, if_neg c_24]) dX1_setRtt_29
  · refine lv_iload hx hb dX1_setRtt_13 (lv_at hl 0 rfl) ?_
    exact wr_iret hx hb hr hlocks (show va_P (dC, dI) vwCl (stw cI a (nSetRtt g u v z) ++ mnw a h hs) _ by rw [show nSetRtt g u v z = g from if_neg (fun q => c_10 q.1)]; exact hP) hS (by unfold aSetRtt; rw [if_neg c_10]) dX1_setRtt_15
set_option maxHeartbeats 4000000 in
set_option maxRecDepth 100000 in
/-- setLie -/
theorem c_X1_setLie (l : Launch) (dC : Nat → ClassId) (dI : Nat → Nat → Nat) (cI cZ cS : ClassId) (a : Nat → Nat) (h hs : Nat) (g : Nat → Nat → Int) (r : Int) (hg : gB g r) (u : Int) (hu : -2147483648 ≤ u ∧ u ≤ 2147483647) (z : Int) (hz : -2147483648 ≤ z ∧ z ≤ 2147483647) : Met l yX1_setLie wsX1_setLie ({ frames := 2, cells := 0, slots := 0, locals := 43 } : Room) (wr_Pc dC dI cI cZ cS (stw cI a g ++ mnw a h hs) [.ref h, .int (zI u), .int (zI z)]) (wr_Qc dC dI (stw cI a g ++ mnw a h hs) (stw cI a (nSetLie g u z) ++ mnw a h hs) (some (.int (zI (aSetLie g u z))))) 0 0 (wr_ad (stw cI a g ++ mnw a h hs)) := by
  refine wr_met (cc := cX1_setLie) (maxL := 4) (ret := (some .int)) (by decide) rfl (Nat.le_of_ble_eq_true rfl) ?_
  intro p e s m below meth c ls hx hb hml hr hlocks hts hown hP hD hS hK hl
  have hl : lv_has ls 4 [(0, .ref h), (1, .int (zI u)), (2, .int (zI z))] := hl
  have hinX0 : ∀ w ∈ u_ws RX0 TX0 11, w ∈ wsX1_setLie := by decide +kernel
  have hinX1 : ∀ w ∈ u_ws RX1 TX1 2, w ∈ wsX1_setLie := by decide +kernel
  have f_10 := hts (.fieldLink RX1 10 "NetworkCoordinates" "now" "LNetworkCoordinates$State;") (by decide +kernel)
  have k_24 := hts (.constant RX1 24 (-1000002)) (by decide +kernel)
  have k_51 := hts (.constant RX1 51 (-1000001)) (by decide +kernel)
  have b0 := hg.1
  have hPs : va_P (dC, dI) vwCl (stw cI a g) s.heap := va_P_left hP
  refine lv_aload_n hx hb dX1_setLie_0 rfl (lv_at hl 0 rfl) ?_
  refine lv_iload_n hx hb dX1_setLie_1 rfl (lv_at hl 1 rfl) ?_
  refine rd_callV (As := [.int (zI u)]) (rest := []) ⟨hx, hb, hml, hown, hts⟩ (c_X1_isNode l dC dI cI cZ cS a h hs g r hg u (by omega)) (cwV 1 hts gX1_setLie_X1_isNode rfl rfl rfl (by decide +kernel) ⟨Nat.le_of_ble_eq_true rfl, Nat.le_of_ble_eq_true rfl⟩) hP hK 7 rfl rfl rfl hl.1 rfl (Nat.le_of_ble_eq_true rfl) dX1_setLie_2 ⟨Nat.zero_le _, Nat.zero_le _⟩ ?_
  refine zr_bif_ne (tgt := 11) hx hb dX1_setLie_5 (by decide) (fun c_5 => ?_) (fun c_5 => ?_)
  · refine lv_iload_n hx hb dX1_setLie_11 rfl (lv_at hl 2 rfl) ?_
    refine zr_iconst hx hb dX1_setLie_12 ?_
    refine zr_sipush hx hb dX1_setLie_13 (by decide) ?_
    refine rd_callS (As := [.int (zI z), .int (zI 0), .int (zI 20000)]) (rest := []) ⟨hx, hb, hml, hown, hts⟩ (c_X1_isWithin l dC dI cI cZ cS z 0 20000 (by omega) (by omega) (by omega)) (va_cwS 3 hts gX1_setLie_X1_isWithin rfl rfl rfl (by decide +kernel) ⟨Nat.le_of_ble_eq_true rfl, Nat.le_of_ble_eq_true rfl⟩) va_P_nil hK rfl hl.1 rfl (Nat.le_of_ble_eq_true rfl) dX1_setLie_16 ⟨Nat.zero_le _, Nat.zero_le _⟩ ?_
    refine zr_bif_ne (tgt := 25) hx hb dX1_setLie_19 (by decide) (fun c_19 => ?_) (fun c_19 => ?_)
    · obtain ⟨A, rfl⟩ : ∃ A : Nat, u = (A : Int) := ⟨u.toNat, by omega⟩
      have eA : ((A : Nat) : Int).toNat = A := by omega
      have hA : A < 10 := by omega
      refine lv_aload_n hx hb dX1_setLie_25 rfl (lv_at hl 0 rfl) ?_
      refine va_get (D := (dC, dI)) (ci := 1) (v := .ref (a 0)) (C := RX1) (T := TX1) (N := 2) hx hb hts hinX1 hown hK.1 hP 7 rfl rfl 0 (by decide) f_10 (fun _ h9 => h9) rfl dX1_setLie_26 ?_
      refine va_getN (D := (dC, dI)) (ci := 0) (v := .ref (a 5)) (C := RX0) (T := TX0) (N := 11) hx hb hts hinX0 hown hK.1 hP 0 rfl rfl 9 (by decide) (hK.nw 9 rfl) (fun _ h9 => h9) rfl dX1_setLie_29 ?_
      refine lv_iload_n hx hb dX1_setLie_32 rfl (lv_at hl 1 rfl) ?_
      refine zr_iald hx hb hK.1 hP 5 0 rfl rfl A (g 5 A) (by omega) (by omega) (Nat.le_of_ble_eq_true rfl) rfl dX1_setLie_33 ?_
      refine lv_istore_n (lv' := [(3, .int (zI (g 5 A))), (0, .ref h), (1, .int (zI (A : Int))), (2, .int (zI z))]) hx hb dX1_setLie_34 rfl hl (by decide) rfl (fun ls hl => ?_)
      refine lv_aload_n hx hb dX1_setLie_35 rfl (lv_at hl 1 rfl) ?_
      refine va_get (D := (dC, dI)) (ci := 1) (v := .ref (a 0)) (C := RX1) (T := TX1) (N := 2) hx hb hts hinX1 hown hK.1 hP 7 rfl rfl 0 (by decide) f_10 (fun _ h9 => h9) rfl dX1_setLie_36 ?_
      refine va_getN (D := (dC, dI)) (ci := 0) (v := .ref (a 5)) (C := RX0) (T := TX0) (N := 11) hx hb hts hinX0 hown hK.1 hP 0 rfl rfl 9 (by decide) (hK.nw 9 rfl) (fun _ h9 => h9) rfl dX1_setLie_39 ?_
      refine lv_iload_n hx hb dX1_setLie_42 rfl (lv_at hl 2 rfl) ?_
      refine lv_iload_n hx hb dX1_setLie_43 rfl (lv_at hl 3 rfl) ?_
      refine zr_iast hx hb hK.1 hP hD hS 5 0 rfl rfl A (zset (g 5) A z) (by omega) (by omega) (Nat.le_of_ble_eq_true rfl) rfl dX1_setLie_44 (fun H locs hP hD hS => ?_)
      refine lv_iload_n hx hb dX1_setLie_45 rfl (lv_at hl 0 rfl) ?_
      exact wr_iret hx hb hr hlocks (show va_P (dC, dI) vwCl (stw cI a (nSetLie g (A : Int) z) ++ mnw a h hs) _ by rw [show nSetLie g (A : Int) z = gset g 5 A z from (if_pos ⟨c_5, c_19⟩).trans (by rw [eA])]; exact hP) hS (by unfold aSetLie; rw [if_pos c_5, if_pos c_19, eA]) dX1_setLie_46
    · refine zr_ldc hx hb (-1000002) hown k_24 (by decide) dX1_setLie_22 ?_
      exact wr_iret hx hb hr hlocks (show va_P (dC, dI) vwCl (stw cI a (nSetLie g u z) ++ mnw a h hs) _ by rw [show nSetLie g u z = g from if_neg (fun q => c_19 q.2)]; exact hP) hS (by unfold aSetLie; rw [if_pos c_5, if_neg c_19]) dX1_setLie_24
  · refine zr_ldc hx hb (-1000001) hown k_51 (by decide) dX1_setLie_8 ?_
    exact wr_iret hx hb hr hlocks (show va_P (dC, dI) vwCl (stw cI a (nSetLie g u z) ++ mnw a h hs) _ by rw [show nSetLie g u z = g from if_neg (fun q => c_5 q.1)]; exact hP) hS (by unfold aSetLie; rw [if_neg c_5]) dX1_setLie_10
set_option maxHeartbeats 4000000 in
set_option maxRecDepth 100000 in
/-- setGains -/
theorem c_X1_setGains (l : Launch) (dC : Nat → ClassId) (dI : Nat → Nat → Nat) (cI cZ cS : ClassId) (a : Nat → Nat) (h hs : Nat) (g : Nat → Nat → Int) (r : Int) (hg : gB g r) (u : Int) (hu : -2147483648 ≤ u ∧ u ≤ 2147483647) (v : Int) (hv : -2147483648 ≤ v ∧ v ≤ 2147483647) : Met l yX1_setGains wsX1_setGains ({ frames := 1, cells := 0, slots := 0, locals := 22 } : Room) (wr_Pc dC dI cI cZ cS (stw cI a g ++ mnw a h hs) [.ref h, .int (zI u), .int (zI v)]) (wr_Qc dC dI (stw cI a g ++ mnw a h hs) (stw cI a (nSetGains g u v) ++ mnw a h hs) (some (.int (zI (aSetGains g u v))))) 0 0 (wr_ad (stw cI a g ++ mnw a h hs)) := by
  refine wr_met (cc := cX1_setGains) (maxL := 4) (ret := (some .int)) (by decide) rfl (Nat.le_of_ble_eq_true rfl) ?_
  intro p e s m below meth c ls hx hb hml hr hlocks hts hown hP hD hS hK hl
  have hl : lv_has ls 4 [(0, .ref h), (1, .int (zI u)), (2, .int (zI v))] := hl
  have hinX0 : ∀ w ∈ u_ws RX0 TX0 11, w ∈ wsX1_setGains := by decide +kernel
  have hinX1 : ∀ w ∈ u_ws RX1 TX1 2, w ∈ wsX1_setGains := by decide +kernel
  have k_24 := hts (.constant RX1 24 (-1000002)) (by decide +kernel)
  have f_10 := hts (.fieldLink RX1 10 "NetworkCoordinates" "now" "LNetworkCoordinates$State;") (by decide +kernel)
  have b0 := hg.1
  have hPs : va_P (dC, dI) vwCl (stw cI a g) s.heap := va_P_left hP
  refine lv_iload_n hx hb dX1_setGains_0 rfl (lv_at hl 1 rfl) ?_
  refine zr_iconst hx hb dX1_setGains_1 ?_
  refine zr_sipush hx hb dX1_setGains_2 (by decide) ?_
  refine rd_callS (As := [.int (zI u), .int (zI 1), .int (zI 1000)]) (rest := []) ⟨hx, hb, hml, hown, hts⟩ (c_X1_isWithin l dC dI cI cZ cS u 1 1000 (by omega) (by omega) (by omega)) (va_cwS 3 hts gX1_setGains_X1_isWithin rfl rfl rfl (by decide +kernel) ⟨Nat.le_of_ble_eq_true rfl, Nat.le_of_ble_eq_true rfl⟩) va_P_nil hK rfl hl.1 rfl (Nat.le_of_ble_eq_true rfl) dX1_setGains_5 ⟨Nat.zero_le _, Nat.zero_le _⟩ ?_
  refine zr_bif_eq (tgt := 22) hx hb dX1_setGains_8 (by decide) (fun c_8 => ?_) (fun c_8 => ?_)
  · refine zr_ldc hx hb (-1000002) hown k_24 (by decide) dX1_setGains_22 ?_
    exact wr_iret hx hb hr hlocks (show va_P (dC, dI) vwCl (stw cI a (nSetGains g u v) ++ mnw a h hs) _ by rw [show nSetGains g u v = g from if_neg (by omega)]; exact hP) hS (by unfold aSetGains; rw [if_neg (by omega)]) dX1_setGains_24
  · refine lv_iload_n hx hb dX1_setGains_11 rfl (lv_at hl 2 rfl) ?_
    refine zr_iconst hx hb dX1_setGains_12 ?_
    refine zr_sipush hx hb dX1_setGains_13 (by decide) ?_
    refine rd_callS (As := [.int (zI v), .int (zI 1), .int (zI 1000)]) (rest := []) ⟨hx, hb, hml, hown, hts⟩ (c_X1_isWithin l dC dI cI cZ cS v 1 1000 (by omega) (by omega) (by omega)) (va_cwS 3 hts gX1_setGains_X1_isWithin rfl rfl rfl (by decide +kernel) ⟨Nat.le_of_ble_eq_true rfl, Nat.le_of_ble_eq_true rfl⟩) va_P_nil hK rfl hl.1 rfl (Nat.le_of_ble_eq_true rfl) dX1_setGains_16 ⟨Nat.zero_le _, Nat.zero_le _⟩ ?_
    refine zr_bif_ne (tgt := 25) hx hb dX1_setGains_19 (by decide) (fun c_19 => ?_) (fun c_19 => ?_)
    · refine zr_sipush hx hb dX1_setGains_25 (by decide) ?_
      refine lv_aload_n hx hb dX1_setGains_28 rfl (lv_at hl 0 rfl) ?_
      refine va_get (D := (dC, dI)) (ci := 1) (v := .ref (a 0)) (C := RX1) (T := TX1) (N := 2) hx hb hts hinX1 hown hK.1 hP 7 rfl rfl 0 (by decide) f_10 (fun _ h9 => h9) rfl dX1_setGains_29 ?_
      refine va_getN (D := (dC, dI)) (ci := 0) (v := .int (zI (g 0 2))) (C := RX0) (T := TX0) (N := 11) hx hb hts hinX0 hown hK.1 hP 0 rfl rfl 2 (by decide) (hK.nw 2 rfl) (fun _ h9 => h9) rfl dX1_setGains_32 ?_
      refine zr_imul hx hb dX1_setGains_35 ?_
      refine lv_aload_n hx hb dX1_setGains_36 rfl (lv_at hl 0 rfl) ?_
      refine va_get (D := (dC, dI)) (ci := 1) (v := .ref (a 0)) (C := RX1) (T := TX1) (N := 2) hx hb hts hinX1 hown hK.1 hP 7 rfl rfl 0 (by decide) f_10 (fun _ h9 => h9) rfl dX1_setGains_37 ?_
      refine va_getN (D := (dC, dI)) (ci := 0) (v := .int (zI (g 0 3))) (C := RX0) (T := TX0) (N := 11) hx hb hts hinX0 hown hK.1 hP 0 rfl rfl 3 (by decide) (hK.nw 3 rfl) (fun _ h9 => h9) rfl dX1_setGains_40 ?_
      refine zr_iadd hx hb dX1_setGains_43 ?_
      refine lv_istore_n (lv' := [(3, .int (zI ((10000 * g 0 2) + g 0 3))), (0, .ref h), (1, .int (zI u)), (2, .int (zI v))]) hx hb dX1_setGains_44 rfl hl (by decide) rfl (fun ls hl => ?_)
      refine lv_aload_n hx hb dX1_setGains_45 rfl (lv_at hl 1 rfl) ?_
      refine va_get (D := (dC, dI)) (ci := 1) (v := .ref (a 0)) (C := RX1) (T := TX1) (N := 2) hx hb hts hinX1 hown hK.1 hP 7 rfl rfl 0 (by decide) f_10 (fun _ h9 => h9) rfl dX1_setGains_46 ?_
      refine lv_iload_n hx hb dX1_setGains_49 rfl (lv_at hl 2 rfl) ?_
      refine va_putN (D := (dC, dI)) (ci := 0) (v := .int (zI u)) (ty := .int) (C := RX0) (T := TX0) (N := 11) hx hb hts hinX0 tyX0 tyX0_ok nmX0 hown hK.1 hP hD hS 0 rfl rfl 2 (by decide) (hK.nw 2 rfl) (fun _ h9 => h9) rfl (by decide +kernel) rfl rfl (Nat.le_of_ble_eq_true rfl) dX1_setGains_50 (fun H locs hP hD hS => ?_)
      refine lv_aload_n hx hb dX1_setGains_53 rfl (lv_at hl 1 rfl) ?_
      refine va_get (D := (dC, dI)) (ci := 1) (v := .ref (a 0)) (C := RX1) (T := TX1) (N := 2) hx hb hts hinX1 hown hK.1 hP 7 rfl rfl 0 (by decide) f_10 (fun _ h9 => h9) rfl dX1_setGains_54 ?_
      refine lv_iload_n hx hb dX1_setGains_57 rfl (lv_at hl 3 rfl) ?_
      refine va_putN (D := (dC, dI)) (ci := 0) (v := .int (zI v)) (ty := .int) (C := RX0) (T := TX0) (N := 11) hx hb hts hinX0 tyX0 tyX0_ok nmX0 hown hK.1 hP hD hS 0 rfl rfl 3 (by decide) (hK.nw 3 rfl) (fun _ h9 => h9) rfl (by decide +kernel) rfl rfl (Nat.le_of_ble_eq_true rfl) dX1_setGains_58 (fun H locs hP hD hS => ?_)
      refine lv_iload_n hx hb dX1_setGains_61 rfl (lv_at hl 0 rfl) ?_
      exact wr_iret hx hb hr hlocks (show va_P (dC, dI) vwCl (stw cI a (nSetGains g u v) ++ mnw a h hs) _ by rw [show nSetGains g u v = gset (gset g 0 2 u) 0 3 v from if_pos (by omega)]; exact hP) hS (by unfold aSetGains; rw [if_pos (by omega)]) dX1_setGains_62
    · refine zr_ldc hx hb (-1000002) hown k_24 (by decide) dX1_setGains_22 ?_
      exact wr_iret hx hb hr hlocks (show va_P (dC, dI) vwCl (stw cI a (nSetGains g u v) ++ mnw a h hs) _ by rw [show nSetGains g u v = g from if_neg (by omega)]; exact hP) hS (by unfold aSetGains; rw [if_neg (by omega)]) dX1_setGains_24
set_option maxHeartbeats 4000000 in
set_option maxRecDepth 100000 in
/-- setMaxStep -/
theorem c_X1_setMaxStep (l : Launch) (dC : Nat → ClassId) (dI : Nat → Nat → Nat) (cI cZ cS : ClassId) (a : Nat → Nat) (h hs : Nat) (g : Nat → Nat → Int) (r : Int) (hg : gB g r) (u : Int) (hu : -2147483648 ≤ u ∧ u ≤ 2147483647) : Met l yX1_setMaxStep wsX1_setMaxStep ({ frames := 1, cells := 0, slots := 0, locals := 22 } : Room) (wr_Pc dC dI cI cZ cS (stw cI a g ++ mnw a h hs) [.ref h, .int (zI u)]) (wr_Qc dC dI (stw cI a g ++ mnw a h hs) (stw cI a (nSetMaxStep g u) ++ mnw a h hs) (some (.int (zI (aSetMaxStep g u))))) 0 0 (wr_ad (stw cI a g ++ mnw a h hs)) := by
  refine wr_met (cc := cX1_setMaxStep) (maxL := 3) (ret := (some .int)) (by decide) rfl (Nat.le_of_ble_eq_true rfl) ?_
  intro p e s m below meth c ls hx hb hml hr hlocks hts hown hP hD hS hK hl
  have hl : lv_has ls 3 [(0, .ref h), (1, .int (zI u))] := hl
  have hinX0 : ∀ w ∈ u_ws RX0 TX0 11, w ∈ wsX1_setMaxStep := by decide +kernel
  have hinX1 : ∀ w ∈ u_ws RX1 TX1 2, w ∈ wsX1_setMaxStep := by decide +kernel
  have f_10 := hts (.fieldLink RX1 10 "NetworkCoordinates" "now" "LNetworkCoordinates$State;") (by decide +kernel)
  have k_24 := hts (.constant RX1 24 (-1000002)) (by decide +kernel)
  have b0 := hg.1
  have hPs : va_P (dC, dI) vwCl (stw cI a g) s.heap := va_P_left hP
  refine lv_iload_n hx hb dX1_setMaxStep_0 rfl (lv_at hl 1 rfl) ?_
  refine zr_iconst hx hb dX1_setMaxStep_1 ?_
  refine zr_sipush hx hb dX1_setMaxStep_2 (by decide) ?_
  refine rd_callS (As := [.int (zI u), .int (zI 1), .int (zI 20000)]) (rest := []) ⟨hx, hb, hml, hown, hts⟩ (c_X1_isWithin l dC dI cI cZ cS u 1 20000 (by omega) (by omega) (by omega)) (va_cwS 3 hts gX1_setMaxStep_X1_isWithin rfl rfl rfl (by decide +kernel) ⟨Nat.le_of_ble_eq_true rfl, Nat.le_of_ble_eq_true rfl⟩) va_P_nil hK rfl hl.1 rfl (Nat.le_of_ble_eq_true rfl) dX1_setMaxStep_5 ⟨Nat.zero_le _, Nat.zero_le _⟩ ?_
  refine zr_bif_ne (tgt := 14) hx hb dX1_setMaxStep_8 (by decide) (fun c_8 => ?_) (fun c_8 => ?_)
  · refine lv_aload_n hx hb dX1_setMaxStep_14 rfl (lv_at hl 0 rfl) ?_
    refine va_get (D := (dC, dI)) (ci := 1) (v := .ref (a 0)) (C := RX1) (T := TX1) (N := 2) hx hb hts hinX1 hown hK.1 hP 7 rfl rfl 0 (by decide) f_10 (fun _ h9 => h9) rfl dX1_setMaxStep_15 ?_
    refine va_getN (D := (dC, dI)) (ci := 0) (v := .int (zI (g 0 4))) (C := RX0) (T := TX0) (N := 11) hx hb hts hinX0 hown hK.1 hP 0 rfl rfl 4 (by decide) (hK.nw 4 rfl) (fun _ h9 => h9) rfl dX1_setMaxStep_18 ?_
    refine lv_istore_n (lv' := [(2, .int (zI (g 0 4))), (0, .ref h), (1, .int (zI u))]) hx hb dX1_setMaxStep_21 rfl hl (by decide) rfl (fun ls hl => ?_)
    refine lv_aload_n hx hb dX1_setMaxStep_22 rfl (lv_at hl 1 rfl) ?_
    refine va_get (D := (dC, dI)) (ci := 1) (v := .ref (a 0)) (C := RX1) (T := TX1) (N := 2) hx hb hts hinX1 hown hK.1 hP 7 rfl rfl 0 (by decide) f_10 (fun _ h9 => h9) rfl dX1_setMaxStep_23 ?_
    refine lv_iload_n hx hb dX1_setMaxStep_26 rfl (lv_at hl 2 rfl) ?_
    refine va_putN (D := (dC, dI)) (ci := 0) (v := .int (zI u)) (ty := .int) (C := RX0) (T := TX0) (N := 11) hx hb hts hinX0 tyX0 tyX0_ok nmX0 hown hK.1 hP hD hS 0 rfl rfl 4 (by decide) (hK.nw 4 rfl) (fun _ h9 => h9) rfl (by decide +kernel) rfl rfl (Nat.le_of_ble_eq_true rfl) dX1_setMaxStep_27 (fun H locs hP hD hS => ?_)
    refine lv_iload_n hx hb dX1_setMaxStep_30 rfl (lv_at hl 0 rfl) ?_
    exact wr_iret hx hb hr hlocks (show va_P (dC, dI) vwCl (stw cI a (nSetMaxStep g u) ++ mnw a h hs) _ by rw [show nSetMaxStep g u = gset g 0 4 u from if_pos c_8]; exact hP) hS (by unfold aSetMaxStep; rw [if_pos c_8]) dX1_setMaxStep_31
  · refine zr_ldc hx hb (-1000002) hown k_24 (by decide) dX1_setMaxStep_11 ?_
    exact wr_iret hx hb hr hlocks (show va_P (dC, dI) vwCl (stw cI a (nSetMaxStep g u) ++ mnw a h hs) _ by rw [show nSetMaxStep g u = g from if_neg c_8]; exact hP) hS (by unfold aSetMaxStep; rw [if_neg c_8]) dX1_setMaxStep_13
set_option maxHeartbeats 4000000 in
set_option maxRecDepth 100000 in
/-- place -/
theorem c_X1_place (l : Launch) (dC : Nat → ClassId) (dI : Nat → Nat → Nat) (cI cZ cS : ClassId) (a : Nat → Nat) (h hs : Nat) (g : Nat → Nat → Int) (r : Int) (hg : gB g r) (u : Int) (hu : -2147483648 ≤ u ∧ u ≤ 2147483647) (x1 : Int) (hx1 : -2147483648 ≤ x1 ∧ x1 ≤ 2147483647) (y1 : Int) (hy1 : -2147483648 ≤ y1 ∧ y1 ≤ 2147483647) (z : Int) (hz : -2147483648 ≤ z ∧ z ≤ 2147483647) : Met l yX1_place wsX1_place ({ frames := 2, cells := 0, slots := 0, locals := 43 } : Room) (wr_Pc dC dI cI cZ cS (stw cI a g ++ mnw a h hs) [.ref h, .int (zI u), .int (zI x1), .int (zI y1), .int (zI z)]) (wr_Qc dC dI (stw cI a g ++ mnw a h hs) (stw cI a (nPlace g u x1 y1 z) ++ mnw a h hs) (some (.int (zI (aPlace g u x1 y1 z))))) 0 0 (wr_ad (stw cI a g ++ mnw a h hs)) := by
  refine wr_met (cc := cX1_place) (maxL := 6) (ret := (some .int)) (by decide) rfl (Nat.le_of_ble_eq_true rfl) ?_
  intro p e s m below meth c ls hx hb hml hr hlocks hts hown hP hD hS hK hl
  have hl : lv_has ls 6 [(0, .ref h), (1, .int (zI u)), (2, .int (zI x1)), (3, .int (zI y1)), (4, .int (zI z))] := hl
  have hinX0 : ∀ w ∈ u_ws RX0 TX0 11, w ∈ wsX1_place := by decide +kernel
  have hinX1 : ∀ w ∈ u_ws RX1 TX1 2, w ∈ wsX1_place := by decide +kernel
  have k_65 := hts (.constant RX1 65 (-100000)) (by decide +kernel)
  have k_66 := hts (.constant RX1 66 (100000)) (by decide +kernel)
  have k_24 := hts (.constant RX1 24 (-1000002)) (by decide +kernel)
  have f_10 := hts (.fieldLink RX1 10 "NetworkCoordinates" "now" "LNetworkCoordinates$State;") (by decide +kernel)
  have k_51 := hts (.constant RX1 51 (-1000001)) (by decide +kernel)
  have b0 := hg.1
  have hPs : va_P (dC, dI) vwCl (stw cI a g) s.heap := va_P_left hP
  refine lv_aload_n hx hb dX1_place_0 rfl (lv_at hl 0 rfl) ?_
  refine lv_iload_n hx hb dX1_place_1 rfl (lv_at hl 1 rfl) ?_
  refine rd_callV (As := [.int (zI u)]) (rest := []) ⟨hx, hb, hml, hown, hts⟩ (c_X1_isNode l dC dI cI cZ cS a h hs g r hg u (by omega)) (cwV 1 hts gX1_place_X1_isNode rfl rfl rfl (by decide +kernel) ⟨Nat.le_of_ble_eq_true rfl, Nat.le_of_ble_eq_true rfl⟩) hP hK 7 rfl rfl rfl hl.1 rfl (Nat.le_of_ble_eq_true rfl) dX1_place_2 ⟨Nat.zero_le _, Nat.zero_le _⟩ ?_
  refine zr_bif_ne (tgt := 11) hx hb dX1_place_5 (by decide) (fun c_5 => ?_) (fun c_5 => ?_)
  · refine lv_iload_n hx hb dX1_place_11 rfl (lv_at hl 2 rfl) ?_
    refine zr_ldc hx hb (-100000) hown k_65 (by decide) dX1_place_12 ?_
    refine zr_ldc hx hb (100000) hown k_66 (by decide) dX1_place_14 ?_
    refine rd_callS (As := [.int (zI x1), .int (zI (-100000)), .int (zI 100000)]) (rest := []) ⟨hx, hb, hml, hown, hts⟩ (c_X1_isWithin l dC dI cI cZ cS x1 (-100000) 100000 (by omega) (by omega) (by omega)) (va_cwS 3 hts gX1_place_X1_isWithin rfl rfl rfl (by decide +kernel) ⟨Nat.le_of_ble_eq_true rfl, Nat.le_of_ble_eq_true rfl⟩) va_P_nil hK rfl hl.1 rfl (Nat.le_of_ble_eq_true rfl) dX1_place_16 ⟨Nat.zero_le _, Nat.zero_le _⟩ ?_
    refine zr_bif_eq (tgt := 44) hx hb dX1_place_19 (by decide) (fun c_19 => ?_) (fun c_19 => ?_)
    · refine zr_ldc hx hb (-1000002) hown k_24 (by decide) dX1_place_44 ?_
      exact wr_iret hx hb hr hlocks (show va_P (dC, dI) vwCl (stw cI a (nPlace g u x1 y1 z) ++ mnw a h hs) _ by rw [show nPlace g u x1 y1 z = g from if_neg (by omega)]; exact hP) hS (by unfold aPlace; rw [if_pos c_5, if_neg (by omega)]) dX1_place_46
    · refine lv_iload_n hx hb dX1_place_22 rfl (lv_at hl 3 rfl) ?_
      refine zr_ldc hx hb (-100000) hown k_65 (by decide) dX1_place_23 ?_
      refine zr_ldc hx hb (100000) hown k_66 (by decide) dX1_place_25 ?_
      refine rd_callS (As := [.int (zI y1), .int (zI (-100000)), .int (zI 100000)]) (rest := []) ⟨hx, hb, hml, hown, hts⟩ (c_X1_isWithin l dC dI cI cZ cS y1 (-100000) 100000 (by omega) (by omega) (by omega)) (va_cwS 3 hts gX1_place_X1_isWithin rfl rfl rfl (by decide +kernel) ⟨Nat.le_of_ble_eq_true rfl, Nat.le_of_ble_eq_true rfl⟩) va_P_nil hK rfl hl.1 rfl (Nat.le_of_ble_eq_true rfl) dX1_place_27 ⟨Nat.zero_le _, Nat.zero_le _⟩ ?_
      refine zr_bif_eq (tgt := 44) hx hb dX1_place_30 (by decide) (fun c_30 => ?_) (fun c_30 => ?_)
      · refine zr_ldc hx hb (-1000002) hown k_24 (by decide) dX1_place_44 ?_
        exact wr_iret hx hb hr hlocks (show va_P (dC, dI) vwCl (stw cI a (nPlace g u x1 y1 z) ++ mnw a h hs) _ by rw [show nPlace g u x1 y1 z = g from if_neg (by omega)]; exact hP) hS (by unfold aPlace; rw [if_pos c_5, if_neg (by omega)]) dX1_place_46
      · refine lv_iload hx hb dX1_place_33 (lv_at hl 4 rfl) ?_
        refine zr_iconst hx hb dX1_place_35 ?_
        refine zr_ldc hx hb (100000) hown k_66 (by decide) dX1_place_36 ?_
        refine rd_callS (As := [.int (zI z), .int (zI 0), .int (zI 100000)]) (rest := []) ⟨hx, hb, hml, hown, hts⟩ (c_X1_isWithin l dC dI cI cZ cS z 0 100000 (by omega) (by omega) (by omega)) (va_cwS 3 hts gX1_place_X1_isWithin rfl rfl rfl (by decide +kernel) ⟨Nat.le_of_ble_eq_true rfl, Nat.le_of_ble_eq_true rfl⟩) va_P_nil hK rfl hl.1 rfl (Nat.le_of_ble_eq_true rfl) dX1_place_38 ⟨Nat.zero_le _, Nat.zero_le _⟩ ?_
        refine zr_bif_ne (tgt := 47) hx hb dX1_place_41 (by decide) (fun c_41 => ?_) (fun c_41 => ?_)
        · obtain ⟨A, rfl⟩ : ∃ A : Nat, u = (A : Int) := ⟨u.toNat, by omega⟩
          have eA : ((A : Nat) : Int).toNat = A := by omega
          have hA : A < 10 := by omega
          refine lv_aload_n hx hb dX1_place_47 rfl (lv_at hl 0 rfl) ?_
          refine va_get (D := (dC, dI)) (ci := 1) (v := .ref (a 0)) (C := RX1) (T := TX1) (N := 2) hx hb hts hinX1 hown hK.1 hP 7 rfl rfl 0 (by decide) f_10 (fun _ h9 => h9) rfl dX1_place_48 ?_
          refine va_getN (D := (dC, dI)) (ci := 0) (v := .ref (a 4)) (C := RX0) (T := TX0) (N := 11) hx hb hts hinX0 hown hK.1 hP 0 rfl rfl 8 (by decide) (hK.nw 8 rfl) (fun _ h9 => h9) rfl dX1_place_51 ?_
          refine lv_iload_n hx hb dX1_place_54 rfl (lv_at hl 1 rfl) ?_
          refine zr_iald hx hb hK.1 hP 4 0 rfl rfl A (g 4 A) (by omega) (by omega) (Nat.le_of_ble_eq_true rfl) rfl dX1_place_55 ?_
          refine lv_istore (lv' := [(5, .int (zI (g 4 A))), (0, .ref h), (1, .int (zI (A : Int))), (2, .int (zI x1)), (3, .int (zI y1)), (4, .int (zI z))]) hx hb dX1_place_56 hl (by decide) rfl (fun ls hl => ?_)
          refine lv_aload_n hx hb dX1_place_58 rfl (lv_at hl 1 rfl) ?_
          refine va_get (D := (dC, dI)) (ci := 1) (v := .ref (a 0)) (C := RX1) (T := TX1) (N := 2) hx hb hts hinX1 hown hK.1 hP 7 rfl rfl 0 (by decide) f_10 (fun _ h9 => h9) rfl dX1_place_59 ?_
          refine lv_iload_n hx hb dX1_place_62 rfl (lv_at hl 2 rfl) ?_
          refine lv_iload_n hx hb dX1_place_63 rfl (lv_at hl 3 rfl) ?_
          refine lv_iload_n hx hb dX1_place_64 rfl (lv_at hl 4 rfl) ?_
          refine lv_iload hx hb dX1_place_65 (lv_at hl 5 rfl) ?_
          refine zr_sipush hx hb dX1_place_67 (by decide) ?_
          refine wr_callV (As := [.int (zI (A : Int)), .int (zI x1), .int (zI y1), .int (zI z), .int (zI 1000)]) (rest := []) ⟨hx, hb, hml, hown, hts⟩ (c_X0_settle l dC dI cI cZ cS a g A x1 y1 z 1000 (by omega)) (cwV 5 hts gX1_place_X0_settle rfl rfl rfl (by decide +kernel) ⟨Nat.le_of_ble_eq_true rfl, Nat.le_of_ble_eq_true rfl⟩) hPs (va_D_left hD) hS hK 0 rfl rfl rfl hl.1 rfl (Nat.le_of_ble_eq_true rfl) dX1_place_70 ⟨Nat.zero_le _, Nat.zero_le _⟩ (fun H locs hP1 hk1 hS => ?_)
          have hP : va_P (dC, dI) vwCl (stw cI a (sSet g A x1 y1 z 1000) ++ mnw a h hs) H := wr_tail hP hD hP1 hk1
          have hD : va_D (wr_ad (stw cI a g ++ mnw a h hs)) (stw cI a (sSet g A x1 y1 z 1000) ++ mnw a h hs) := va_D_adr hD rfl
          have hPs : va_P (dC, dI) vwCl (stw cI a (sSet g A x1 y1 z 1000)) H := va_P_left hP
          refine lv_iload hx hb dX1_place_73 (lv_at hl 0 rfl) ?_
          exact wr_iret hx hb hr hlocks (show va_P (dC, dI) vwCl (stw cI a (nPlace g (A : Int) x1 y1 z) ++ mnw a h hs) _ by rw [show nPlace g (A : Int) x1 y1 z = sSet g A x1 y1 z 1000 from (if_pos (by omega)).trans (by rw [eA])]; exact hP) hS (by unfold aPlace; rw [if_pos c_5, if_pos (by omega), eA]) dX1_place_75
        · refine zr_ldc hx hb (-1000002) hown k_24 (by decide) dX1_place_44 ?_
          exact wr_iret hx hb hr hlocks (show va_P (dC, dI) vwCl (stw cI a (nPlace g u x1 y1 z) ++ mnw a h hs) _ by rw [show nPlace g u x1 y1 z = g from if_neg (by omega)]; exact hP) hS (by unfold aPlace; rw [if_pos c_5, if_neg (by omega)]) dX1_place_46
  · refine zr_ldc hx hb (-1000001) hown k_51 (by decide) dX1_place_8 ?_
    exact wr_iret hx hb hr hlocks (show va_P (dC, dI) vwCl (stw cI a (nPlace g u x1 y1 z) ++ mnw a h hs) _ by rw [show nPlace g u x1 y1 z = g from if_neg (fun q => c_5 q.1)]; exact hP) hS (by unfold aPlace; rw [if_neg c_5]) dX1_place_10
set_option maxHeartbeats 4000000 in
set_option maxRecDepth 100000 in
/-- measure -/
theorem c_X1_measure (l : Launch) (dC : Nat → ClassId) (dI : Nat → Nat → Nat) (cI cZ cS : ClassId) (a : Nat → Nat) (h hs : Nat) (g : Nat → Nat → Int) (r : Int) (hg : gB g r) (u : Int) (hu : -2147483648 ≤ u ∧ u ≤ 2147483647) (v : Int) (hv : -2147483648 ≤ v ∧ v ≤ 2147483647) : Met l yX1_measure wsX1_measure ({ frames := 4, cells := 0, slots := 0, locals := 116 } : Room) (wr_Pc dC dI cI cZ cS (stw cI a g ++ mnw a h hs) [.ref h, .int (zI u), .int (zI v)]) (wr_Qc dC dI (stw cI a g ++ mnw a h hs) (stw cI a (nMeasure g u v) ++ mnw a h hs) (some (.int (zI (aMeasure g u v))))) 0 0 (wr_ad (stw cI a g ++ mnw a h hs)) := by
  refine wr_met (cc := cX1_measure) (maxL := 4) (ret := (some .int)) (by decide) rfl (Nat.le_of_ble_eq_true rfl) ?_
  intro p e s m below meth c ls hx hb hml hr hlocks hts hown hP hD hS hK hl
  have hl : lv_has ls 4 [(0, .ref h), (1, .int (zI u)), (2, .int (zI v))] := hl
  have hinX1 : ∀ w ∈ u_ws RX1 TX1 2, w ∈ wsX1_measure := by decide +kernel
  have f_10 := hts (.fieldLink RX1 10 "NetworkCoordinates" "now" "LNetworkCoordinates$State;") (by decide +kernel)
  have b0 := hg.1
  have hPs : va_P (dC, dI) vwCl (stw cI a g) s.heap := va_P_left hP
  have s0 := sKf_rng g u v
  refine lv_aload_n hx hb dX1_measure_0 rfl (lv_at hl 0 rfl) ?_
  refine lv_iload_n hx hb dX1_measure_1 rfl (lv_at hl 1 rfl) ?_
  refine lv_iload_n hx hb dX1_measure_2 rfl (lv_at hl 2 rfl) ?_
  refine rd_callV (As := [.int (zI u), .int (zI v)]) (rest := []) ⟨hx, hb, hml, hown, hts⟩ (c_X1_knownPairFault l dC dI cI cZ cS a h hs g r hg u (by omega) v (by omega)) (cwV 2 hts gX1_measure_X1_knownPairFault rfl rfl rfl (by decide +kernel) ⟨Nat.le_of_ble_eq_true rfl, Nat.le_of_ble_eq_true rfl⟩) hP hK 7 rfl rfl rfl hl.1 rfl (Nat.le_of_ble_eq_true rfl) dX1_measure_3 ⟨Nat.zero_le _, Nat.zero_le _⟩ ?_
  refine lv_istore_n (lv' := [(3, .int (zI (sKf g u v))), (0, .ref h), (1, .int (zI u)), (2, .int (zI v))]) hx hb dX1_measure_6 rfl hl (by decide) rfl (fun ls hl => ?_)
  refine lv_iload_n hx hb dX1_measure_7 rfl (lv_at hl 0 rfl) ?_
  refine zr_if_eq (tgt := 13) hx hb dX1_measure_8 (by decide) (by omega) (fun c_8 => ?_) (fun c_8 => ?_)
  · obtain ⟨c1, c2⟩ := sKf_0 c_8
    obtain ⟨A, B, rfl, rfl, hA2, hB2, hA, hB, hAB, eA, eB⟩ := z_nodes hg c1
    have kAB := hg.2.2 A B hA hB
    rw [eA, eB] at c2
    have hgU := sUpd_gB hg hA hB c2
    refine lv_aload_n hx hb dX1_measure_13 rfl (lv_at hl 1 rfl) ?_
    refine va_get (D := (dC, dI)) (ci := 1) (v := .ref (a 0)) (C := RX1) (T := TX1) (N := 2) hx hb hts hinX1 hown hK.1 hP 7 rfl rfl 0 (by decide) f_10 (fun _ h9 => h9) rfl dX1_measure_14 ?_
    refine lv_iload_n hx hb dX1_measure_17 rfl (lv_at hl 2 rfl) ?_
    refine lv_iload_n hx hb dX1_measure_18 rfl (lv_at hl 3 rfl) ?_
    refine wr_callV (As := [.int (zI (A : Int)), .int (zI (B : Int))]) (rest := []) ⟨hx, hb, hml, hown, hts⟩ (c_X0_update l dC dI cI cZ cS a g r hg A B (by omega) (by omega) (by omega)) (cwV 2 hts gX1_measure_X0_update rfl rfl rfl (by decide +kernel) ⟨Nat.le_of_ble_eq_true rfl, Nat.le_of_ble_eq_true rfl⟩) hPs (va_D_left hD) hS hK 0 rfl rfl rfl hl.1 rfl (Nat.le_of_ble_eq_true rfl) dX1_measure_19 ⟨Nat.zero_le _, Nat.zero_le _⟩ (fun H locs hP1 hk1 hS => ?_)
    have hP : va_P (dC, dI) vwCl (stw cI a (sUpd g A B) ++ mnw a h hs) H := wr_tail hP hD hP1 hk1
    have hD : va_D (wr_ad (stw cI a g ++ mnw a h hs)) (stw cI a (sUpd g A B) ++ mnw a h hs) := va_D_adr hD rfl
    have hPs : va_P (dC, dI) vwCl (stw cI a (sUpd g A B)) H := va_P_left hP
    refine lv_aload_n hx hb dX1_measure_22 rfl (lv_at hl 1 rfl) ?_
    refine va_get (D := (dC, dI)) (ci := 1) (v := .ref (a 0)) (C := RX1) (T := TX1) (N := 2) hx hb hts hinX1 hown hK.1 hP 7 rfl rfl 0 (by decide) f_10 (fun _ h9 => h9) rfl dX1_measure_23 ?_
    refine lv_iload_n hx hb dX1_measure_26 rfl (lv_at hl 2 rfl) ?_
    refine lv_iload_n hx hb dX1_measure_27 rfl (lv_at hl 3 rfl) ?_
    refine rd_callV (As := [.int (zI (A : Int)), .int (zI (B : Int))]) (rest := []) ⟨hx, hb, hml, hown, hts⟩ (c_X0_sample l dC dI cI cZ cS a (sUpd g A B) r hgU A B (by omega) (by omega)) (cwV 2 hts gX1_measure_X0_sample rfl rfl rfl (by decide +kernel) ⟨Nat.le_of_ble_eq_true rfl, Nat.le_of_ble_eq_true rfl⟩) hPs hK 0 rfl rfl rfl hl.1 rfl (Nat.le_of_ble_eq_true rfl) dX1_measure_28 ⟨Nat.zero_le _, Nat.zero_le _⟩ ?_
    exact wr_iret hx hb hr hlocks (show va_P (dC, dI) vwCl (stw cI a (nMeasure g (A : Int) (B : Int)) ++ mnw a h hs) _ by rw [show nMeasure g (A : Int) (B : Int) = sUpd g A B from (if_pos c_8).trans (by rw [eA, eB])]; exact hP) hS (by unfold aMeasure; rw [if_pos c_8, eA, eB]; rfl) dX1_measure_31
  · refine lv_iload_n hx hb dX1_measure_11 rfl (lv_at hl 0 rfl) ?_
    exact wr_iret hx hb hr hlocks (show va_P (dC, dI) vwCl (stw cI a (nMeasure g u v) ++ mnw a h hs) _ by rw [show nMeasure g u v = g from if_neg c_8]; exact hP) hS (by unfold aMeasure; rw [if_neg c_8]) dX1_measure_12
set_option maxHeartbeats 4000000 in
set_option maxRecDepth 100000 in
/-- run -/
theorem c_X1_run (l : Launch) (dC : Nat → ClassId) (dI : Nat → Nat → Nat) (cI cZ cS : ClassId) (a : Nat → Nat) (h hs : Nat) (g : Nat → Nat → Int) (r : Int) (hg : gB g r) (u : Int) (hu : -2147483648 ≤ u ∧ u ≤ 2147483647) (hr1 : r ≤ 1000000000) : Met l yX1_run wsX1_run ({ frames := 5, cells := 0, slots := 0, locals := 141 } : Room) (wr_Pc dC dI cI cZ cS (stw cI a g ++ mnw a h hs) [.ref h, .int (zI u)]) (wr_Qc dC dI (stw cI a g ++ mnw a h hs) (stw cI a (nRun g u) ++ mnw a h hs) (some (.int (zI (aRun g u))))) 0 0 (wr_ad (stw cI a g ++ mnw a h hs)) := by
  refine wr_met (cc := cX1_run) (maxL := 4) (ret := (some .int)) (by decide) rfl (Nat.le_of_ble_eq_true rfl) ?_
  intro p e s m below meth c ls hx hb hml hr hlocks hts hown hP hD hS hK hl
  have hl : lv_has ls 4 [(0, .ref h), (1, .int (zI u))] := hl
  have hinX1 : ∀ w ∈ u_ws RX1 TX1 2, w ∈ wsX1_run := by decide +kernel
  have f_10 := hts (.fieldLink RX1 10 "NetworkCoordinates" "now" "LNetworkCoordinates$State;") (by decide +kernel)
  have k_24 := hts (.constant RX1 24 (-1000002)) (by decide +kernel)
  have b0 := hg.1
  have hPs : va_P (dC, dI) vwCl (stw cI a g) s.heap := va_P_left hP
  refine lv_iload_n hx hb dX1_run_0 rfl (lv_at hl 1 rfl) ?_
  refine zr_iconst hx hb dX1_run_1 ?_
  refine zr_bipush hx hb dX1_run_2 (by decide) ?_
  refine rd_callS (As := [.int (zI u), .int (zI 1), .int (zI 100)]) (rest := []) ⟨hx, hb, hml, hown, hts⟩ (c_X1_isWithin l dC dI cI cZ cS u 1 100 (by omega) (by omega) (by omega)) (va_cwS 3 hts gX1_run_X1_isWithin rfl rfl rfl (by decide +kernel) ⟨Nat.le_of_ble_eq_true rfl, Nat.le_of_ble_eq_true rfl⟩) va_P_nil hK rfl hl.1 rfl (Nat.le_of_ble_eq_true rfl) dX1_run_4 ⟨Nat.zero_le _, Nat.zero_le _⟩ ?_
  refine zr_bif_ne (tgt := 13) hx hb dX1_run_7 (by decide) (fun c_7 => ?_) (fun c_7 => ?_)
  · obtain ⟨N, rfl⟩ : ∃ N : Nat, u = (N : Int) := ⟨u.toNat, by omega⟩
    have eN : ((N : Nat) : Int).toNat = N := by omega
    refine zr_iconst hx hb dX1_run_13 ?_
    refine lv_istore_n (lv' := [(2, .int (zI 0)), (0, .ref h), (1, .int (zI (N : Int)))]) hx hb dX1_run_14 rfl hl (by decide) rfl (fun ls hl => ?_)
    refine zr_iconst hx hb dX1_run_15 ?_
    refine lv_istore_n (lv' := [(3, .int (zI 0)), (2, .int (zI 0)), (0, .ref h), (1, .int (zI (N : Int)))]) hx hb dX1_run_16 rfl hl (by decide) rfl (fun ls hl => ?_)
    have loop : ∀ (k_loop i : Nat), i + k_loop = N → ∀ (H : Heap) (locs : List Loc), va_P (dC, dI) vwCl (stw cI a (sRun g i) ++ mnw a h hs) H → va_D (wr_ad (stw cI a g ++ mnw a h hs)) (stw cI a (sRun g i) ++ mnw a h hs) → va_S (wr_ad (stw cI a g ++ mnw a h hs)) s.heap H locs → ∀ ls : Array Slot, lv_has ls 4 [(3, .int (zI (i : Int))), (2, .int (zI (sRunC g i))), (0, .ref h), (1, .int (zI (N : Int)))] → W p l e ({ frames := 5, cells := 0, slots := 0, locals := 141 } : Room) s m [.ref h, .int (zI (N : Int))].toArray below meth c H locs 0 0 (MQ below (wr_Qc dC dI (stw cI a g ++ mnw a h hs) (stw cI a (nRun g (N : Int)) ++ mnw a h hs) (some (.int (zI (aRun g (N : Int)))))) [.ref h, .int (zI (N : Int))].toArray s 0 0 (wr_ad (stw cI a g ++ mnw a h hs))) (F0 m 17 ls []) := by
      intro k_loop
      induction k_loop with
      | zero =>
        intro i hi H locs hP hD hS ls hl
        refine lv_iload_n hx hb dX1_run_17 rfl (lv_at hl 0 rfl) ?_
        refine lv_iload_n hx hb dX1_run_18 rfl (lv_at hl 3 rfl) ?_
        refine zr_icmp_ge (tgt := 38) hx hb dX1_run_19 (by decide) (by omega) (by omega) (fun c_19 => ?_) (fun c_19 => absurd c_19 (by omega))
        refine lv_iload_n hx hb dX1_run_38 rfl (lv_at hl 1 rfl) ?_
        have hi2 : i = N := by omega
        subst hi2
        exact wr_iret hx hb hr hlocks (show va_P (dC, dI) vwCl (stw cI a (nRun g (i : Int)) ++ mnw a h hs) _ by rw [show nRun g (i : Int) = sRun g i from (if_pos c_7).trans (by rw [eN])]; exact hP) hS (by unfold aRun; rw [if_pos c_7, eN]) dX1_run_39
      | succ k_loop ih_loop =>
        intro i hi H locs hP hD hS ls hl
        have hGi := sRun_inv hg i
        have hPs : va_P (dC, dI) vwCl (stw cI a (sRun g i)) H := va_P_left hP
        refine lv_iload_n hx hb dX1_run_17 rfl (lv_at hl 0 rfl) ?_
        refine lv_iload_n hx hb dX1_run_18 rfl (lv_at hl 3 rfl) ?_
        refine zr_icmp_ge (tgt := 38) hx hb dX1_run_19 (by decide) (by omega) (by omega) (fun c_19 => absurd c_19 (by omega)) (fun c_19 => ?_)
        refine lv_iload_n hx hb dX1_run_22 rfl (lv_at hl 1 rfl) ?_
        refine lv_aload_n hx hb dX1_run_23 rfl (lv_at hl 2 rfl) ?_
        refine va_get (D := (dC, dI)) (ci := 1) (v := .ref (a 0)) (C := RX1) (T := TX1) (N := 2) hx hb hts hinX1 hown hK.1 hP 7 rfl rfl 0 (by decide) f_10 (fun _ h9 => h9) rfl dX1_run_24 ?_
        refine wr_callVi (As := []) (rest := [.int (zI (sRunC g i))]) ⟨hx, hb, hml, hown, hts⟩ (c_X0_playRound l dC dI cI cZ cS a (sRun g i) (r + i) hGi (by omega)) (cwV 0 hts gX1_run_X0_playRound rfl rfl rfl (by decide +kernel) ⟨Nat.le_of_ble_eq_true rfl, Nat.le_of_ble_eq_true rfl⟩) hPs (va_D_left hD) hS hK 0 rfl rfl rfl hl.1 rfl (Nat.le_of_ble_eq_true rfl) dX1_run_27 ⟨Nat.zero_le _, Nat.zero_le _⟩ (fun H locs hP1 hk1 hS => ?_)
        have hP : va_P (dC, dI) vwCl (stw cI a (sRnd (sRun g i)) ++ mnw a h hs) H := wr_tail hP hD hP1 hk1
        have hD : va_D (wr_ad (stw cI a g ++ mnw a h hs)) (stw cI a (sRnd (sRun g i)) ++ mnw a h hs) := va_D_adr hD rfl
        have hPs : va_P (dC, dI) vwCl (stw cI a (sRnd (sRun g i))) H := va_P_left hP
        refine zr_iadd hx hb dX1_run_30 ?_
        refine zr_topI (sRunC g (i + 1)) rfl ?_
        refine lv_istore_n (lv' := [(2, .int (zI (sRunC g (i + 1)))), (3, .int (zI (i : Int))), (0, .ref h), (1, .int (zI (N : Int)))]) hx hb dX1_run_31 rfl hl (by decide) rfl (fun ls hl => ?_)
        refine zr_iinc (b := ((i + 1 : Nat) : Int)) (lv' := [(3, .int (zI ((i + 1 : Nat) : Int))), (2, .int (zI (sRunC g (i + 1)))), (0, .ref h), (1, .int (zI (N : Int)))]) hx hb dX1_run_32 hl (k := 1) rfl (by omega) (by decide) rfl (fun ls hl => ?_)
        refine lv_goto (tgt := 17) hx hb dX1_run_35 (by decide) ?_
        exact ih_loop (i + 1) (by omega) H locs hP hD hS ls (lv_sub hl [0, 1, 2, 3] rfl)
    exact loop N 0 (by omega) s.heap [] hP hD hS ls (lv_sub hl [0, 1, 2, 3] rfl)
  · refine zr_ldc hx hb (-1000002) hown k_24 (by decide) dX1_run_10 ?_
    exact wr_iret hx hb hr hlocks (show va_P (dC, dI) vwCl (stw cI a (nRun g u) ++ mnw a h hs) _ by rw [show nRun g u = g from if_neg c_7]; exact hP) hS (by unfold aRun; rw [if_neg c_7]) dX1_run_12
set_option maxHeartbeats 4000000 in
set_option maxRecDepth 100000 in
/-- meanError -/
theorem c_X1_meanError (l : Launch) (dC : Nat → ClassId) (dI : Nat → Nat → Nat) (cI cZ cS : ClassId) (a : Nat → Nat) (h hs : Nat) (g : Nat → Nat → Int) (r : Int) (hg : gB g r) : Met l yX1_meanError wsX1_meanError ({ frames := 4, cells := 0, slots := 0, locals := 94 } : Room) (rd_Pc dC dI cI cZ cS (stw cI a g ++ mnw a h hs) [.ref h]) (rd_Qc (some (.int (zI (aMean g))))) 0 0 nf := by
  refine rd_met (cc := cX1_meanError) (maxL := 6) (ret := (some .int)) (by decide) rfl (Nat.le_of_ble_eq_true rfl) ?_
  intro p e s m below meth c ls hx hb hml hr hlocks hts hown hP hK hl
  have hl : lv_has ls 6 [(0, .ref h)] := hl
  have hinX0 : ∀ w ∈ u_ws RX0 TX0 11, w ∈ wsX1_meanError := by decide +kernel
  have hinX1 : ∀ w ∈ u_ws RX1 TX1 2, w ∈ wsX1_meanError := by decide +kernel
  have f_10 := hts (.fieldLink RX1 10 "NetworkCoordinates" "now" "LNetworkCoordinates$State;") (by decide +kernel)
  have k_107 := hts (.constant RX1 107 (-1000005)) (by decide +kernel)
  have b0 := hg.1
  have hPs : va_P (dC, dI) vwCl (stw cI a g) s.heap := va_P_left hP
  have hN := gN_eq hg
  have q1 := sMc_bd (g := g) hN.2.2
  have q2 := sMs_bd hg hN.2.2
  refine zr_lconst hx hb 0 (by decide) dX1_meanError_0 ?_
  refine lv_lstore_n (lv' := [(1, .long (zL 0)), (0, .ref h)]) hx hb dX1_meanError_1 rfl hl (by decide) rfl (fun ls hl => ?_)
  refine zr_iconst hx hb dX1_meanError_2 ?_
  refine lv_istore_n (lv' := [(3, .int (zI 0)), (1, .long (zL 0)), (0, .ref h)]) hx hb dX1_meanError_3 rfl hl (by decide) rfl (fun ls hl => ?_)
  refine zr_iconst hx hb dX1_meanError_4 ?_
  refine lv_istore (lv' := [(4, .int (zI 0)), (3, .int (zI 0)), (1, .long (zL 0)), (0, .ref h)]) hx hb dX1_meanError_5 hl (by decide) rfl (fun ls hl => ?_)
  have loop : ∀ (k_loop i : Nat), i + k_loop = gN g → ∀ ls : Array Slot, lv_has ls 6 [(4, .int (zI (i : Int))), (3, .int (zI (sMc g (gN g) i))), (1, .long (zL (sMs g (gN g) i))), (0, .ref h)] → W p l e ({ frames := 4, cells := 0, slots := 0, locals := 94 } : Room) s m [.ref h].toArray below meth c s.heap [] 0 0 (MQ below (rd_Qc (some (.int (zI (aMean g))))) [.ref h].toArray s 0 0 nf) (F0 m 7 ls []) := by
    intro k_loop
    induction k_loop with
    | zero =>
      intro i hi ls hl
      refine lv_iload hx hb dX1_meanError_7 (lv_at hl 0 rfl) ?_
      refine lv_aload_n hx hb dX1_meanError_9 rfl (lv_at hl 3 rfl) ?_
      refine va_get (D := (dC, dI)) (ci := 1) (v := .ref (a 0)) (C := RX1) (T := TX1) (N := 2) hx hb hts hinX1 hown hK.1 hP 7 rfl rfl 0 (by decide) f_10 (fun _ h9 => h9) rfl dX1_meanError_10 ?_
      refine va_getN (D := (dC, dI)) (ci := 0) (v := .int (zI (g 0 0))) (C := RX0) (T := TX0) (N := 11) hx hb hts hinX0 hown hK.1 hP 0 rfl rfl 0 (by decide) (hK.nw 0 rfl) (fun _ h9 => h9) rfl dX1_meanError_13 ?_
      refine zr_icmp_ge (tgt := 81) hx hb dX1_meanError_16 (by decide) (by omega) (by omega) (fun c_16 => ?_) (fun c_16 => absurd c_16 (by omega))
      have hi2 : i = gN g := by omega
      subst hi2
      refine lv_iload_n hx hb dX1_meanError_81 rfl (lv_at hl 1 rfl) ?_
      refine zr_if_ne (tgt := 90) hx hb dX1_meanError_82 (by decide) (by omega) (fun c_82 => ?_) (fun c_82 => ?_)
      · refine lv_lload_n hx hb dX1_meanError_90 rfl (lv_at hl 2 rfl) ?_
        refine lv_iload_n hx hb dX1_meanError_91 rfl (lv_at hl 1 rfl) ?_
        refine zr_i2l hx hb (by omega) dX1_meanError_92 ?_
        refine rd_callS (As := [.long (zL (sMs g (gN g) (gN g))), .long (zL (sMc g (gN g) (gN g)))]) (rest := []) ⟨hx, hb, hml, hown, hts⟩ (c_X1_quotient l dC dI cI cZ cS (sMs g (gN g) (gN g)) (sMc g (gN g) (gN g)) (by omega) (by omega)) (va_cwS 2 hts gX1_meanError_X1_quotient rfl rfl rfl (by decide +kernel) ⟨Nat.le_of_ble_eq_true rfl, Nat.le_of_ble_eq_true rfl⟩) va_P_nil hK rfl hl.1 rfl (Nat.le_of_ble_eq_true rfl) dX1_meanError_93 ⟨Nat.zero_le _, Nat.zero_le _⟩ ?_
        refine zr_l2i hx hb dX1_meanError_96 ?_
        exact rd_iret hx hb hr hlocks (by unfold aMean; rw [if_neg c_82]) dX1_meanError_97
      · refine zr_ldc hx hb (-1000005) hown k_107 (by decide) dX1_meanError_85 ?_
        refine lv_goto (tgt := 97) hx hb dX1_meanError_87 (by decide) ?_
        exact rd_iret hx hb hr hlocks (by unfold aMean; rw [if_pos c_82]) dX1_meanError_97
    | succ k_loop ih_loop =>
      intro i hi ls hl
      refine lv_iload hx hb dX1_meanError_7 (lv_at hl 0 rfl) ?_
      refine lv_aload_n hx hb dX1_meanError_9 rfl (lv_at hl 3 rfl) ?_
      refine va_get (D := (dC, dI)) (ci := 1) (v := .ref (a 0)) (C := RX1) (T := TX1) (N := 2) hx hb hts hinX1 hown hK.1 hP 7 rfl rfl 0 (by decide) f_10 (fun _ h9 => h9) rfl dX1_meanError_10 ?_
      refine va_getN (D := (dC, dI)) (ci := 0) (v := .int (zI (g 0 0))) (C := RX0) (T := TX0) (N := 11) hx hb hts hinX0 hown hK.1 hP 0 rfl rfl 0 (by decide) (hK.nw 0 rfl) (fun _ h9 => h9) rfl dX1_meanError_13 ?_
      refine zr_icmp_ge (tgt := 81) hx hb dX1_meanError_16 (by decide) (by omega) (by omega) (fun c_16 => absurd c_16 (by omega)) (fun c_16 => ?_)
      refine lv_iload hx hb dX1_meanError_19 (lv_at hl 0 rfl) ?_
      refine zr_iconst hx hb dX1_meanError_21 ?_
      refine zr_iadd hx hb dX1_meanError_22 ?_
      refine zr_topI ((i + 1 : Nat) : Int) (by omega) ?_
      refine lv_istore (lv' := [(5, .int (zI ((i + 1 : Nat) : Int))), (4, .int (zI (i : Int))), (3, .int (zI (sMc g (gN g) i))), (1, .long (zL (sMs g (gN g) i))), (0, .ref h)]) hx hb dX1_meanError_23 hl (by decide) rfl (fun ls hl => ?_)
      have inner : ∀ (k_inner j : Nat), j + k_inner = gN g → i < j → ∀ ls : Array Slot, lv_has ls 6 [(5, .int (zI (j : Int))), (4, .int (zI (i : Int))), (3, .int (zI (sMc g (gN g) i + sMcI g i j))), (1, .long (zL (sMs g (gN g) i + sMsI g i j))), (0, .ref h)] → W p l e ({ frames := 4, cells := 0, slots := 0, locals := 94 } : Room) s m [.ref h].toArray below meth c s.heap [] 0 0 (MQ below (rd_Qc (some (.int (zI (aMean g))))) [.ref h].toArray s 0 0 nf) (F0 m 25 ls []) := by
        intro k_inner
        induction k_inner with
        | zero =>
          intro j hj hij ls hl
          refine lv_iload hx hb dX1_meanError_25 (lv_at hl 0 rfl) ?_
          refine lv_aload_n hx hb dX1_meanError_27 rfl (lv_at hl 4 rfl) ?_
          refine va_get (D := (dC, dI)) (ci := 1) (v := .ref (a 0)) (C := RX1) (T := TX1) (N := 2) hx hb hts hinX1 hown hK.1 hP 7 rfl rfl 0 (by decide) f_10 (fun _ h9 => h9) rfl dX1_meanError_28 ?_
          refine va_getN (D := (dC, dI)) (ci := 0) (v := .int (zI (g 0 0))) (C := RX0) (T := TX0) (N := 11) hx hb hts hinX0 hown hK.1 hP 0 rfl rfl 0 (by decide) (hK.nw 0 rfl) (fun _ h9 => h9) rfl dX1_meanError_31 ?_
          refine zr_icmp_ge (tgt := 75) hx hb dX1_meanError_34 (by decide) (by omega) (by omega) (fun c_34 => ?_) (fun c_34 => absurd c_34 (by omega))
          have hj2 : j = gN g := by omega
          have hl : lv_has ls 6 [(5, .int (zI (j : Int))), (4, .int (zI (i : Int))), (3, .int (zI (sMc g (gN g) (i + 1)))), (1, .long (zL (sMs g (gN g) (i + 1)))), (0, .ref h)] := by rw [show sMc g (gN g) (i + 1) = sMc g (gN g) i + sMcI g i j from by rw [hj2]; rfl, show sMs g (gN g) (i + 1) = sMs g (gN g) i + sMsI g i j from by rw [hj2]; rfl]; exact hl
          refine zr_iinc (b := ((i + 1 : Nat) : Int)) (lv' := [(4, .int (zI ((i + 1 : Nat) : Int))), (5, .int (zI (j : Int))), (3, .int (zI (sMc g (gN g) (i + 1)))), (1, .long (zL (sMs g (gN g) (i + 1)))), (0, .ref h)]) hx hb dX1_meanError_75 hl (k := 1) rfl (by omega) (by decide) rfl (fun ls hl => ?_)
          refine lv_goto (tgt := 7) hx hb dX1_meanError_78 (by decide) ?_
          exact ih_loop (i + 1) (by omega) ls (lv_sub hl [0, 2, 3, 4] rfl)
        | succ k_inner ih_inner =>
          intro j hj hij ls hl
          have hi10 : i < 10 := by omega
          have hj10 : j < 10 := by omega
          have kij := hg.2.2 i j hi10 hj10
          refine lv_iload hx hb dX1_meanError_25 (lv_at hl 0 rfl) ?_
          refine lv_aload_n hx hb dX1_meanError_27 rfl (lv_at hl 4 rfl) ?_
          refine va_get (D := (dC, dI)) (ci := 1) (v := .ref (a 0)) (C := RX1) (T := TX1) (N := 2) hx hb hts hinX1 hown hK.1 hP 7 rfl rfl 0 (by decide) f_10 (fun _ h9 => h9) rfl dX1_meanError_28 ?_
          refine va_getN (D := (dC, dI)) (ci := 0) (v := .int (zI (g 0 0))) (C := RX0) (T := TX0) (N := 11) hx hb hts hinX0 hown hK.1 hP 0 rfl rfl 0 (by decide) (hK.nw 0 rfl) (fun _ h9 => h9) rfl dX1_meanError_31 ?_
          refine zr_icmp_ge (tgt := 75) hx hb dX1_meanError_34 (by decide) (by omega) (by omega) (fun c_34 => absurd c_34 (by omega)) (fun c_34 => ?_)
          refine lv_aload_n hx hb dX1_meanError_37 rfl (lv_at hl 4 rfl) ?_
          refine va_get (D := (dC, dI)) (ci := 1) (v := .ref (a 0)) (C := RX1) (T := TX1) (N := 2) hx hb hts hinX1 hown hK.1 hP 7 rfl rfl 0 (by decide) f_10 (fun _ h9 => h9) rfl dX1_meanError_38 ?_
          refine lv_iload hx hb dX1_meanError_41 (lv_at hl 1 rfl) ?_
          refine lv_iload hx hb dX1_meanError_43 (lv_at hl 0 rfl) ?_
          refine rd_callV (As := [.int (zI (i : Int)), .int (zI (j : Int))]) (rest := []) ⟨hx, hb, hml, hown, hts⟩ (c_X0_isKnown l dC dI cI cZ cS a g r hg i j (by omega) (by omega)) (cwV 2 hts gX1_meanError_X0_isKnown rfl rfl rfl (by decide +kernel) ⟨Nat.le_of_ble_eq_true rfl, Nat.le_of_ble_eq_true rfl⟩) hPs hK 0 rfl rfl rfl hl.1 rfl (Nat.le_of_ble_eq_true rfl) dX1_meanError_45 ⟨Nat.zero_le _, Nat.zero_le _⟩ ?_
          refine zr_bif_eq (tgt := 69) hx hb dX1_meanError_48 (by decide) (fun c_48 => ?_) (fun c_48 => ?_)
          · have hl : lv_has ls 6 [(5, .int (zI (j : Int))), (4, .int (zI (i : Int))), (3, .int (zI (sMc g (gN g) i + sMcI g i (j + 1)))), (1, .long (zL (sMs g (gN g) i + sMsI g i (j + 1)))), (0, .ref h)] := by rw [show sMcI g i (j + 1) = sMcI g i j from by unfold sMcI; rw [sm_succ, if_neg (by omega)]; omega, show sMsI g i (j + 1) = sMsI g i j from by unfold sMsI; rw [sm_succ, if_neg (by omega)]; omega]; exact hl
            refine zr_iinc (b := ((j + 1 : Nat) : Int)) (lv' := [(5, .int (zI ((j + 1 : Nat) : Int))), (4, .int (zI (i : Int))), (3, .int (zI (sMc g (gN g) i + sMcI g i (j + 1)))), (1, .long (zL (sMs g (gN g) i + sMsI g i (j + 1)))), (0, .ref h)]) hx hb dX1_meanError_69 hl (k := 0) rfl (by omega) (by decide) rfl (fun ls hl => ?_)
            refine lv_goto (tgt := 25) hx hb dX1_meanError_72 (by decide) ?_
            exact ih_inner (j + 1) (by omega) (by omega) ls (lv_sub hl [0, 1, 2, 3, 4] rfl)
          · have hrl := sRel_bd hg hi10 hj10 (by omega)
            refine lv_lload_n hx hb dX1_meanError_51 rfl (lv_at hl 3 rfl) ?_
            refine lv_aload_n hx hb dX1_meanError_52 rfl (lv_at hl 4 rfl) ?_
            refine va_get (D := (dC, dI)) (ci := 1) (v := .ref (a 0)) (C := RX1) (T := TX1) (N := 2) hx hb hts hinX1 hown hK.1 hP 7 rfl rfl 0 (by decide) f_10 (fun _ h9 => h9) rfl dX1_meanError_53 ?_
            refine lv_iload hx hb dX1_meanError_56 (lv_at hl 1 rfl) ?_
            refine lv_iload hx hb dX1_meanError_58 (lv_at hl 0 rfl) ?_
            refine rd_callV (As := [.int (zI (i : Int)), .int (zI (j : Int))]) (rest := [.long (zL (sMs g (gN g) i + sMsI g i j))]) ⟨hx, hb, hml, hown, hts⟩ (c_X0_relative l dC dI cI cZ cS a g r hg i j (by omega) (by omega) (by omega)) (cwV 2 hts gX1_meanError_X0_relative rfl rfl rfl (by decide +kernel) ⟨Nat.le_of_ble_eq_true rfl, Nat.le_of_ble_eq_true rfl⟩) hPs hK 0 rfl rfl rfl hl.1 rfl (Nat.le_of_ble_eq_true rfl) dX1_meanError_60 ⟨Nat.zero_le _, Nat.zero_le _⟩ ?_
            refine zr_i2l hx hb (by omega) dX1_meanError_63 ?_
            refine zr_ladd hx hb dX1_meanError_64 ?_
            refine zr_topL (sMs g (gN g) i + sMsI g i (j + 1)) (by unfold sMsI; rw [sm_succ, if_pos (by omega)]; omega) ?_
            refine lv_lstore_n (lv' := [(1, .long (zL (sMs g (gN g) i + sMsI g i (j + 1)))), (5, .int (zI (j : Int))), (4, .int (zI (i : Int))), (3, .int (zI (sMc g (gN g) i + sMcI g i j))), (0, .ref h)]) hx hb dX1_meanError_65 rfl hl (by decide) rfl (fun ls hl => ?_)
            refine zr_iinc (b := (sMc g (gN g) i + sMcI g i (j + 1))) (lv' := [(3, .int (zI (sMc g (gN g) i + sMcI g i (j + 1)))), (1, .long (zL (sMs g (gN g) i + sMsI g i (j + 1)))), (5, .int (zI (j : Int))), (4, .int (zI (i : Int))), (0, .ref h)]) hx hb dX1_meanError_66 hl (k := 3) rfl (by unfold sMcI; rw [sm_succ, if_pos (by omega)]; omega) (by decide) rfl (fun ls hl => ?_)
            refine zr_iinc (b := ((j + 1 : Nat) : Int)) (lv' := [(5, .int (zI ((j + 1 : Nat) : Int))), (3, .int (zI (sMc g (gN g) i + sMcI g i (j + 1)))), (1, .long (zL (sMs g (gN g) i + sMsI g i (j + 1)))), (4, .int (zI (i : Int))), (0, .ref h)]) hx hb dX1_meanError_69 hl (k := 2) rfl (by omega) (by decide) rfl (fun ls hl => ?_)
            refine lv_goto (tgt := 25) hx hb dX1_meanError_72 (by decide) ?_
            exact ih_inner (j + 1) (by omega) (by omega) ls (lv_sub hl [0, 3, 1, 2, 4] rfl)
      have hl : lv_has ls 6 [(5, .int (zI ((i + 1 : Nat) : Int))), (4, .int (zI (i : Int))), (3, .int (zI (sMc g (gN g) i + sMcI g i (i + 1)))), (1, .long (zL (sMs g (gN g) i + sMsI g i (i + 1)))), (0, .ref h)] := by rw [sMcI_0, sMsI_0, Int.add_zero, Int.add_zero]; exact hl
      exact inner (gN g - (i + 1)) (i + 1) (by omega) (by omega) ls (lv_sub hl [0, 1, 2, 3, 4] rfl)
  exact loop (gN g) 0 (by omega) ls (lv_sub hl [0, 1, 2, 3] rfl)
set_option maxHeartbeats 4000000 in
set_option maxRecDepth 100000 in
/-- worstPair -/
theorem c_X1_worstPair (l : Launch) (dC : Nat → ClassId) (dI : Nat → Nat → Nat) (cI cZ cS : ClassId) (a : Nat → Nat) (h hs : Nat) (g : Nat → Nat → Int) (r : Int) (hg : gB g r) : Met l yX1_worstPair wsX1_worstPair ({ frames := 4, cells := 0, slots := 0, locals := 94 } : Room) (rd_Pc dC dI cI cZ cS (stw cI a g ++ mnw a h hs) [.ref h]) (rd_Qc (some (.int (zI ((sWo g (gN g) (gN g)).1))))) 0 0 nf := by
  refine rd_met (cc := cX1_worstPair) (maxL := 5) (ret := (some .int)) (by decide) rfl (Nat.le_of_ble_eq_true rfl) ?_
  intro p e s m below meth c ls hx hb hml hr hlocks hts hown hP hK hl
  have hl : lv_has ls 5 [(0, .ref h)] := hl
  have hinX0 : ∀ w ∈ u_ws RX0 TX0 11, w ∈ wsX1_worstPair := by decide +kernel
  have hinX1 : ∀ w ∈ u_ws RX1 TX1 2, w ∈ wsX1_worstPair := by decide +kernel
  have k_107 := hts (.constant RX1 107 (-1000005)) (by decide +kernel)
  have f_10 := hts (.fieldLink RX1 10 "NetworkCoordinates" "now" "LNetworkCoordinates$State;") (by decide +kernel)
  have b0 := hg.1
  have hPs : va_P (dC, dI) vwCl (stw cI a g) s.heap := va_P_left hP
  have hN := gN_eq hg
  refine zr_ldc hx hb (-1000005) hown k_107 (by decide) dX1_worstPair_0 ?_
  refine lv_istore_n (lv' := [(1, .int (zI (-1000005))), (0, .ref h)]) hx hb dX1_worstPair_2 rfl hl (by decide) rfl (fun ls hl => ?_)
  refine zr_iconst hx hb dX1_worstPair_3 ?_
  refine lv_istore_n (lv' := [(2, .int (zI (-1))), (1, .int (zI (-1000005))), (0, .ref h)]) hx hb dX1_worstPair_4 rfl hl (by decide) rfl (fun ls hl => ?_)
  refine zr_iconst hx hb dX1_worstPair_5 ?_
  refine lv_istore_n (lv' := [(3, .int (zI 0)), (2, .int (zI (-1))), (1, .int (zI (-1000005))), (0, .ref h)]) hx hb dX1_worstPair_6 rfl hl (by decide) rfl (fun ls hl => ?_)
  have loop : ∀ (k_loop i : Nat), i + k_loop = gN g → ∀ ls : Array Slot, lv_has ls 5 [(3, .int (zI (i : Int))), (2, .int (zI ((sWo g (gN g) i).2))), (1, .int (zI ((sWo g (gN g) i).1))), (0, .ref h)] → W p l e ({ frames := 4, cells := 0, slots := 0, locals := 94 } : Room) s m [.ref h].toArray below meth c s.heap [] 0 0 (MQ below (rd_Qc (some (.int (zI ((sWo g (gN g) (gN g)).1))))) [.ref h].toArray s 0 0 nf) (F0 m 7 ls []) := by
    intro k_loop
    induction k_loop with
    | zero =>
      intro i hi ls hl
      refine lv_iload_n hx hb dX1_worstPair_7 rfl (lv_at hl 0 rfl) ?_
      refine lv_aload_n hx hb dX1_worstPair_8 rfl (lv_at hl 3 rfl) ?_
      refine va_get (D := (dC, dI)) (ci := 1) (v := .ref (a 0)) (C := RX1) (T := TX1) (N := 2) hx hb hts hinX1 hown hK.1 hP 7 rfl rfl 0 (by decide) f_10 (fun _ h9 => h9) rfl dX1_worstPair_9 ?_
      refine va_getN (D := (dC, dI)) (ci := 0) (v := .int (zI (g 0 0))) (C := RX0) (T := TX0) (N := 11) hx hb hts hinX0 hown hK.1 hP 0 rfl rfl 0 (by decide) (hK.nw 0 rfl) (fun _ h9 => h9) rfl dX1_worstPair_12 ?_
      refine zr_icmp_ge (tgt := 93) hx hb dX1_worstPair_15 (by decide) (by omega) (by omega) (fun c_15 => ?_) (fun c_15 => absurd c_15 (by omega))
      refine lv_iload_n hx hb dX1_worstPair_93 rfl (lv_at hl 2 rfl) ?_
      exact rd_iret hx hb hr hlocks (by rw [show i = gN g by omega]) dX1_worstPair_94
    | succ k_loop ih_loop =>
      intro i hi ls hl
      refine lv_iload_n hx hb dX1_worstPair_7 rfl (lv_at hl 0 rfl) ?_
      refine lv_aload_n hx hb dX1_worstPair_8 rfl (lv_at hl 3 rfl) ?_
      refine va_get (D := (dC, dI)) (ci := 1) (v := .ref (a 0)) (C := RX1) (T := TX1) (N := 2) hx hb hts hinX1 hown hK.1 hP 7 rfl rfl 0 (by decide) f_10 (fun _ h9 => h9) rfl dX1_worstPair_9 ?_
      refine va_getN (D := (dC, dI)) (ci := 0) (v := .int (zI (g 0 0))) (C := RX0) (T := TX0) (N := 11) hx hb hts hinX0 hown hK.1 hP 0 rfl rfl 0 (by decide) (hK.nw 0 rfl) (fun _ h9 => h9) rfl dX1_worstPair_12 ?_
      refine zr_icmp_ge (tgt := 93) hx hb dX1_worstPair_15 (by decide) (by omega) (by omega) (fun c_15 => absurd c_15 (by omega)) (fun c_15 => ?_)
      refine lv_iload_n hx hb dX1_worstPair_18 rfl (lv_at hl 0 rfl) ?_
      refine zr_iconst hx hb dX1_worstPair_19 ?_
      refine zr_iadd hx hb dX1_worstPair_20 ?_
      refine zr_topI ((i + 1 : Nat) : Int) (by omega) ?_
      refine lv_istore (lv' := [(4, .int (zI ((i + 1 : Nat) : Int))), (3, .int (zI (i : Int))), (2, .int (zI ((sWo g (gN g) i).2))), (1, .int (zI ((sWo g (gN g) i).1))), (0, .ref h)]) hx hb dX1_worstPair_21 hl (by decide) rfl (fun ls hl => ?_)
      have inner : ∀ (k_inner j : Nat), j + k_inner = gN g → i < j → ∀ ls : Array Slot, lv_has ls 5 [(4, .int (zI (j : Int))), (3, .int (zI (i : Int))), (2, .int (zI ((sWi g i (sWo g (gN g) i) j).2))), (1, .int (zI ((sWi g i (sWo g (gN g) i) j).1))), (0, .ref h)] → W p l e ({ frames := 4, cells := 0, slots := 0, locals := 94 } : Room) s m [.ref h].toArray below meth c s.heap [] 0 0 (MQ below (rd_Qc (some (.int (zI ((sWo g (gN g) (gN g)).1))))) [.ref h].toArray s 0 0 nf) (F0 m 23 ls []) := by
        intro k_inner
        induction k_inner with
        | zero =>
          intro j hj hij ls hl
          refine lv_iload hx hb dX1_worstPair_23 (lv_at hl 0 rfl) ?_
          refine lv_aload_n hx hb dX1_worstPair_25 rfl (lv_at hl 4 rfl) ?_
          refine va_get (D := (dC, dI)) (ci := 1) (v := .ref (a 0)) (C := RX1) (T := TX1) (N := 2) hx hb hts hinX1 hown hK.1 hP 7 rfl rfl 0 (by decide) f_10 (fun _ h9 => h9) rfl dX1_worstPair_26 ?_
          refine va_getN (D := (dC, dI)) (ci := 0) (v := .int (zI (g 0 0))) (C := RX0) (T := TX0) (N := 11) hx hb hts hinX0 hown hK.1 hP 0 rfl rfl 0 (by decide) (hK.nw 0 rfl) (fun _ h9 => h9) rfl dX1_worstPair_29 ?_
          refine zr_icmp_ge (tgt := 87) hx hb dX1_worstPair_32 (by decide) (by omega) (by omega) (fun c_32 => ?_) (fun c_32 => absurd c_32 (by omega))
          have hj2 : j = gN g := by omega
          have hl : lv_has ls 5 [(4, .int (zI (j : Int))), (3, .int (zI (i : Int))), (2, .int (zI ((sWo g (gN g) (i + 1)).2))), (1, .int (zI ((sWo g (gN g) (i + 1)).1))), (0, .ref h)] := by rw [show sWo g (gN g) (i + 1) = sWi g i (sWo g (gN g) i) j from by rw [hj2]; rfl]; exact hl
          refine zr_iinc (b := ((i + 1 : Nat) : Int)) (lv' := [(3, .int (zI ((i + 1 : Nat) : Int))), (4, .int (zI (j : Int))), (2, .int (zI ((sWo g (gN g) (i + 1)).2))), (1, .int (zI ((sWo g (gN g) (i + 1)).1))), (0, .ref h)]) hx hb dX1_worstPair_87 hl (k := 1) rfl (by omega) (by decide) rfl (fun ls hl => ?_)
          refine lv_goto (tgt := 7) hx hb dX1_worstPair_90 (by decide) ?_
          exact ih_loop (i + 1) (by omega) ls (lv_sub hl [0, 2, 3, 4] rfl)
        | succ k_inner ih_inner =>
          intro j hj hij ls hl
          have hi10 : i < 10 := by omega
          have hj10 : j < 10 := by omega
          have kij := hg.2.2 i j hi10 hj10
          refine lv_iload hx hb dX1_worstPair_23 (lv_at hl 0 rfl) ?_
          refine lv_aload_n hx hb dX1_worstPair_25 rfl (lv_at hl 4 rfl) ?_
          refine va_get (D := (dC, dI)) (ci := 1) (v := .ref (a 0)) (C := RX1) (T := TX1) (N := 2) hx hb hts hinX1 hown hK.1 hP 7 rfl rfl 0 (by decide) f_10 (fun _ h9 => h9) rfl dX1_worstPair_26 ?_
          refine va_getN (D := (dC, dI)) (ci := 0) (v := .int (zI (g 0 0))) (C := RX0) (T := TX0) (N := 11) hx hb hts hinX0 hown hK.1 hP 0 rfl rfl 0 (by decide) (hK.nw 0 rfl) (fun _ h9 => h9) rfl dX1_worstPair_29 ?_
          refine zr_icmp_ge (tgt := 87) hx hb dX1_worstPair_32 (by decide) (by omega) (by omega) (fun c_32 => absurd c_32 (by omega)) (fun c_32 => ?_)
          refine lv_aload_n hx hb dX1_worstPair_35 rfl (lv_at hl 4 rfl) ?_
          refine va_get (D := (dC, dI)) (ci := 1) (v := .ref (a 0)) (C := RX1) (T := TX1) (N := 2) hx hb hts hinX1 hown hK.1 hP 7 rfl rfl 0 (by decide) f_10 (fun _ h9 => h9) rfl dX1_worstPair_36 ?_
          refine lv_iload_n hx hb dX1_worstPair_39 rfl (lv_at hl 1 rfl) ?_
          refine lv_iload hx hb dX1_worstPair_40 (lv_at hl 0 rfl) ?_
          refine rd_callV (As := [.int (zI (i : Int)), .int (zI (j : Int))]) (rest := []) ⟨hx, hb, hml, hown, hts⟩ (c_X0_isKnown l dC dI cI cZ cS a g r hg i j (by omega) (by omega)) (cwV 2 hts gX1_worstPair_X0_isKnown rfl rfl rfl (by decide +kernel) ⟨Nat.le_of_ble_eq_true rfl, Nat.le_of_ble_eq_true rfl⟩) hPs hK 0 rfl rfl rfl hl.1 rfl (Nat.le_of_ble_eq_true rfl) dX1_worstPair_42 ⟨Nat.zero_le _, Nat.zero_le _⟩ ?_
          refine zr_bif_eq (tgt := 81) hx hb dX1_worstPair_45 (by decide) (fun c_45 => ?_) (fun c_45 => ?_)
          · have e1 : sWi g i (sWo g (gN g) i) (j + 1) = sWi g i (sWo g (gN g) i) j := by rw [show sWi g i (sWo g (gN g) i) (j + 1) = (if i < j then sWs g i j (sWi g i (sWo g (gN g) i) j) else sWi g i (sWo g (gN g) i) j) from rfl, if_pos hij]; unfold sWs; exact if_neg (by omega)
            have hl : lv_has ls 5 [(4, .int (zI (j : Int))), (3, .int (zI (i : Int))), (2, .int (zI ((sWi g i (sWo g (gN g) i) (j + 1)).2))), (1, .int (zI ((sWi g i (sWo g (gN g) i) (j + 1)).1))), (0, .ref h)] := by rw [e1]; exact hl
            refine zr_iinc (b := ((j + 1 : Nat) : Int)) (lv' := [(4, .int (zI ((j + 1 : Nat) : Int))), (3, .int (zI (i : Int))), (2, .int (zI ((sWi g i (sWo g (gN g) i) (j + 1)).2))), (1, .int (zI ((sWi g i (sWo g (gN g) i) (j + 1)).1))), (0, .ref h)]) hx hb dX1_worstPair_81 hl (k := 0) rfl (by omega) (by decide) rfl (fun ls hl => ?_)
            refine lv_goto (tgt := 23) hx hb dX1_worstPair_84 (by decide) ?_
            exact ih_inner (j + 1) (by omega) (by omega) ls (lv_sub hl [0, 1, 2, 3, 4] rfl)
          · have hrl := sRel_bd hg hi10 hj10 (by omega)
            have hwb := sWi_bd hg hi10 (sWo_bd hg hN.2.2 i (by omega)) j (by omega)
            refine lv_aload_n hx hb dX1_worstPair_48 rfl (lv_at hl 4 rfl) ?_
            refine va_get (D := (dC, dI)) (ci := 1) (v := .ref (a 0)) (C := RX1) (T := TX1) (N := 2) hx hb hts hinX1 hown hK.1 hP 7 rfl rfl 0 (by decide) f_10 (fun _ h9 => h9) rfl dX1_worstPair_49 ?_
            refine lv_iload_n hx hb dX1_worstPair_52 rfl (lv_at hl 1 rfl) ?_
            refine lv_iload hx hb dX1_worstPair_53 (lv_at hl 0 rfl) ?_
            refine rd_callV (As := [.int (zI (i : Int)), .int (zI (j : Int))]) (rest := []) ⟨hx, hb, hml, hown, hts⟩ (c_X0_relative l dC dI cI cZ cS a g r hg i j (by omega) (by omega) (by omega)) (cwV 2 hts gX1_worstPair_X0_relative rfl rfl rfl (by decide +kernel) ⟨Nat.le_of_ble_eq_true rfl, Nat.le_of_ble_eq_true rfl⟩) hPs hK 0 rfl rfl rfl hl.1 rfl (Nat.le_of_ble_eq_true rfl) dX1_worstPair_55 ⟨Nat.zero_le _, Nat.zero_le _⟩ ?_
            refine lv_iload_n hx hb dX1_worstPair_58 rfl (lv_at hl 2 rfl) ?_
            refine zr_icmp_le (tgt := 81) hx hb dX1_worstPair_59 (by decide) (by omega) (by omega) (fun c_59 => ?_) (fun c_59 => ?_)
            · have e1 : sWi g i (sWo g (gN g) i) (j + 1) = sWi g i (sWo g (gN g) i) j := by rw [show sWi g i (sWo g (gN g) i) (j + 1) = (if i < j then sWs g i j (sWi g i (sWo g (gN g) i) j) else sWi g i (sWo g (gN g) i) j) from rfl, if_pos hij]; unfold sWs; exact if_neg (by omega)
              have hl : lv_has ls 5 [(4, .int (zI (j : Int))), (3, .int (zI (i : Int))), (2, .int (zI ((sWi g i (sWo g (gN g) i) (j + 1)).2))), (1, .int (zI ((sWi g i (sWo g (gN g) i) (j + 1)).1))), (0, .ref h)] := by rw [e1]; exact hl
              refine zr_iinc (b := ((j + 1 : Nat) : Int)) (lv' := [(4, .int (zI ((j + 1 : Nat) : Int))), (3, .int (zI (i : Int))), (2, .int (zI ((sWi g i (sWo g (gN g) i) (j + 1)).2))), (1, .int (zI ((sWi g i (sWo g (gN g) i) (j + 1)).1))), (0, .ref h)]) hx hb dX1_worstPair_81 hl (k := 0) rfl (by omega) (by decide) rfl (fun ls hl => ?_)
              refine lv_goto (tgt := 23) hx hb dX1_worstPair_84 (by decide) ?_
              exact ih_inner (j + 1) (by omega) (by omega) ls (lv_sub hl [0, 1, 2, 3, 4] rfl)
            · have e1 : sWi g i (sWo g (gN g) i) (j + 1) = (10 * (i : Int) + (j : Int), sRel g i j) := by rw [show sWi g i (sWo g (gN g) i) (j + 1) = (if i < j then sWs g i j (sWi g i (sWo g (gN g) i) j) else sWi g i (sWo g (gN g) i) j) from rfl, if_pos hij]; unfold sWs; exact if_pos (by omega)
              refine lv_aload_n hx hb dX1_worstPair_62 rfl (lv_at hl 4 rfl) ?_
              refine va_get (D := (dC, dI)) (ci := 1) (v := .ref (a 0)) (C := RX1) (T := TX1) (N := 2) hx hb hts hinX1 hown hK.1 hP 7 rfl rfl 0 (by decide) f_10 (fun _ h9 => h9) rfl dX1_worstPair_63 ?_
              refine lv_iload_n hx hb dX1_worstPair_66 rfl (lv_at hl 1 rfl) ?_
              refine lv_iload hx hb dX1_worstPair_67 (lv_at hl 0 rfl) ?_
              refine rd_callV (As := [.int (zI (i : Int)), .int (zI (j : Int))]) (rest := []) ⟨hx, hb, hml, hown, hts⟩ (c_X0_relative l dC dI cI cZ cS a g r hg i j (by omega) (by omega) (by omega)) (cwV 2 hts gX1_worstPair_X0_relative rfl rfl rfl (by decide +kernel) ⟨Nat.le_of_ble_eq_true rfl, Nat.le_of_ble_eq_true rfl⟩) hPs hK 0 rfl rfl rfl hl.1 rfl (Nat.le_of_ble_eq_true rfl) dX1_worstPair_69 ⟨Nat.zero_le _, Nat.zero_le _⟩ ?_
              refine zr_topI ((sWi g i (sWo g (gN g) i) (j + 1)).2) (by rw [e1]) ?_
              refine lv_istore_n (lv' := [(2, .int (zI ((sWi g i (sWo g (gN g) i) (j + 1)).2))), (4, .int (zI (j : Int))), (3, .int (zI (i : Int))), (1, .int (zI ((sWi g i (sWo g (gN g) i) j).1))), (0, .ref h)]) hx hb dX1_worstPair_72 rfl hl (by decide) rfl (fun ls hl => ?_)
              refine zr_bipush hx hb dX1_worstPair_73 (by decide) ?_
              refine lv_iload_n hx hb dX1_worstPair_75 rfl (lv_at hl 2 rfl) ?_
              refine zr_imul hx hb dX1_worstPair_76 ?_
              refine lv_iload hx hb dX1_worstPair_77 (lv_at hl 1 rfl) ?_
              refine zr_iadd hx hb dX1_worstPair_79 ?_
              refine zr_topI ((sWi g i (sWo g (gN g) i) (j + 1)).1) (by rw [e1]) ?_
              refine lv_istore_n (lv' := [(1, .int (zI ((sWi g i (sWo g (gN g) i) (j + 1)).1))), (2, .int (zI ((sWi g i (sWo g (gN g) i) (j + 1)).2))), (4, .int (zI (j : Int))), (3, .int (zI (i : Int))), (0, .ref h)]) hx hb dX1_worstPair_80 rfl hl (by decide) rfl (fun ls hl => ?_)
              refine zr_iinc (b := ((j + 1 : Nat) : Int)) (lv' := [(4, .int (zI ((j + 1 : Nat) : Int))), (1, .int (zI ((sWi g i (sWo g (gN g) i) (j + 1)).1))), (2, .int (zI ((sWi g i (sWo g (gN g) i) (j + 1)).2))), (3, .int (zI (i : Int))), (0, .ref h)]) hx hb dX1_worstPair_81 hl (k := 2) rfl (by omega) (by decide) rfl (fun ls hl => ?_)
              refine lv_goto (tgt := 23) hx hb dX1_worstPair_84 (by decide) ?_
              exact ih_inner (j + 1) (by omega) (by omega) ls (lv_sub hl [0, 3, 2, 1, 4] rfl)
      have hl : lv_has ls 5 [(4, .int (zI ((i + 1 : Nat) : Int))), (3, .int (zI (i : Int))), (2, .int (zI ((sWi g i (sWo g (gN g) i) (i + 1)).2))), (1, .int (zI ((sWi g i (sWo g (gN g) i) (i + 1)).1))), (0, .ref h)] := by rw [sWi_0 g i _ (i + 1) (Nat.le_refl _)]; exact hl
      exact inner (gN g - (i + 1)) (i + 1) (by omega) (by omega) ls (lv_sub hl [0, 1, 2, 3, 4] rfl)
  exact loop (gN g) 0 (by omega) ls (lv_sub hl [0, 1, 2, 3] rfl)
set_option maxHeartbeats 4000000 in
set_option maxRecDepth 100000 in
/-- nearest -/
theorem c_X1_nearest (l : Launch) (dC : Nat → ClassId) (dI : Nat → Nat → Nat) (cI cZ cS : ClassId) (a : Nat → Nat) (h hs : Nat) (g : Nat → Nat → Int) (r : Int) (hg : gB g r) (u : Int) (hu : -2147483648 ≤ u ∧ u ≤ 2147483647) (k : Int) (hk : -2147483648 ≤ k ∧ k ≤ 2147483647) : Met l yX1_nearest wsX1_nearest ({ frames := 4, cells := 0, slots := 0, locals := 97 } : Room) (rd_Pc dC dI cI cZ cS (stw cI a g ++ mnw a h hs) [.ref h, .int (zI u), .int (zI k)]) (rd_Qc (some (.int (zI (aNear (-1000005) g u k))))) 0 0 nf := by
  refine rd_met (cc := cX1_nearest) (maxL := 5) (ret := (some .int)) (by decide) rfl (Nat.le_of_ble_eq_true rfl) ?_
  intro p e s m below meth c ls hx hb hml hr hlocks hts hown hP hK hl
  have hl : lv_has ls 5 [(0, .ref h), (1, .int (zI u)), (2, .int (zI k))] := hl
  have hinX0 : ∀ w ∈ u_ws RX0 TX0 11, w ∈ wsX1_nearest := by decide +kernel
  have hinX1 : ∀ w ∈ u_ws RX1 TX1 2, w ∈ wsX1_nearest := by decide +kernel
  have f_10 := hts (.fieldLink RX1 10 "NetworkCoordinates" "now" "LNetworkCoordinates$State;") (by decide +kernel)
  have k_107 := hts (.constant RX1 107 (-1000005)) (by decide +kernel)
  have k_24 := hts (.constant RX1 24 (-1000002)) (by decide +kernel)
  have k_51 := hts (.constant RX1 51 (-1000001)) (by decide +kernel)
  have b0 := hg.1
  have hPs : va_P (dC, dI) vwCl (stw cI a g) s.heap := va_P_left hP
  have hN := gN_eq hg
  refine lv_aload_n hx hb dX1_nearest_0 rfl (lv_at hl 0 rfl) ?_
  refine lv_iload_n hx hb dX1_nearest_1 rfl (lv_at hl 1 rfl) ?_
  refine rd_callV (As := [.int (zI u)]) (rest := []) ⟨hx, hb, hml, hown, hts⟩ (c_X1_isNode l dC dI cI cZ cS a h hs g r hg u (by omega)) (cwV 1 hts gX1_nearest_X1_isNode rfl rfl rfl (by decide +kernel) ⟨Nat.le_of_ble_eq_true rfl, Nat.le_of_ble_eq_true rfl⟩) hP hK 7 rfl rfl rfl hl.1 rfl (Nat.le_of_ble_eq_true rfl) dX1_nearest_2 ⟨Nat.zero_le _, Nat.zero_le _⟩ ?_
  refine zr_bif_ne (tgt := 11) hx hb dX1_nearest_5 (by decide) (fun c_5 => ?_) (fun c_5 => ?_)
  · refine lv_iload_n hx hb dX1_nearest_11 rfl (lv_at hl 2 rfl) ?_
    refine zr_iconst hx hb dX1_nearest_12 ?_
    refine lv_aload_n hx hb dX1_nearest_13 rfl (lv_at hl 0 rfl) ?_
    refine va_get (D := (dC, dI)) (ci := 1) (v := .ref (a 0)) (C := RX1) (T := TX1) (N := 2) hx hb hts hinX1 hown hK.1 hP 7 rfl rfl 0 (by decide) f_10 (fun _ h9 => h9) rfl dX1_nearest_14 ?_
    refine va_getN (D := (dC, dI)) (ci := 0) (v := .int (zI (g 0 0))) (C := RX0) (T := TX0) (N := 11) hx hb hts hinX0 hown hK.1 hP 0 rfl rfl 0 (by decide) (hK.nw 0 rfl) (fun _ h9 => h9) rfl dX1_nearest_17 ?_
    refine zr_iconst hx hb dX1_nearest_20 ?_
    refine zr_isub hx hb dX1_nearest_21 ?_
    refine rd_callS (As := [.int (zI k), .int (zI 0), .int (zI (g 0 0 - 2))]) (rest := []) ⟨hx, hb, hml, hown, hts⟩ (c_X1_isWithin l dC dI cI cZ cS k 0 (g 0 0 - 2) (by omega) (by omega) (by omega)) (va_cwS 3 hts gX1_nearest_X1_isWithin rfl rfl rfl (by decide +kernel) ⟨Nat.le_of_ble_eq_true rfl, Nat.le_of_ble_eq_true rfl⟩) va_P_nil hK rfl hl.1 rfl (Nat.le_of_ble_eq_true rfl) dX1_nearest_22 ⟨Nat.zero_le _, Nat.zero_le _⟩ ?_
    refine zr_bif_ne (tgt := 31) hx hb dX1_nearest_25 (by decide) (fun c_25 => ?_) (fun c_25 => ?_)
    · obtain ⟨A, rfl⟩ : ∃ A : Nat, u = (A : Int) := ⟨u.toNat, by omega⟩
      have eA : ((A : Nat) : Int).toNat = A := by omega
      have hA : A < 10 := by omega
      refine zr_ldc hx hb (-1000005) hown k_107 (by decide) dX1_nearest_31 ?_
      refine lv_istore_n (lv' := [(3, .int (zI (-1000005))), (0, .ref h), (1, .int (zI (A : Int))), (2, .int (zI k))]) hx hb dX1_nearest_33 rfl hl (by decide) rfl (fun ls hl => ?_)
      refine zr_iconst hx hb dX1_nearest_34 ?_
      refine lv_istore (lv' := [(4, .int (zI 0)), (3, .int (zI (-1000005))), (0, .ref h), (1, .int (zI (A : Int))), (2, .int (zI k))]) hx hb dX1_nearest_35 hl (by decide) rfl (fun ls hl => ?_)
      have loop : ∀ (k_loop i : Nat), i + k_loop = gN g → ∀ ls : Array Slot, lv_has ls 5 [(4, .int (zI (i : Int))), (3, .int (zI (sNr g A k (-1000005) i))), (0, .ref h), (1, .int (zI (A : Int))), (2, .int (zI k))] → W p l e ({ frames := 4, cells := 0, slots := 0, locals := 97 } : Room) s m [.ref h, .int (zI (A : Int)), .int (zI k)].toArray below meth c s.heap [] 0 0 (MQ below (rd_Qc (some (.int (zI (aNear (-1000005) g (A : Int) k))))) [.ref h, .int (zI (A : Int)), .int (zI k)].toArray s 0 0 nf) (F0 m 37 ls []) := by
        intro k_loop
        induction k_loop with
        | zero =>
          intro i hi ls hl
          refine lv_iload hx hb dX1_nearest_37 (lv_at hl 0 rfl) ?_
          refine lv_aload_n hx hb dX1_nearest_39 rfl (lv_at hl 2 rfl) ?_
          refine va_get (D := (dC, dI)) (ci := 1) (v := .ref (a 0)) (C := RX1) (T := TX1) (N := 2) hx hb hts hinX1 hown hK.1 hP 7 rfl rfl 0 (by decide) f_10 (fun _ h9 => h9) rfl dX1_nearest_40 ?_
          refine va_getN (D := (dC, dI)) (ci := 0) (v := .int (zI (g 0 0))) (C := RX0) (T := TX0) (N := 11) hx hb hts hinX0 hown hK.1 hP 0 rfl rfl 0 (by decide) (hK.nw 0 rfl) (fun _ h9 => h9) rfl dX1_nearest_43 ?_
          refine zr_icmp_ge (tgt := 78) hx hb dX1_nearest_46 (by decide) (by omega) (by omega) (fun c_46 => ?_) (fun c_46 => absurd c_46 (by omega))
          refine lv_iload_n hx hb dX1_nearest_78 rfl (lv_at hl 1 rfl) ?_
          exact rd_iret hx hb hr hlocks (by unfold aNear; rw [if_pos c_5, if_pos c_25, eA, show i = gN g by omega]) dX1_nearest_79
        | succ k_loop ih_loop =>
          intro i hi ls hl
          have s2 := sRk_bd (g := g) (a := A) (b := i) hN.2.2
          refine lv_iload hx hb dX1_nearest_37 (lv_at hl 0 rfl) ?_
          refine lv_aload_n hx hb dX1_nearest_39 rfl (lv_at hl 2 rfl) ?_
          refine va_get (D := (dC, dI)) (ci := 1) (v := .ref (a 0)) (C := RX1) (T := TX1) (N := 2) hx hb hts hinX1 hown hK.1 hP 7 rfl rfl 0 (by decide) f_10 (fun _ h9 => h9) rfl dX1_nearest_40 ?_
          refine va_getN (D := (dC, dI)) (ci := 0) (v := .int (zI (g 0 0))) (C := RX0) (T := TX0) (N := 11) hx hb hts hinX0 hown hK.1 hP 0 rfl rfl 0 (by decide) (hK.nw 0 rfl) (fun _ h9 => h9) rfl dX1_nearest_43 ?_
          refine zr_icmp_ge (tgt := 78) hx hb dX1_nearest_46 (by decide) (by omega) (by omega) (fun c_46 => absurd c_46 (by omega)) (fun c_46 => ?_)
          refine lv_iload hx hb dX1_nearest_49 (lv_at hl 0 rfl) ?_
          refine lv_iload_n hx hb dX1_nearest_51 rfl (lv_at hl 3 rfl) ?_
          refine zr_icmp_eq (tgt := 72) hx hb dX1_nearest_52 (by decide) (by omega) (by omega) (fun c_52 => ?_) (fun c_52 => ?_)
          · have hl : lv_has ls 5 [(4, .int (zI (i : Int))), (3, .int (zI (sNr g A k (-1000005) (i + 1)))), (0, .ref h), (1, .int (zI (A : Int))), (2, .int (zI k))] := by rw [show sNr g A k (-1000005) (i + 1) = sNr g A k (-1000005) i from if_neg (c := i ≠ A ∧ sRk g A i (gN g) = k) (by omega)]; exact hl
            refine zr_iinc (b := ((i + 1 : Nat) : Int)) (lv' := [(4, .int (zI ((i + 1 : Nat) : Int))), (3, .int (zI (sNr g A k (-1000005) (i + 1)))), (0, .ref h), (1, .int (zI (A : Int))), (2, .int (zI k))]) hx hb dX1_nearest_72 hl (k := 0) rfl (by omega) (by decide) rfl (fun ls hl => ?_)
            refine lv_goto (tgt := 37) hx hb dX1_nearest_75 (by decide) ?_
            exact ih_loop (i + 1) (by omega) ls (lv_sub hl [0, 1, 2, 3, 4] rfl)
          · refine lv_aload_n hx hb dX1_nearest_55 rfl (lv_at hl 2 rfl) ?_
            refine va_get (D := (dC, dI)) (ci := 1) (v := .ref (a 0)) (C := RX1) (T := TX1) (N := 2) hx hb hts hinX1 hown hK.1 hP 7 rfl rfl 0 (by decide) f_10 (fun _ h9 => h9) rfl dX1_nearest_56 ?_
            refine lv_iload_n hx hb dX1_nearest_59 rfl (lv_at hl 3 rfl) ?_
            refine lv_iload hx hb dX1_nearest_60 (lv_at hl 0 rfl) ?_
            refine rd_callV (As := [.int (zI (A : Int)), .int (zI (i : Int))]) (rest := []) ⟨hx, hb, hml, hown, hts⟩ (c_X0_rankOf l dC dI cI cZ cS a g r hg A i (by omega) (by omega)) (cwV 2 hts gX1_nearest_X0_rankOf rfl rfl rfl (by decide +kernel) ⟨Nat.le_of_ble_eq_true rfl, Nat.le_of_ble_eq_true rfl⟩) hPs hK 0 rfl rfl rfl hl.1 rfl (Nat.le_of_ble_eq_true rfl) dX1_nearest_62 ⟨Nat.zero_le _, Nat.zero_le _⟩ ?_
            refine lv_iload_n hx hb dX1_nearest_65 rfl (lv_at hl 4 rfl) ?_
            refine zr_icmp_ne (tgt := 72) hx hb dX1_nearest_66 (by decide) (by omega) (by omega) (fun c_66 => ?_) (fun c_66 => ?_)
            · have hl : lv_has ls 5 [(4, .int (zI (i : Int))), (3, .int (zI (sNr g A k (-1000005) (i + 1)))), (0, .ref h), (1, .int (zI (A : Int))), (2, .int (zI k))] := by rw [show sNr g A k (-1000005) (i + 1) = sNr g A k (-1000005) i from if_neg (c := i ≠ A ∧ sRk g A i (gN g) = k) (by omega)]; exact hl
              refine zr_iinc (b := ((i + 1 : Nat) : Int)) (lv' := [(4, .int (zI ((i + 1 : Nat) : Int))), (3, .int (zI (sNr g A k (-1000005) (i + 1)))), (0, .ref h), (1, .int (zI (A : Int))), (2, .int (zI k))]) hx hb dX1_nearest_72 hl (k := 0) rfl (by omega) (by decide) rfl (fun ls hl => ?_)
              refine lv_goto (tgt := 37) hx hb dX1_nearest_75 (by decide) ?_
              exact ih_loop (i + 1) (by omega) ls (lv_sub hl [0, 1, 2, 3, 4] rfl)
            · refine lv_iload hx hb dX1_nearest_69 (lv_at hl 0 rfl) ?_
              refine zr_topI (sNr g A k (-1000005) (i + 1)) (if_pos (c := i ≠ A ∧ sRk g A i (gN g) = k) (by omega)).symm ?_
              refine lv_istore_n (lv' := [(3, .int (zI (sNr g A k (-1000005) (i + 1)))), (4, .int (zI (i : Int))), (0, .ref h), (1, .int (zI (A : Int))), (2, .int (zI k))]) hx hb dX1_nearest_71 rfl hl (by decide) rfl (fun ls hl => ?_)
              refine zr_iinc (b := ((i + 1 : Nat) : Int)) (lv' := [(4, .int (zI ((i + 1 : Nat) : Int))), (3, .int (zI (sNr g A k (-1000005) (i + 1)))), (0, .ref h), (1, .int (zI (A : Int))), (2, .int (zI k))]) hx hb dX1_nearest_72 hl (k := 1) rfl (by omega) (by decide) rfl (fun ls hl => ?_)
              refine lv_goto (tgt := 37) hx hb dX1_nearest_75 (by decide) ?_
              exact ih_loop (i + 1) (by omega) ls (lv_sub hl [0, 1, 2, 3, 4] rfl)
      exact loop (gN g) 0 (by omega) ls (lv_sub hl [0, 1, 2, 3, 4] rfl)
    · refine zr_ldc hx hb (-1000002) hown k_24 (by decide) dX1_nearest_28 ?_
      exact rd_iret hx hb hr hlocks (by unfold aNear; rw [if_pos c_5, if_neg c_25]) dX1_nearest_30
  · refine zr_ldc hx hb (-1000001) hown k_51 (by decide) dX1_nearest_8 ?_
    exact rd_iret hx hb hr hlocks (by unfold aNear; rw [if_neg c_5]) dX1_nearest_10
set_option maxHeartbeats 4000000 in
set_option maxRecDepth 100000 in
/-- relay -/
theorem c_X1_relay (l : Launch) (dC : Nat → ClassId) (dI : Nat → Nat → Nat) (cI cZ cS : ClassId) (a : Nat → Nat) (h hs : Nat) (g : Nat → Nat → Int) (r : Int) (hg : gB g r) (u : Int) (hu : -2147483648 ≤ u ∧ u ≤ 2147483647) (v : Int) (hv : -2147483648 ≤ v ∧ v ≤ 2147483647) : Met l yX1_relay wsX1_relay ({ frames := 3, cells := 0, slots := 0, locals := 71 } : Room) (rd_Pc dC dI cI cZ cS (stw cI a g ++ mnw a h hs) [.ref h, .int (zI u), .int (zI v)]) (rd_Qc (some (.int (zI (aRelayC g u v))))) 0 0 nf := by
  refine rd_met (cc := cX1_relay) (maxL := 8) (ret := (some .int)) (by decide) rfl (Nat.le_of_ble_eq_true rfl) ?_
  intro p e s m below meth c ls hx hb hml hr hlocks hts hown hP hK hl
  have hl : lv_has ls 8 [(0, .ref h), (1, .int (zI u)), (2, .int (zI v))] := hl
  have hinX0 : ∀ w ∈ u_ws RX0 TX0 11, w ∈ wsX1_relay := by decide +kernel
  have hinX1 : ∀ w ∈ u_ws RX1 TX1 2, w ∈ wsX1_relay := by decide +kernel
  have k_107 := hts (.constant RX1 107 (-1000005)) (by decide +kernel)
  have k_117 := hts (.constant RX1 117 (2147483647)) (by decide +kernel)
  have f_10 := hts (.fieldLink RX1 10 "NetworkCoordinates" "now" "LNetworkCoordinates$State;") (by decide +kernel)
  have b0 := hg.1
  have hPs : va_P (dC, dI) vwCl (stw cI a g) s.heap := va_P_left hP
  have hN := gN_eq hg
  have s0 := sPf_rng g u v
  refine lv_aload_n hx hb dX1_relay_0 rfl (lv_at hl 0 rfl) ?_
  refine lv_iload_n hx hb dX1_relay_1 rfl (lv_at hl 1 rfl) ?_
  refine lv_iload_n hx hb dX1_relay_2 rfl (lv_at hl 2 rfl) ?_
  refine rd_callV (As := [.int (zI u), .int (zI v)]) (rest := []) ⟨hx, hb, hml, hown, hts⟩ (c_X1_pairFault l dC dI cI cZ cS a h hs g r hg u (by omega) v (by omega)) (cwV 2 hts gX1_relay_X1_pairFault rfl rfl rfl (by decide +kernel) ⟨Nat.le_of_ble_eq_true rfl, Nat.le_of_ble_eq_true rfl⟩) hP hK 7 rfl rfl rfl hl.1 rfl (Nat.le_of_ble_eq_true rfl) dX1_relay_3 ⟨Nat.zero_le _, Nat.zero_le _⟩ ?_
  refine lv_istore_n (lv' := [(3, .int (zI (sPf g u v))), (0, .ref h), (1, .int (zI u)), (2, .int (zI v))]) hx hb dX1_relay_6 rfl hl (by decide) rfl (fun ls hl => ?_)
  refine lv_iload_n hx hb dX1_relay_7 rfl (lv_at hl 0 rfl) ?_
  refine zr_if_eq (tgt := 13) hx hb dX1_relay_8 (by decide) (by omega) (fun c_8 => ?_) (fun c_8 => ?_)
  · obtain ⟨A, B, rfl, rfl, hA2, hB2, hA, hB, hAB, eA, eB⟩ := z_nodes hg c_8
    have kAB := hg.2.2 A B hA hB
    refine zr_ldc hx hb (-1000005) hown k_107 (by decide) dX1_relay_13 ?_
    refine lv_istore (lv' := [(4, .int (zI (-1000005))), (3, .int (zI (sPf g (A : Int) (B : Int)))), (0, .ref h), (1, .int (zI (A : Int))), (2, .int (zI (B : Int)))]) hx hb dX1_relay_15 hl (by decide) rfl (fun ls hl => ?_)
    refine zr_ldc hx hb (2147483647) hown k_117 (by decide) dX1_relay_17 ?_
    refine lv_istore (lv' := [(5, .int (zI 2147483647)), (4, .int (zI (-1000005))), (3, .int (zI (sPf g (A : Int) (B : Int)))), (0, .ref h), (1, .int (zI (A : Int))), (2, .int (zI (B : Int)))]) hx hb dX1_relay_19 hl (by decide) rfl (fun ls hl => ?_)
    refine zr_iconst hx hb dX1_relay_21 ?_
    refine lv_istore (lv' := [(6, .int (zI 0)), (5, .int (zI 2147483647)), (4, .int (zI (-1000005))), (3, .int (zI (sPf g (A : Int) (B : Int)))), (0, .ref h), (1, .int (zI (A : Int))), (2, .int (zI (B : Int)))]) hx hb dX1_relay_22 hl (by decide) rfl (fun ls hl => ?_)
    have loop : ∀ (k_loop i : Nat), i + k_loop = gN g → ∀ ls : Array Slot, lv_has ls 8 [(6, .int (zI (i : Int))), (5, .int (zI ((sRc g A B i).2))), (4, .int (zI ((sRc g A B i).1))), (0, .ref h), (1, .int (zI (A : Int))), (2, .int (zI (B : Int)))] → W p l e ({ frames := 3, cells := 0, slots := 0, locals := 71 } : Room) s m [.ref h, .int (zI (A : Int)), .int (zI (B : Int))].toArray below meth c s.heap [] 0 0 (MQ below (rd_Qc (some (.int (zI (aRelayC g (A : Int) (B : Int)))))) [.ref h, .int (zI (A : Int)), .int (zI (B : Int))].toArray s 0 0 nf) (F0 m 24 ls []) := by
      intro k_loop
      induction k_loop with
      | zero =>
        intro i hi ls hl
        refine lv_iload hx hb dX1_relay_24 (lv_at hl 0 rfl) ?_
        refine lv_aload_n hx hb dX1_relay_26 rfl (lv_at hl 3 rfl) ?_
        refine va_get (D := (dC, dI)) (ci := 1) (v := .ref (a 0)) (C := RX1) (T := TX1) (N := 2) hx hb hts hinX1 hown hK.1 hP 7 rfl rfl 0 (by decide) f_10 (fun _ h9 => h9) rfl dX1_relay_27 ?_
        refine va_getN (D := (dC, dI)) (ci := 0) (v := .int (zI (g 0 0))) (C := RX0) (T := TX0) (N := 11) hx hb hts hinX0 hown hK.1 hP 0 rfl rfl 0 (by decide) (hK.nw 0 rfl) (fun _ h9 => h9) rfl dX1_relay_30 ?_
        refine zr_icmp_ge (tgt := 92) hx hb dX1_relay_33 (by decide) (by omega) (by omega) (fun c_33 => ?_) (fun c_33 => absurd c_33 (by omega))
        refine lv_iload hx hb dX1_relay_92 (lv_at hl 2 rfl) ?_
        exact rd_iret hx hb hr hlocks (by unfold aRelayC; rw [if_pos c_8, eA, eB, show i = gN g by omega]) dX1_relay_94
      | succ k_loop ih_loop =>
        intro i hi ls hl
        have s1 := sWay_bd hg hA hB (show i < 10 by omega)
        have s2 := sRc_bd hg hA hB i (by omega)
        refine lv_iload hx hb dX1_relay_24 (lv_at hl 0 rfl) ?_
        refine lv_aload_n hx hb dX1_relay_26 rfl (lv_at hl 3 rfl) ?_
        refine va_get (D := (dC, dI)) (ci := 1) (v := .ref (a 0)) (C := RX1) (T := TX1) (N := 2) hx hb hts hinX1 hown hK.1 hP 7 rfl rfl 0 (by decide) f_10 (fun _ h9 => h9) rfl dX1_relay_27 ?_
        refine va_getN (D := (dC, dI)) (ci := 0) (v := .int (zI (g 0 0))) (C := RX0) (T := TX0) (N := 11) hx hb hts hinX0 hown hK.1 hP 0 rfl rfl 0 (by decide) (hK.nw 0 rfl) (fun _ h9 => h9) rfl dX1_relay_30 ?_
        refine zr_icmp_ge (tgt := 92) hx hb dX1_relay_33 (by decide) (by omega) (by omega) (fun c_33 => absurd c_33 (by omega)) (fun c_33 => ?_)
        refine lv_iload hx hb dX1_relay_36 (lv_at hl 0 rfl) ?_
        refine lv_iload_n hx hb dX1_relay_38 rfl (lv_at hl 4 rfl) ?_
        refine zr_icmp_eq (tgt := 86) hx hb dX1_relay_39 (by decide) (by omega) (by omega) (fun c_39 => ?_) (fun c_39 => ?_)
        · have e1 : sRc g A B (i + 1) = sRc g A B i := by rw [show sRc g A B (i + 1) = (if i ≠ A ∧ i ≠ B ∧ sWay g A B i < (sRc g A B i).2 then ((i : Int), sWay g A B i) else sRc g A B i) from rfl]; exact if_neg (by omega)
          have hl : lv_has ls 8 [(6, .int (zI (i : Int))), (5, .int (zI ((sRc g A B (i + 1)).2))), (4, .int (zI ((sRc g A B (i + 1)).1))), (0, .ref h), (1, .int (zI (A : Int))), (2, .int (zI (B : Int)))] := by rw [e1]; exact hl
          refine zr_iinc (b := ((i + 1 : Nat) : Int)) (lv' := [(6, .int (zI ((i + 1 : Nat) : Int))), (5, .int (zI ((sRc g A B (i + 1)).2))), (4, .int (zI ((sRc g A B (i + 1)).1))), (0, .ref h), (1, .int (zI (A : Int))), (2, .int (zI (B : Int)))]) hx hb dX1_relay_86 hl (k := 0) rfl (by omega) (by decide) rfl (fun ls hl => ?_)
          refine lv_goto (tgt := 24) hx hb dX1_relay_89 (by decide) ?_
          exact ih_loop (i + 1) (by omega) ls (lv_sub hl [0, 1, 2, 3, 4, 5] rfl)
        · refine lv_iload hx hb dX1_relay_42 (lv_at hl 0 rfl) ?_
          refine lv_iload_n hx hb dX1_relay_44 rfl (lv_at hl 5 rfl) ?_
          refine zr_icmp_eq (tgt := 86) hx hb dX1_relay_45 (by decide) (by omega) (by omega) (fun c_45 => ?_) (fun c_45 => ?_)
          · have e1 : sRc g A B (i + 1) = sRc g A B i := by rw [show sRc g A B (i + 1) = (if i ≠ A ∧ i ≠ B ∧ sWay g A B i < (sRc g A B i).2 then ((i : Int), sWay g A B i) else sRc g A B i) from rfl]; exact if_neg (by omega)
            have hl : lv_has ls 8 [(6, .int (zI (i : Int))), (5, .int (zI ((sRc g A B (i + 1)).2))), (4, .int (zI ((sRc g A B (i + 1)).1))), (0, .ref h), (1, .int (zI (A : Int))), (2, .int (zI (B : Int)))] := by rw [e1]; exact hl
            refine zr_iinc (b := ((i + 1 : Nat) : Int)) (lv' := [(6, .int (zI ((i + 1 : Nat) : Int))), (5, .int (zI ((sRc g A B (i + 1)).2))), (4, .int (zI ((sRc g A B (i + 1)).1))), (0, .ref h), (1, .int (zI (A : Int))), (2, .int (zI (B : Int)))]) hx hb dX1_relay_86 hl (k := 0) rfl (by omega) (by decide) rfl (fun ls hl => ?_)
            refine lv_goto (tgt := 24) hx hb dX1_relay_89 (by decide) ?_
            exact ih_loop (i + 1) (by omega) ls (lv_sub hl [0, 1, 2, 3, 4, 5] rfl)
          · refine lv_aload_n hx hb dX1_relay_48 rfl (lv_at hl 3 rfl) ?_
            refine va_get (D := (dC, dI)) (ci := 1) (v := .ref (a 0)) (C := RX1) (T := TX1) (N := 2) hx hb hts hinX1 hown hK.1 hP 7 rfl rfl 0 (by decide) f_10 (fun _ h9 => h9) rfl dX1_relay_49 ?_
            refine lv_iload_n hx hb dX1_relay_52 rfl (lv_at hl 4 rfl) ?_
            refine lv_iload hx hb dX1_relay_53 (lv_at hl 0 rfl) ?_
            refine rd_callV (As := [.int (zI (A : Int)), .int (zI (i : Int))]) (rest := []) ⟨hx, hb, hml, hown, hts⟩ (c_X0_predicted l dC dI cI cZ cS a g r hg A i (by omega) (by omega)) (cwV 2 hts gX1_relay_X0_predicted rfl rfl rfl (by decide +kernel) ⟨Nat.le_of_ble_eq_true rfl, Nat.le_of_ble_eq_true rfl⟩) hPs hK 0 rfl rfl rfl hl.1 rfl (Nat.le_of_ble_eq_true rfl) dX1_relay_55 ⟨Nat.zero_le _, Nat.zero_le _⟩ ?_
            refine lv_aload_n hx hb dX1_relay_58 rfl (lv_at hl 3 rfl) ?_
            refine va_get (D := (dC, dI)) (ci := 1) (v := .ref (a 0)) (C := RX1) (T := TX1) (N := 2) hx hb hts hinX1 hown hK.1 hP 7 rfl rfl 0 (by decide) f_10 (fun _ h9 => h9) rfl dX1_relay_59 ?_
            refine lv_iload hx hb dX1_relay_62 (lv_at hl 0 rfl) ?_
            refine lv_iload_n hx hb dX1_relay_64 rfl (lv_at hl 5 rfl) ?_
            refine rd_callV (As := [.int (zI (i : Int)), .int (zI (B : Int))]) (rest := [.int (zI (sPrd g A i))]) ⟨hx, hb, hml, hown, hts⟩ (c_X0_predicted l dC dI cI cZ cS a g r hg i B (by omega) (by omega)) (cwV 2 hts gX1_relay_X0_predicted rfl rfl rfl (by decide +kernel) ⟨Nat.le_of_ble_eq_true rfl, Nat.le_of_ble_eq_true rfl⟩) hPs hK 0 rfl rfl rfl hl.1 rfl (Nat.le_of_ble_eq_true rfl) dX1_relay_65 ⟨Nat.zero_le _, Nat.zero_le _⟩ ?_
            refine zr_iadd hx hb dX1_relay_68 ?_
            refine zr_topI (sWay g A B i) rfl ?_
            refine lv_istore (lv' := [(7, .int (zI (sWay g A B i))), (6, .int (zI (i : Int))), (5, .int (zI ((sRc g A B i).2))), (4, .int (zI ((sRc g A B i).1))), (0, .ref h), (1, .int (zI (A : Int))), (2, .int (zI (B : Int)))]) hx hb dX1_relay_69 hl (by decide) rfl (fun ls hl => ?_)
            refine lv_iload hx hb dX1_relay_71 (lv_at hl 0 rfl) ?_
            refine lv_iload hx hb dX1_relay_73 (lv_at hl 2 rfl) ?_
            refine zr_icmp_ge (tgt := 86) hx hb dX1_relay_75 (by decide) (by omega) (by omega) (fun c_75 => ?_) (fun c_75 => ?_)
            · have e1 : sRc g A B (i + 1) = sRc g A B i := by rw [show sRc g A B (i + 1) = (if i ≠ A ∧ i ≠ B ∧ sWay g A B i < (sRc g A B i).2 then ((i : Int), sWay g A B i) else sRc g A B i) from rfl]; exact if_neg (by omega)
              have hl : lv_has ls 8 [(7, .int (zI (sWay g A B i))), (6, .int (zI (i : Int))), (5, .int (zI ((sRc g A B (i + 1)).2))), (4, .int (zI ((sRc g A B (i + 1)).1))), (0, .ref h), (1, .int (zI (A : Int))), (2, .int (zI (B : Int)))] := by rw [e1]; exact hl
              refine zr_iinc (b := ((i + 1 : Nat) : Int)) (lv' := [(6, .int (zI ((i + 1 : Nat) : Int))), (7, .int (zI (sWay g A B i))), (5, .int (zI ((sRc g A B (i + 1)).2))), (4, .int (zI ((sRc g A B (i + 1)).1))), (0, .ref h), (1, .int (zI (A : Int))), (2, .int (zI (B : Int)))]) hx hb dX1_relay_86 hl (k := 1) rfl (by omega) (by decide) rfl (fun ls hl => ?_)
              refine lv_goto (tgt := 24) hx hb dX1_relay_89 (by decide) ?_
              exact ih_loop (i + 1) (by omega) ls (lv_sub hl [0, 2, 3, 4, 5, 6] rfl)
            · have e1 : sRc g A B (i + 1) = ((i : Int), sWay g A B i) := by rw [show sRc g A B (i + 1) = (if i ≠ A ∧ i ≠ B ∧ sWay g A B i < (sRc g A B i).2 then ((i : Int), sWay g A B i) else sRc g A B i) from rfl]; exact if_pos (by omega)
              refine lv_iload hx hb dX1_relay_78 (lv_at hl 0 rfl) ?_
              refine zr_topI ((sRc g A B (i + 1)).2) (by rw [e1]) ?_
              refine lv_istore (lv' := [(5, .int (zI ((sRc g A B (i + 1)).2))), (7, .int (zI (sWay g A B i))), (6, .int (zI (i : Int))), (4, .int (zI ((sRc g A B i).1))), (0, .ref h), (1, .int (zI (A : Int))), (2, .int (zI (B : Int)))]) hx hb dX1_relay_80 hl (by decide) rfl (fun ls hl => ?_)
              refine lv_iload hx hb dX1_relay_82 (lv_at hl 2 rfl) ?_
              refine zr_topI ((sRc g A B (i + 1)).1) (by rw [e1]) ?_
              refine lv_istore (lv' := [(4, .int (zI ((sRc g A B (i + 1)).1))), (5, .int (zI ((sRc g A B (i + 1)).2))), (7, .int (zI (sWay g A B i))), (6, .int (zI (i : Int))), (0, .ref h), (1, .int (zI (A : Int))), (2, .int (zI (B : Int)))]) hx hb dX1_relay_84 hl (by decide) rfl (fun ls hl => ?_)
              refine zr_iinc (b := ((i + 1 : Nat) : Int)) (lv' := [(6, .int (zI ((i + 1 : Nat) : Int))), (4, .int (zI ((sRc g A B (i + 1)).1))), (5, .int (zI ((sRc g A B (i + 1)).2))), (7, .int (zI (sWay g A B i))), (0, .ref h), (1, .int (zI (A : Int))), (2, .int (zI (B : Int)))]) hx hb dX1_relay_86 hl (k := 3) rfl (by omega) (by decide) rfl (fun ls hl => ?_)
              refine lv_goto (tgt := 24) hx hb dX1_relay_89 (by decide) ?_
              exact ih_loop (i + 1) (by omega) ls (lv_sub hl [0, 2, 1, 4, 5, 6] rfl)
    exact loop (gN g) 0 (by omega) ls (lv_sub hl [0, 1, 2, 4, 5, 6] rfl)
  · refine lv_iload_n hx hb dX1_relay_11 rfl (lv_at hl 0 rfl) ?_
    exact rd_iret hx hb hr hlocks (by unfold aRelayC; rw [if_neg c_8]) dX1_relay_12
set_option maxHeartbeats 4000000 in
set_option maxRecDepth 100000 in
/-- triangles -/
theorem c_X1_triangles (l : Launch) (dC : Nat → ClassId) (dI : Nat → Nat → Nat) (cI cZ cS : ClassId) (a : Nat → Nat) (h hs : Nat) (g : Nat → Nat → Int) (r : Int) (hg : gB g r) : Met l yX1_triangles wsX1_triangles ({ frames := 3, cells := 0, slots := 0, locals := 67 } : Room) (rd_Pc dC dI cI cZ cS (stw cI a g ++ mnw a h hs) [.ref h]) (rd_Qc (some (.int (zI (sTn g (gN g) (gN g)))))) 0 0 nf := by
  refine rd_met (cc := cX1_triangles) (maxL := 5) (ret := (some .int)) (by decide) rfl (Nat.le_of_ble_eq_true rfl) ?_
  intro p e s m below meth c ls hx hb hml hr hlocks hts hown hP hK hl
  have hl : lv_has ls 5 [(0, .ref h)] := hl
  have hinX0 : ∀ w ∈ u_ws RX0 TX0 11, w ∈ wsX1_triangles := by decide +kernel
  have hinX1 : ∀ w ∈ u_ws RX1 TX1 2, w ∈ wsX1_triangles := by decide +kernel
  have f_10 := hts (.fieldLink RX1 10 "NetworkCoordinates" "now" "LNetworkCoordinates$State;") (by decide +kernel)
  have b0 := hg.1
  have hPs : va_P (dC, dI) vwCl (stw cI a g) s.heap := va_P_left hP
  have hN := gN_eq hg
  refine zr_iconst hx hb dX1_triangles_0 ?_
  refine lv_istore_n (lv' := [(1, .int (zI 0)), (0, .ref h)]) hx hb dX1_triangles_1 rfl hl (by decide) rfl (fun ls hl => ?_)
  refine zr_iconst hx hb dX1_triangles_2 ?_
  refine lv_istore_n (lv' := [(2, .int (zI 0)), (1, .int (zI 0)), (0, .ref h)]) hx hb dX1_triangles_3 rfl hl (by decide) rfl (fun ls hl => ?_)
  have loop : ∀ (k_loop i : Nat), i + k_loop = gN g → ∀ ls : Array Slot, lv_has ls 5 [(2, .int (zI (i : Int))), (1, .int (zI (sTn g (gN g) i))), (0, .ref h)] → W p l e ({ frames := 3, cells := 0, slots := 0, locals := 67 } : Room) s m [.ref h].toArray below meth c s.heap [] 0 0 (MQ below (rd_Qc (some (.int (zI (sTn g (gN g) (gN g)))))) [.ref h].toArray s 0 0 nf) (F0 m 4 ls []) := by
    intro k_loop
    induction k_loop with
    | zero =>
      intro i hi ls hl
      refine lv_iload_n hx hb dX1_triangles_4 rfl (lv_at hl 0 rfl) ?_
      refine lv_aload_n hx hb dX1_triangles_5 rfl (lv_at hl 2 rfl) ?_
      refine va_get (D := (dC, dI)) (ci := 1) (v := .ref (a 0)) (C := RX1) (T := TX1) (N := 2) hx hb hts hinX1 hown hK.1 hP 7 rfl rfl 0 (by decide) f_10 (fun _ h9 => h9) rfl dX1_triangles_6 ?_
      refine va_getN (D := (dC, dI)) (ci := 0) (v := .int (zI (g 0 0))) (C := RX0) (T := TX0) (N := 11) hx hb hts hinX0 hown hK.1 hP 0 rfl rfl 0 (by decide) (hK.nw 0 rfl) (fun _ h9 => h9) rfl dX1_triangles_9 ?_
      refine zr_icmp_ge (tgt := 82) hx hb dX1_triangles_12 (by decide) (by omega) (by omega) (fun c_12 => ?_) (fun c_12 => absurd c_12 (by omega))
      refine lv_iload_n hx hb dX1_triangles_82 rfl (lv_at hl 1 rfl) ?_
      exact rd_iret hx hb hr hlocks (by rw [show i = gN g by omega]) dX1_triangles_83
    | succ k_loop ih_loop =>
      intro i hi ls hl
      have hi10 : i < 10 := by omega
      refine lv_iload_n hx hb dX1_triangles_4 rfl (lv_at hl 0 rfl) ?_
      refine lv_aload_n hx hb dX1_triangles_5 rfl (lv_at hl 2 rfl) ?_
      refine va_get (D := (dC, dI)) (ci := 1) (v := .ref (a 0)) (C := RX1) (T := TX1) (N := 2) hx hb hts hinX1 hown hK.1 hP 7 rfl rfl 0 (by decide) f_10 (fun _ h9 => h9) rfl dX1_triangles_6 ?_
      refine va_getN (D := (dC, dI)) (ci := 0) (v := .int (zI (g 0 0))) (C := RX0) (T := TX0) (N := 11) hx hb hts hinX0 hown hK.1 hP 0 rfl rfl 0 (by decide) (hK.nw 0 rfl) (fun _ h9 => h9) rfl dX1_triangles_9 ?_
      refine zr_icmp_ge (tgt := 82) hx hb dX1_triangles_12 (by decide) (by omega) (by omega) (fun c_12 => absurd c_12 (by omega)) (fun c_12 => ?_)
      refine lv_iload_n hx hb dX1_triangles_15 rfl (lv_at hl 0 rfl) ?_
      refine zr_iconst hx hb dX1_triangles_16 ?_
      refine zr_iadd hx hb dX1_triangles_17 ?_
      refine zr_topI ((i + 1 : Nat) : Int) (by omega) ?_
      refine lv_istore_n (lv' := [(3, .int (zI ((i + 1 : Nat) : Int))), (2, .int (zI (i : Int))), (1, .int (zI (sTn g (gN g) i))), (0, .ref h)]) hx hb dX1_triangles_18 rfl hl (by decide) rfl (fun ls hl => ?_)
      have inner : ∀ (k_inner j : Nat), j + k_inner = gN g → i < j → ∀ ls : Array Slot, lv_has ls 5 [(3, .int (zI (j : Int))), (2, .int (zI (i : Int))), (1, .int (zI (sTn g (gN g) i + sTj g (gN g) i j))), (0, .ref h)] → W p l e ({ frames := 3, cells := 0, slots := 0, locals := 67 } : Room) s m [.ref h].toArray below meth c s.heap [] 0 0 (MQ below (rd_Qc (some (.int (zI (sTn g (gN g) (gN g)))))) [.ref h].toArray s 0 0 nf) (F0 m 19 ls []) := by
        intro k_inner
        induction k_inner with
        | zero =>
          intro j hj hij ls hl
          refine lv_iload_n hx hb dX1_triangles_19 rfl (lv_at hl 0 rfl) ?_
          refine lv_aload_n hx hb dX1_triangles_20 rfl (lv_at hl 3 rfl) ?_
          refine va_get (D := (dC, dI)) (ci := 1) (v := .ref (a 0)) (C := RX1) (T := TX1) (N := 2) hx hb hts hinX1 hown hK.1 hP 7 rfl rfl 0 (by decide) f_10 (fun _ h9 => h9) rfl dX1_triangles_21 ?_
          refine va_getN (D := (dC, dI)) (ci := 0) (v := .int (zI (g 0 0))) (C := RX0) (T := TX0) (N := 11) hx hb hts hinX0 hown hK.1 hP 0 rfl rfl 0 (by decide) (hK.nw 0 rfl) (fun _ h9 => h9) rfl dX1_triangles_24 ?_
          refine zr_icmp_ge (tgt := 76) hx hb dX1_triangles_27 (by decide) (by omega) (by omega) (fun c_27 => ?_) (fun c_27 => absurd c_27 (by omega))
          have hj2 : j = gN g := by omega
          have hl : lv_has ls 5 [(3, .int (zI (j : Int))), (2, .int (zI (i : Int))), (1, .int (zI (sTn g (gN g) (i + 1)))), (0, .ref h)] := by rw [show sTn g (gN g) (i + 1) = sTn g (gN g) i + sTj g (gN g) i j from by rw [hj2]; rfl]; exact hl
          refine zr_iinc (b := ((i + 1 : Nat) : Int)) (lv' := [(2, .int (zI ((i + 1 : Nat) : Int))), (3, .int (zI (j : Int))), (1, .int (zI (sTn g (gN g) (i + 1)))), (0, .ref h)]) hx hb dX1_triangles_76 hl (k := 1) rfl (by omega) (by decide) rfl (fun ls hl => ?_)
          refine lv_goto (tgt := 4) hx hb dX1_triangles_79 (by decide) ?_
          exact ih_loop (i + 1) (by omega) ls (lv_sub hl [0, 2, 3] rfl)
        | succ k_inner ih_inner =>
          intro j hj hij ls hl
          have hj10 : j < 10 := by omega
          refine lv_iload_n hx hb dX1_triangles_19 rfl (lv_at hl 0 rfl) ?_
          refine lv_aload_n hx hb dX1_triangles_20 rfl (lv_at hl 3 rfl) ?_
          refine va_get (D := (dC, dI)) (ci := 1) (v := .ref (a 0)) (C := RX1) (T := TX1) (N := 2) hx hb hts hinX1 hown hK.1 hP 7 rfl rfl 0 (by decide) f_10 (fun _ h9 => h9) rfl dX1_triangles_21 ?_
          refine va_getN (D := (dC, dI)) (ci := 0) (v := .int (zI (g 0 0))) (C := RX0) (T := TX0) (N := 11) hx hb hts hinX0 hown hK.1 hP 0 rfl rfl 0 (by decide) (hK.nw 0 rfl) (fun _ h9 => h9) rfl dX1_triangles_24 ?_
          refine zr_icmp_ge (tgt := 76) hx hb dX1_triangles_27 (by decide) (by omega) (by omega) (fun c_27 => absurd c_27 (by omega)) (fun c_27 => ?_)
          refine lv_iload_n hx hb dX1_triangles_30 rfl (lv_at hl 0 rfl) ?_
          refine zr_iconst hx hb dX1_triangles_31 ?_
          refine zr_iadd hx hb dX1_triangles_32 ?_
          refine zr_topI ((j + 1 : Nat) : Int) (by omega) ?_
          refine lv_istore (lv' := [(4, .int (zI ((j + 1 : Nat) : Int))), (3, .int (zI (j : Int))), (2, .int (zI (i : Int))), (1, .int (zI (sTn g (gN g) i + sTj g (gN g) i j))), (0, .ref h)]) hx hb dX1_triangles_33 hl (by decide) rfl (fun ls hl => ?_)
          have deep : ∀ (k_deep k : Nat), k + k_deep = gN g → j < k → ∀ ls : Array Slot, lv_has ls 5 [(4, .int (zI (k : Int))), (3, .int (zI (j : Int))), (2, .int (zI (i : Int))), (1, .int (zI (sTn g (gN g) i + sTj g (gN g) i j + sTi g i j k))), (0, .ref h)] → W p l e ({ frames := 3, cells := 0, slots := 0, locals := 67 } : Room) s m [.ref h].toArray below meth c s.heap [] 0 0 (MQ below (rd_Qc (some (.int (zI (sTn g (gN g) (gN g)))))) [.ref h].toArray s 0 0 nf) (F0 m 35 ls []) := by
            intro k_deep
            induction k_deep with
            | zero =>
              intro k hk hjk ls hl
              refine lv_iload hx hb dX1_triangles_35 (lv_at hl 0 rfl) ?_
              refine lv_aload_n hx hb dX1_triangles_37 rfl (lv_at hl 4 rfl) ?_
              refine va_get (D := (dC, dI)) (ci := 1) (v := .ref (a 0)) (C := RX1) (T := TX1) (N := 2) hx hb hts hinX1 hown hK.1 hP 7 rfl rfl 0 (by decide) f_10 (fun _ h9 => h9) rfl dX1_triangles_38 ?_
              refine va_getN (D := (dC, dI)) (ci := 0) (v := .int (zI (g 0 0))) (C := RX0) (T := TX0) (N := 11) hx hb hts hinX0 hown hK.1 hP 0 rfl rfl 0 (by decide) (hK.nw 0 rfl) (fun _ h9 => h9) rfl dX1_triangles_41 ?_
              refine zr_icmp_ge (tgt := 70) hx hb dX1_triangles_44 (by decide) (by omega) (by omega) (fun c_44 => ?_) (fun c_44 => absurd c_44 (by omega))
              have hk2 : k = gN g := by omega
              have hl : lv_has ls 5 [(4, .int (zI (k : Int))), (3, .int (zI (j : Int))), (2, .int (zI (i : Int))), (1, .int (zI (sTn g (gN g) i + sTj g (gN g) i (j + 1)))), (0, .ref h)] := by rw [show sTj g (gN g) i (j + 1) = sTj g (gN g) i j + sTi g i j k from by unfold sTj; rw [sm_succ, if_pos hij, hk2], ← Int.add_assoc]; exact hl
              refine zr_iinc (b := ((j + 1 : Nat) : Int)) (lv' := [(3, .int (zI ((j + 1 : Nat) : Int))), (4, .int (zI (k : Int))), (2, .int (zI (i : Int))), (1, .int (zI (sTn g (gN g) i + sTj g (gN g) i (j + 1)))), (0, .ref h)]) hx hb dX1_triangles_70 hl (k := 1) rfl (by omega) (by decide) rfl (fun ls hl => ?_)
              refine lv_goto (tgt := 19) hx hb dX1_triangles_73 (by decide) ?_
              exact ih_inner (j + 1) (by omega) (by omega) ls (lv_sub hl [0, 2, 3, 4] rfl)
            | succ k_deep ih_deep =>
              intro k hk hjk ls hl
              have hk10 : k < 10 := by omega
              refine lv_iload hx hb dX1_triangles_35 (lv_at hl 0 rfl) ?_
              refine lv_aload_n hx hb dX1_triangles_37 rfl (lv_at hl 4 rfl) ?_
              refine va_get (D := (dC, dI)) (ci := 1) (v := .ref (a 0)) (C := RX1) (T := TX1) (N := 2) hx hb hts hinX1 hown hK.1 hP 7 rfl rfl 0 (by decide) f_10 (fun _ h9 => h9) rfl dX1_triangles_38 ?_
              refine va_getN (D := (dC, dI)) (ci := 0) (v := .int (zI (g 0 0))) (C := RX0) (T := TX0) (N := 11) hx hb hts hinX0 hown hK.1 hP 0 rfl rfl 0 (by decide) (hK.nw 0 rfl) (fun _ h9 => h9) rfl dX1_triangles_41 ?_
              refine zr_icmp_ge (tgt := 70) hx hb dX1_triangles_44 (by decide) (by omega) (by omega) (fun c_44 => absurd c_44 (by omega)) (fun c_44 => ?_)
              refine lv_aload_n hx hb dX1_triangles_47 rfl (lv_at hl 4 rfl) ?_
              refine va_get (D := (dC, dI)) (ci := 1) (v := .ref (a 0)) (C := RX1) (T := TX1) (N := 2) hx hb hts hinX1 hown hK.1 hP 7 rfl rfl 0 (by decide) f_10 (fun _ h9 => h9) rfl dX1_triangles_48 ?_
              refine lv_iload_n hx hb dX1_triangles_51 rfl (lv_at hl 2 rfl) ?_
              refine lv_iload_n hx hb dX1_triangles_52 rfl (lv_at hl 1 rfl) ?_
              refine lv_iload hx hb dX1_triangles_53 (lv_at hl 0 rfl) ?_
              refine rd_callV (As := [.int (zI (i : Int)), .int (zI (j : Int)), .int (zI (k : Int))]) (rest := []) ⟨hx, hb, hml, hown, hts⟩ (c_X0_isTriangle l dC dI cI cZ cS a g r hg i j k (by omega) (by omega) (by omega)) (cwV 3 hts gX1_triangles_X0_isTriangle rfl rfl rfl (by decide +kernel) ⟨Nat.le_of_ble_eq_true rfl, Nat.le_of_ble_eq_true rfl⟩) hPs hK 0 rfl rfl rfl hl.1 rfl (Nat.le_of_ble_eq_true rfl) dX1_triangles_55 ⟨Nat.zero_le _, Nat.zero_le _⟩ ?_
              refine zr_bif_eq (tgt := 64) hx hb dX1_triangles_58 (by decide) (fun c_58 => ?_) (fun c_58 => ?_)
              · have hl : lv_has ls 5 [(4, .int (zI (k : Int))), (3, .int (zI (j : Int))), (2, .int (zI (i : Int))), (1, .int (zI (sTn g (gN g) i + sTj g (gN g) i j + sTi g i j (k + 1)))), (0, .ref h)] := by rw [show sTi g i j (k + 1) = sTi g i j k from by unfold sTi; rw [sm_succ, if_pos hjk]; unfold tri1; rw [if_neg c_58]; omega]; exact hl
                refine zr_iinc (b := ((k + 1 : Nat) : Int)) (lv' := [(4, .int (zI ((k + 1 : Nat) : Int))), (3, .int (zI (j : Int))), (2, .int (zI (i : Int))), (1, .int (zI (sTn g (gN g) i + sTj g (gN g) i j + sTi g i j (k + 1)))), (0, .ref h)]) hx hb dX1_triangles_64 hl (k := 0) rfl (by omega) (by decide) rfl (fun ls hl => ?_)
                refine lv_goto (tgt := 35) hx hb dX1_triangles_67 (by decide) ?_
                exact ih_deep (k + 1) (by omega) (by omega) ls (lv_sub hl [0, 1, 2, 3, 4] rfl)
              · refine zr_iinc (b := (sTn g (gN g) i + sTj g (gN g) i j + sTi g i j (k + 1))) (lv' := [(1, .int (zI (sTn g (gN g) i + sTj g (gN g) i j + sTi g i j (k + 1)))), (4, .int (zI (k : Int))), (3, .int (zI (j : Int))), (2, .int (zI (i : Int))), (0, .ref h)]) hx hb dX1_triangles_61 hl (k := 3) rfl (by unfold sTi; rw [sm_succ, if_pos hjk]; unfold tri1; rw [if_pos c_58]; omega) (by decide) rfl (fun ls hl => ?_)
                refine zr_iinc (b := ((k + 1 : Nat) : Int)) (lv' := [(4, .int (zI ((k + 1 : Nat) : Int))), (1, .int (zI (sTn g (gN g) i + sTj g (gN g) i j + sTi g i j (k + 1)))), (3, .int (zI (j : Int))), (2, .int (zI (i : Int))), (0, .ref h)]) hx hb dX1_triangles_64 hl (k := 1) rfl (by omega) (by decide) rfl (fun ls hl => ?_)
                refine lv_goto (tgt := 35) hx hb dX1_triangles_67 (by decide) ?_
                exact ih_deep (k + 1) (by omega) (by omega) ls (lv_sub hl [0, 2, 3, 1, 4] rfl)
          have hl : lv_has ls 5 [(4, .int (zI ((j + 1 : Nat) : Int))), (3, .int (zI (j : Int))), (2, .int (zI (i : Int))), (1, .int (zI (sTn g (gN g) i + sTj g (gN g) i j + sTi g i j (j + 1)))), (0, .ref h)] := by rw [sTi_0, Int.add_zero]; exact hl
          exact deep (gN g - (j + 1)) (j + 1) (by omega) (by omega) ls (lv_sub hl [0, 1, 2, 3, 4] rfl)
      have hl : lv_has ls 5 [(3, .int (zI ((i + 1 : Nat) : Int))), (2, .int (zI (i : Int))), (1, .int (zI (sTn g (gN g) i + sTj g (gN g) i (i + 1)))), (0, .ref h)] := by rw [sTj_0, Int.add_zero]; exact hl
      exact inner (gN g - (i + 1)) (i + 1) (by omega) (by omega) ls (lv_sub hl [0, 1, 2, 3] rfl)
  exact loop (gN g) 0 (by omega) ls (lv_sub hl [0, 1, 2] rfl)
set_option maxHeartbeats 4000000 in
set_option maxRecDepth 100000 in
/-- violations -/
theorem c_X1_violations (l : Launch) (dC : Nat → ClassId) (dI : Nat → Nat → Nat) (cI cZ cS : ClassId) (a : Nat → Nat) (h hs : Nat) (g : Nat → Nat → Int) (r : Int) (hg : gB g r) : Met l yX1_violations wsX1_violations ({ frames := 5, cells := 0, slots := 0, locals := 118 } : Room) (rd_Pc dC dI cI cZ cS (stw cI a g ++ mnw a h hs) [.ref h]) (rd_Qc (some (.int (zI ((sVs g (gN g) (gN g)).tdiv 3))))) 0 0 nf := by
  refine rd_met (cc := cX1_violations) (maxL := 3) (ret := (some .int)) (by decide) rfl (Nat.le_of_ble_eq_true rfl) ?_
  intro p e s m below meth c ls hx hb hml hr hlocks hts hown hP hK hl
  have hl : lv_has ls 3 [(0, .ref h)] := hl
  have hinX0 : ∀ w ∈ u_ws RX0 TX0 11, w ∈ wsX1_violations := by decide +kernel
  have hinX1 : ∀ w ∈ u_ws RX1 TX1 2, w ∈ wsX1_violations := by decide +kernel
  have f_10 := hts (.fieldLink RX1 10 "NetworkCoordinates" "now" "LNetworkCoordinates$State;") (by decide +kernel)
  have b0 := hg.1
  have hPs : va_P (dC, dI) vwCl (stw cI a g) s.heap := va_P_left hP
  have hN := gN_eq hg
  have q5 := cQ_5 hg (fun _ => 0) (fun _ => 0)
  refine zr_iconst hx hb dX1_violations_0 ?_
  refine lv_istore_n (lv' := [(1, .int (zI 0)), (0, .ref h)]) hx hb dX1_violations_1 rfl hl (by decide) rfl (fun ls hl => ?_)
  refine zr_iconst hx hb dX1_violations_2 ?_
  refine lv_istore_n (lv' := [(2, .int (zI 0)), (1, .int (zI 0)), (0, .ref h)]) hx hb dX1_violations_3 rfl hl (by decide) rfl (fun ls hl => ?_)
  have loop : ∀ (k_loop i : Nat), i + k_loop = gN g → ∀ ls : Array Slot, lv_has ls 3 [(2, .int (zI (i : Int))), (1, .int (zI (sVs g (gN g) i))), (0, .ref h)] → W p l e ({ frames := 5, cells := 0, slots := 0, locals := 118 } : Room) s m [.ref h].toArray below meth c s.heap [] 0 0 (MQ below (rd_Qc (some (.int (zI ((sVs g (gN g) (gN g)).tdiv 3))))) [.ref h].toArray s 0 0 nf) (F0 m 4 ls []) := by
    intro k_loop
    induction k_loop with
    | zero =>
      intro i hi ls hl
      have hi2 : i = gN g := by omega
      subst hi2
      refine lv_iload_n hx hb dX1_violations_4 rfl (lv_at hl 0 rfl) ?_
      refine lv_aload_n hx hb dX1_violations_5 rfl (lv_at hl 2 rfl) ?_
      refine va_get (D := (dC, dI)) (ci := 1) (v := .ref (a 0)) (C := RX1) (T := TX1) (N := 2) hx hb hts hinX1 hown hK.1 hP 7 rfl rfl 0 (by decide) f_10 (fun _ h9 => h9) rfl dX1_violations_6 ?_
      refine va_getN (D := (dC, dI)) (ci := 0) (v := .int (zI (g 0 0))) (C := RX0) (T := TX0) (N := 11) hx hb hts hinX0 hown hK.1 hP 0 rfl rfl 0 (by decide) (hK.nw 0 rfl) (fun _ h9 => h9) rfl dX1_violations_9 ?_
      refine zr_icmp_ge (tgt := 32) hx hb dX1_violations_12 (by decide) (by omega) (by omega) (fun c_12 => ?_) (fun c_12 => absurd c_12 (by omega))
      refine lv_iload_n hx hb dX1_violations_32 rfl (lv_at hl 1 rfl) ?_
      refine zr_iconst hx hb dX1_violations_33 ?_
      refine zr_idiv hx hb (by omega) (by omega) dX1_violations_34 ?_
      exact rd_iret hx hb hr hlocks rfl dX1_violations_35
    | succ k_loop ih_loop =>
      intro i hi ls hl
      refine lv_iload_n hx hb dX1_violations_4 rfl (lv_at hl 0 rfl) ?_
      refine lv_aload_n hx hb dX1_violations_5 rfl (lv_at hl 2 rfl) ?_
      refine va_get (D := (dC, dI)) (ci := 1) (v := .ref (a 0)) (C := RX1) (T := TX1) (N := 2) hx hb hts hinX1 hown hK.1 hP 7 rfl rfl 0 (by decide) f_10 (fun _ h9 => h9) rfl dX1_violations_6 ?_
      refine va_getN (D := (dC, dI)) (ci := 0) (v := .int (zI (g 0 0))) (C := RX0) (T := TX0) (N := 11) hx hb hts hinX0 hown hK.1 hP 0 rfl rfl 0 (by decide) (hK.nw 0 rfl) (fun _ h9 => h9) rfl dX1_violations_9 ?_
      refine zr_icmp_ge (tgt := 32) hx hb dX1_violations_12 (by decide) (by omega) (by omega) (fun c_12 => absurd c_12 (by omega)) (fun c_12 => ?_)
      refine lv_iload_n hx hb dX1_violations_15 rfl (lv_at hl 1 rfl) ?_
      refine lv_aload_n hx hb dX1_violations_16 rfl (lv_at hl 2 rfl) ?_
      refine va_get (D := (dC, dI)) (ci := 1) (v := .ref (a 0)) (C := RX1) (T := TX1) (N := 2) hx hb hts hinX1 hown hK.1 hP 7 rfl rfl 0 (by decide) f_10 (fun _ h9 => h9) rfl dX1_violations_17 ?_
      refine lv_iload_n hx hb dX1_violations_20 rfl (lv_at hl 0 rfl) ?_
      refine rd_callV (As := [.int (zI (i : Int))]) (rest := [.int (zI (sVs g (gN g) i))]) ⟨hx, hb, hml, hown, hts⟩ (c_X0_violationsAt l dC dI cI cZ cS a g r hg i (by omega)) (cwV 1 hts gX1_violations_X0_violationsAt rfl rfl rfl (by decide +kernel) ⟨Nat.le_of_ble_eq_true rfl, Nat.le_of_ble_eq_true rfl⟩) hPs hK 0 rfl rfl rfl hl.1 rfl (Nat.le_of_ble_eq_true rfl) dX1_violations_21 ⟨Nat.zero_le _, Nat.zero_le _⟩ ?_
      refine zr_iadd hx hb dX1_violations_24 ?_
      refine zr_topI (sVs g (gN g) (i + 1)) rfl ?_
      refine lv_istore_n (lv' := [(1, .int (zI (sVs g (gN g) (i + 1)))), (2, .int (zI (i : Int))), (0, .ref h)]) hx hb dX1_violations_25 rfl hl (by decide) rfl (fun ls hl => ?_)
      refine zr_iinc (b := ((i + 1 : Nat) : Int)) (lv' := [(2, .int (zI ((i + 1 : Nat) : Int))), (1, .int (zI (sVs g (gN g) (i + 1)))), (0, .ref h)]) hx hb dX1_violations_26 hl (k := 1) rfl (by omega) (by decide) rfl (fun ls hl => ?_)
      refine lv_goto (tgt := 4) hx hb dX1_violations_29 (by decide) ?_
      exact ih_loop (i + 1) (by omega) ls (lv_sub hl [0, 1, 2] rfl)
  exact loop (gN g) 0 (by omega) ls (lv_sub hl [0, 1, 2] rfl)
set_option maxHeartbeats 4000000 in
set_option maxRecDepth 100000 in
/-- worstExcess -/
theorem c_X1_worstExcess (l : Launch) (dC : Nat → ClassId) (dI : Nat → Nat → Nat) (cI cZ cS : ClassId) (a : Nat → Nat) (h hs : Nat) (g : Nat → Nat → Int) (r : Int) (hg : gB g r) : Met l yX1_worstExcess wsX1_worstExcess ({ frames := 4, cells := 0, slots := 0, locals := 94 } : Room) (rd_Pc dC dI cI cZ cS (stw cI a g ++ mnw a h hs) [.ref h]) (rd_Qc (some (.int (zI (if xA g (gN g) (gN g) = 0 then -1000005 else xA g (gN g) (gN g)))))) 0 0 nf := by
  refine rd_met (cc := cX1_worstExcess) (maxL := 5) (ret := (some .int)) (by decide) rfl (Nat.le_of_ble_eq_true rfl) ?_
  intro p e s m below meth c ls hx hb hml hr hlocks hts hown hP hK hl
  have hl : lv_has ls 5 [(0, .ref h)] := hl
  have hinX0 : ∀ w ∈ u_ws RX0 TX0 11, w ∈ wsX1_worstExcess := by decide +kernel
  have hinX1 : ∀ w ∈ u_ws RX1 TX1 2, w ∈ wsX1_worstExcess := by decide +kernel
  have f_10 := hts (.fieldLink RX1 10 "NetworkCoordinates" "now" "LNetworkCoordinates$State;") (by decide +kernel)
  have k_107 := hts (.constant RX1 107 (-1000005)) (by decide +kernel)
  have b0 := hg.1
  have hPs : va_P (dC, dI) vwCl (stw cI a g) s.heap := va_P_left hP
  have hN := gN_eq hg
  have hx0 : ∀ x, 0 ≤ x ∧ x ≤ 40000 → xq x (fun k => if k = 6 then (if x = 0 then -1000005 else x) else 0, fun _ => 0) := fun x hx => ⟨hx, rfl⟩
  have bA1 : ∀ i, i ≤ 10 → 0 ≤ xA g (gN g) i ∧ xA g (gN g) i ≤ 40000 := fun i hi => (xA_q hg hN.2.2 (hx0 0 (by omega)) i hi).1
  have bB1 : ∀ i j x, i < 10 → j ≤ 10 → 0 ≤ x ∧ x ≤ 40000 → 0 ≤ xB g (gN g) i x j ∧ xB g (gN g) i x j ≤ 40000 := fun i j x hi hj hx => (xB_q hg hN.2.2 hi (hx0 x hx) j hj).1
  have bC1 : ∀ i j k x, i < 10 → j < 10 → k ≤ 10 → 0 ≤ x ∧ x ≤ 40000 → 0 ≤ xC g i j x k ∧ xC g i j x k ≤ 40000 := fun i j k x hi hj hk hx => (xC_q hg hi hj (hx0 x hx) k hk).1
  refine zr_iconst hx hb dX1_worstExcess_0 ?_
  refine lv_istore_n (lv' := [(1, .int (zI 0)), (0, .ref h)]) hx hb dX1_worstExcess_1 rfl hl (by decide) rfl (fun ls hl => ?_)
  refine zr_iconst hx hb dX1_worstExcess_2 ?_
  refine lv_istore_n (lv' := [(2, .int (zI 0)), (1, .int (zI 0)), (0, .ref h)]) hx hb dX1_worstExcess_3 rfl hl (by decide) rfl (fun ls hl => ?_)
  have loop : ∀ (k_loop i : Nat), i + k_loop = gN g → ∀ ls : Array Slot, lv_has ls 5 [(2, .int (zI (i : Int))), (1, .int (zI (xA g (gN g) i))), (0, .ref h)] → W p l e ({ frames := 4, cells := 0, slots := 0, locals := 94 } : Room) s m [.ref h].toArray below meth c s.heap [] 0 0 (MQ below (rd_Qc (some (.int (zI (if xA g (gN g) (gN g) = 0 then -1000005 else xA g (gN g) (gN g)))))) [.ref h].toArray s 0 0 nf) (F0 m 4 ls []) := by
    intro k_loop
    induction k_loop with
    | zero =>
      intro i hi ls hl
      refine lv_iload_n hx hb dX1_worstExcess_4 rfl (lv_at hl 0 rfl) ?_
      refine lv_aload_n hx hb dX1_worstExcess_5 rfl (lv_at hl 2 rfl) ?_
      refine va_get (D := (dC, dI)) (ci := 1) (v := .ref (a 0)) (C := RX1) (T := TX1) (N := 2) hx hb hts hinX1 hown hK.1 hP 7 rfl rfl 0 (by decide) f_10 (fun _ h9 => h9) rfl dX1_worstExcess_6 ?_
      refine va_getN (D := (dC, dI)) (ci := 0) (v := .int (zI (g 0 0))) (C := RX0) (T := TX0) (N := 11) hx hb hts hinX0 hown hK.1 hP 0 rfl rfl 0 (by decide) (hK.nw 0 rfl) (fun _ h9 => h9) rfl dX1_worstExcess_9 ?_
      refine zr_icmp_ge (tgt := 81) hx hb dX1_worstExcess_12 (by decide) (by omega) (by omega) (fun c_12 => ?_) (fun c_12 => absurd c_12 (by omega))
      have hi2 : i = gN g := by omega
      subst hi2
      have bx := bA1 (gN g) hN.2.2
      refine lv_iload_n hx hb dX1_worstExcess_81 rfl (lv_at hl 1 rfl) ?_
      refine zr_if_ne (tgt := 90) hx hb dX1_worstExcess_82 (by decide) (by omega) (fun c_82 => ?_) (fun c_82 => ?_)
      · refine lv_iload_n hx hb dX1_worstExcess_90 rfl (lv_at hl 1 rfl) ?_
        exact rd_iret hx hb hr hlocks (if_neg c_82).symm dX1_worstExcess_91
      · refine zr_ldc hx hb (-1000005) hown k_107 (by decide) dX1_worstExcess_85 ?_
        refine lv_goto (tgt := 91) hx hb dX1_worstExcess_87 (by decide) ?_
        exact rd_iret hx hb hr hlocks (if_pos c_82).symm dX1_worstExcess_91
    | succ k_loop ih_loop =>
      intro i hi ls hl
      have hi10 : i < 10 := by omega
      refine lv_iload_n hx hb dX1_worstExcess_4 rfl (lv_at hl 0 rfl) ?_
      refine lv_aload_n hx hb dX1_worstExcess_5 rfl (lv_at hl 2 rfl) ?_
      refine va_get (D := (dC, dI)) (ci := 1) (v := .ref (a 0)) (C := RX1) (T := TX1) (N := 2) hx hb hts hinX1 hown hK.1 hP 7 rfl rfl 0 (by decide) f_10 (fun _ h9 => h9) rfl dX1_worstExcess_6 ?_
      refine va_getN (D := (dC, dI)) (ci := 0) (v := .int (zI (g 0 0))) (C := RX0) (T := TX0) (N := 11) hx hb hts hinX0 hown hK.1 hP 0 rfl rfl 0 (by decide) (hK.nw 0 rfl) (fun _ h9 => h9) rfl dX1_worstExcess_9 ?_
      refine zr_icmp_ge (tgt := 81) hx hb dX1_worstExcess_12 (by decide) (by omega) (by omega) (fun c_12 => absurd c_12 (by omega)) (fun c_12 => ?_)
      refine lv_iload_n hx hb dX1_worstExcess_15 rfl (lv_at hl 0 rfl) ?_
      refine zr_iconst hx hb dX1_worstExcess_16 ?_
      refine zr_iadd hx hb dX1_worstExcess_17 ?_
      refine zr_topI ((i + 1 : Nat) : Int) (by omega) ?_
      refine lv_istore_n (lv' := [(3, .int (zI ((i + 1 : Nat) : Int))), (2, .int (zI (i : Int))), (1, .int (zI (xA g (gN g) i))), (0, .ref h)]) hx hb dX1_worstExcess_18 rfl hl (by decide) rfl (fun ls hl => ?_)
      have inner : ∀ (k_inner j : Nat), j + k_inner = gN g → i < j → ∀ ls : Array Slot, lv_has ls 5 [(3, .int (zI (j : Int))), (2, .int (zI (i : Int))), (1, .int (zI (xB g (gN g) i (xA g (gN g) i) j))), (0, .ref h)] → W p l e ({ frames := 4, cells := 0, slots := 0, locals := 94 } : Room) s m [.ref h].toArray below meth c s.heap [] 0 0 (MQ below (rd_Qc (some (.int (zI (if xA g (gN g) (gN g) = 0 then -1000005 else xA g (gN g) (gN g)))))) [.ref h].toArray s 0 0 nf) (F0 m 19 ls []) := by
        intro k_inner
        induction k_inner with
        | zero =>
          intro j hj hij ls hl
          refine lv_iload_n hx hb dX1_worstExcess_19 rfl (lv_at hl 0 rfl) ?_
          refine lv_aload_n hx hb dX1_worstExcess_20 rfl (lv_at hl 3 rfl) ?_
          refine va_get (D := (dC, dI)) (ci := 1) (v := .ref (a 0)) (C := RX1) (T := TX1) (N := 2) hx hb hts hinX1 hown hK.1 hP 7 rfl rfl 0 (by decide) f_10 (fun _ h9 => h9) rfl dX1_worstExcess_21 ?_
          refine va_getN (D := (dC, dI)) (ci := 0) (v := .int (zI (g 0 0))) (C := RX0) (T := TX0) (N := 11) hx hb hts hinX0 hown hK.1 hP 0 rfl rfl 0 (by decide) (hK.nw 0 rfl) (fun _ h9 => h9) rfl dX1_worstExcess_24 ?_
          refine zr_icmp_ge (tgt := 75) hx hb dX1_worstExcess_27 (by decide) (by omega) (by omega) (fun c_27 => ?_) (fun c_27 => absurd c_27 (by omega))
          have hj2 : j = gN g := by omega
          have hl : lv_has ls 5 [(3, .int (zI (j : Int))), (2, .int (zI (i : Int))), (1, .int (zI (xA g (gN g) (i + 1)))), (0, .ref h)] := by rw [show xA g (gN g) (i + 1) = xB g (gN g) i (xA g (gN g) i) j from by rw [hj2]; rfl]; exact hl
          refine zr_iinc (b := ((i + 1 : Nat) : Int)) (lv' := [(2, .int (zI ((i + 1 : Nat) : Int))), (3, .int (zI (j : Int))), (1, .int (zI (xA g (gN g) (i + 1)))), (0, .ref h)]) hx hb dX1_worstExcess_75 hl (k := 1) rfl (by omega) (by decide) rfl (fun ls hl => ?_)
          refine lv_goto (tgt := 4) hx hb dX1_worstExcess_78 (by decide) ?_
          exact ih_loop (i + 1) (by omega) ls (lv_sub hl [0, 2, 3] rfl)
        | succ k_inner ih_inner =>
          intro j hj hij ls hl
          have hj10 : j < 10 := by omega
          refine lv_iload_n hx hb dX1_worstExcess_19 rfl (lv_at hl 0 rfl) ?_
          refine lv_aload_n hx hb dX1_worstExcess_20 rfl (lv_at hl 3 rfl) ?_
          refine va_get (D := (dC, dI)) (ci := 1) (v := .ref (a 0)) (C := RX1) (T := TX1) (N := 2) hx hb hts hinX1 hown hK.1 hP 7 rfl rfl 0 (by decide) f_10 (fun _ h9 => h9) rfl dX1_worstExcess_21 ?_
          refine va_getN (D := (dC, dI)) (ci := 0) (v := .int (zI (g 0 0))) (C := RX0) (T := TX0) (N := 11) hx hb hts hinX0 hown hK.1 hP 0 rfl rfl 0 (by decide) (hK.nw 0 rfl) (fun _ h9 => h9) rfl dX1_worstExcess_24 ?_
          refine zr_icmp_ge (tgt := 75) hx hb dX1_worstExcess_27 (by decide) (by omega) (by omega) (fun c_27 => absurd c_27 (by omega)) (fun c_27 => ?_)
          refine lv_iload_n hx hb dX1_worstExcess_30 rfl (lv_at hl 0 rfl) ?_
          refine zr_iconst hx hb dX1_worstExcess_31 ?_
          refine zr_iadd hx hb dX1_worstExcess_32 ?_
          refine zr_topI ((j + 1 : Nat) : Int) (by omega) ?_
          refine lv_istore (lv' := [(4, .int (zI ((j + 1 : Nat) : Int))), (3, .int (zI (j : Int))), (2, .int (zI (i : Int))), (1, .int (zI (xB g (gN g) i (xA g (gN g) i) j))), (0, .ref h)]) hx hb dX1_worstExcess_33 hl (by decide) rfl (fun ls hl => ?_)
          have deep : ∀ (k_deep k : Nat), k + k_deep = gN g → j < k → ∀ ls : Array Slot, lv_has ls 5 [(4, .int (zI (k : Int))), (3, .int (zI (j : Int))), (2, .int (zI (i : Int))), (1, .int (zI (xC g i j (xB g (gN g) i (xA g (gN g) i) j) k))), (0, .ref h)] → W p l e ({ frames := 4, cells := 0, slots := 0, locals := 94 } : Room) s m [.ref h].toArray below meth c s.heap [] 0 0 (MQ below (rd_Qc (some (.int (zI (if xA g (gN g) (gN g) = 0 then -1000005 else xA g (gN g) (gN g)))))) [.ref h].toArray s 0 0 nf) (F0 m 35 ls []) := by
            intro k_deep
            induction k_deep with
            | zero =>
              intro k hk hjk ls hl
              refine lv_iload hx hb dX1_worstExcess_35 (lv_at hl 0 rfl) ?_
              refine lv_aload_n hx hb dX1_worstExcess_37 rfl (lv_at hl 4 rfl) ?_
              refine va_get (D := (dC, dI)) (ci := 1) (v := .ref (a 0)) (C := RX1) (T := TX1) (N := 2) hx hb hts hinX1 hown hK.1 hP 7 rfl rfl 0 (by decide) f_10 (fun _ h9 => h9) rfl dX1_worstExcess_38 ?_
              refine va_getN (D := (dC, dI)) (ci := 0) (v := .int (zI (g 0 0))) (C := RX0) (T := TX0) (N := 11) hx hb hts hinX0 hown hK.1 hP 0 rfl rfl 0 (by decide) (hK.nw 0 rfl) (fun _ h9 => h9) rfl dX1_worstExcess_41 ?_
              refine zr_icmp_ge (tgt := 69) hx hb dX1_worstExcess_44 (by decide) (by omega) (by omega) (fun c_44 => ?_) (fun c_44 => absurd c_44 (by omega))
              have hk2 : k = gN g := by omega
              have hl : lv_has ls 5 [(4, .int (zI (k : Int))), (3, .int (zI (j : Int))), (2, .int (zI (i : Int))), (1, .int (zI (xB g (gN g) i (xA g (gN g) i) (j + 1)))), (0, .ref h)] := by rw [show xB g (gN g) i (xA g (gN g) i) (j + 1) = xC g i j (xB g (gN g) i (xA g (gN g) i) j) k from by rw [hk2]; exact if_pos hij]; exact hl
              refine zr_iinc (b := ((j + 1 : Nat) : Int)) (lv' := [(3, .int (zI ((j + 1 : Nat) : Int))), (4, .int (zI (k : Int))), (2, .int (zI (i : Int))), (1, .int (zI (xB g (gN g) i (xA g (gN g) i) (j + 1)))), (0, .ref h)]) hx hb dX1_worstExcess_69 hl (k := 1) rfl (by omega) (by decide) rfl (fun ls hl => ?_)
              refine lv_goto (tgt := 19) hx hb dX1_worstExcess_72 (by decide) ?_
              exact ih_inner (j + 1) (by omega) (by omega) ls (lv_sub hl [0, 2, 3, 4] rfl)
            | succ k_deep ih_deep =>
              intro k hk hjk ls hl
              have hk10 : k < 10 := by omega
              refine lv_iload hx hb dX1_worstExcess_35 (lv_at hl 0 rfl) ?_
              refine lv_aload_n hx hb dX1_worstExcess_37 rfl (lv_at hl 4 rfl) ?_
              refine va_get (D := (dC, dI)) (ci := 1) (v := .ref (a 0)) (C := RX1) (T := TX1) (N := 2) hx hb hts hinX1 hown hK.1 hP 7 rfl rfl 0 (by decide) f_10 (fun _ h9 => h9) rfl dX1_worstExcess_38 ?_
              refine va_getN (D := (dC, dI)) (ci := 0) (v := .int (zI (g 0 0))) (C := RX0) (T := TX0) (N := 11) hx hb hts hinX0 hown hK.1 hP 0 rfl rfl 0 (by decide) (hK.nw 0 rfl) (fun _ h9 => h9) rfl dX1_worstExcess_41 ?_
              refine zr_icmp_ge (tgt := 69) hx hb dX1_worstExcess_44 (by decide) (by omega) (by omega) (fun c_44 => absurd c_44 (by omega)) (fun c_44 => ?_)
              have bx := bC1 i j k (xB g (gN g) i (xA g (gN g) i) j) hi10 hj10 (by omega) (bB1 i j (xA g (gN g) i) hi10 (by omega) (bA1 i (by omega)))
              have be := sExc_bd hg hi10 hj10 hk10
              refine lv_iload_n hx hb dX1_worstExcess_47 rfl (lv_at hl 3 rfl) ?_
              refine lv_aload_n hx hb dX1_worstExcess_48 rfl (lv_at hl 4 rfl) ?_
              refine va_get (D := (dC, dI)) (ci := 1) (v := .ref (a 0)) (C := RX1) (T := TX1) (N := 2) hx hb hts hinX1 hown hK.1 hP 7 rfl rfl 0 (by decide) f_10 (fun _ h9 => h9) rfl dX1_worstExcess_49 ?_
              refine lv_iload_n hx hb dX1_worstExcess_52 rfl (lv_at hl 2 rfl) ?_
              refine lv_iload_n hx hb dX1_worstExcess_53 rfl (lv_at hl 1 rfl) ?_
              refine lv_iload hx hb dX1_worstExcess_54 (lv_at hl 0 rfl) ?_
              refine rd_callV (As := [.int (zI (i : Int)), .int (zI (j : Int)), .int (zI (k : Int))]) (rest := [.int (zI (xC g i j (xB g (gN g) i (xA g (gN g) i) j) k))]) ⟨hx, hb, hml, hown, hts⟩ (c_X0_excess l dC dI cI cZ cS a g r hg i j k (by omega) (by omega) (by omega)) (cwV 3 hts gX1_worstExcess_X0_excess rfl rfl rfl (by decide +kernel) ⟨Nat.le_of_ble_eq_true rfl, Nat.le_of_ble_eq_true rfl⟩) hPs hK 0 rfl rfl rfl hl.1 rfl (Nat.le_of_ble_eq_true rfl) dX1_worstExcess_56 ⟨Nat.zero_le _, Nat.zero_le _⟩ ?_
              refine va_mmax hx hb (hml.trans hl.1.symm) hown (hts (.methodLink RX1 129 Lib.Math.max.name) (by decide +kernel)) (hts (.static Lib.Math.max.name) (by decide +kernel)) (hts (.initialized "java/lang/Math") (by decide +kernel)) (hts (.code Lib.Math.max.name Lib.Math.max.code 2 (some .int)) (by decide +kernel)) (Nat.le_of_ble_eq_true rfl) (Nat.le_of_ble_eq_true rfl) (Nat.zero_le _) (Nat.zero_le _) dX1_worstExcess_59 ?_
              rw [zm_iteI (by omega) (by omega)]
              refine zr_topI (xC g i j (xB g (gN g) i (xA g (gN g) i) j) (k + 1)) (if_pos (c := j < k) hjk).symm ?_
              refine lv_istore_n (lv' := [(1, .int (zI (xC g i j (xB g (gN g) i (xA g (gN g) i) j) (k + 1)))), (4, .int (zI (k : Int))), (3, .int (zI (j : Int))), (2, .int (zI (i : Int))), (0, .ref h)]) hx hb dX1_worstExcess_62 rfl hl (by decide) rfl (fun ls hl => ?_)
              refine zr_iinc (b := ((k + 1 : Nat) : Int)) (lv' := [(4, .int (zI ((k + 1 : Nat) : Int))), (1, .int (zI (xC g i j (xB g (gN g) i (xA g (gN g) i) j) (k + 1)))), (3, .int (zI (j : Int))), (2, .int (zI (i : Int))), (0, .ref h)]) hx hb dX1_worstExcess_63 hl (k := 1) rfl (by omega) (by decide) rfl (fun ls hl => ?_)
              refine lv_goto (tgt := 35) hx hb dX1_worstExcess_66 (by decide) ?_
              exact ih_deep (k + 1) (by omega) (by omega) ls (lv_sub hl [0, 2, 3, 1, 4] rfl)
          have hl : lv_has ls 5 [(4, .int (zI ((j + 1 : Nat) : Int))), (3, .int (zI (j : Int))), (2, .int (zI (i : Int))), (1, .int (zI (xC g i j (xB g (gN g) i (xA g (gN g) i) j) (j + 1)))), (0, .ref h)] := by rw [xC_0 _ _ _ _ _ (Nat.le_refl _)]; exact hl
          exact deep (gN g - (j + 1)) (j + 1) (by omega) (by omega) ls (lv_sub hl [0, 1, 2, 3, 4] rfl)
      have hl : lv_has ls 5 [(3, .int (zI ((i + 1 : Nat) : Int))), (2, .int (zI (i : Int))), (1, .int (zI (xB g (gN g) i (xA g (gN g) i) (i + 1)))), (0, .ref h)] := by rw [xB_0 _ _ _ _ _ (Nat.le_refl _)]; exact hl
      exact inner (gN g - (i + 1)) (i + 1) (by omega) (by omega) ls (lv_sub hl [0, 1, 2, 3] rfl)
  exact loop (gN g) 0 (by omega) ls (lv_sub hl [0, 1, 2] rfl)
set_option maxHeartbeats 4000000 in
set_option maxRecDepth 100000 in
/-- suspect -/
theorem c_X1_suspect (l : Launch) (dC : Nat → ClassId) (dI : Nat → Nat → Nat) (cI cZ cS : ClassId) (a : Nat → Nat) (h hs : Nat) (g : Nat → Nat → Int) (r : Int) (hg : gB g r) : Met l yX1_suspect wsX1_suspect ({ frames := 5, cells := 0, slots := 0, locals := 118 } : Room) (rd_Pc dC dI cI cZ cS (stw cI a g ++ mnw a h hs) [.ref h]) (rd_Qc (some (.int (zI ((sCs g (gN g) (gN g)).1))))) 0 0 nf := by
  refine rd_met (cc := cX1_suspect) (maxL := 5) (ret := (some .int)) (by decide) rfl (Nat.le_of_ble_eq_true rfl) ?_
  intro p e s m below meth c ls hx hb hml hr hlocks hts hown hP hK hl
  have hl : lv_has ls 5 [(0, .ref h)] := hl
  have hinX0 : ∀ w ∈ u_ws RX0 TX0 11, w ∈ wsX1_suspect := by decide +kernel
  have hinX1 : ∀ w ∈ u_ws RX1 TX1 2, w ∈ wsX1_suspect := by decide +kernel
  have k_107 := hts (.constant RX1 107 (-1000005)) (by decide +kernel)
  have f_10 := hts (.fieldLink RX1 10 "NetworkCoordinates" "now" "LNetworkCoordinates$State;") (by decide +kernel)
  have b0 := hg.1
  have hPs : va_P (dC, dI) vwCl (stw cI a g) s.heap := va_P_left hP
  have hN := gN_eq hg
  refine zr_ldc hx hb (-1000005) hown k_107 (by decide) dX1_suspect_0 ?_
  refine lv_istore_n (lv' := [(1, .int (zI (-1000005))), (0, .ref h)]) hx hb dX1_suspect_2 rfl hl (by decide) rfl (fun ls hl => ?_)
  refine zr_iconst hx hb dX1_suspect_3 ?_
  refine lv_istore_n (lv' := [(2, .int (zI 0)), (1, .int (zI (-1000005))), (0, .ref h)]) hx hb dX1_suspect_4 rfl hl (by decide) rfl (fun ls hl => ?_)
  refine zr_iconst hx hb dX1_suspect_5 ?_
  refine lv_istore_n (lv' := [(3, .int (zI 0)), (2, .int (zI 0)), (1, .int (zI (-1000005))), (0, .ref h)]) hx hb dX1_suspect_6 rfl hl (by decide) rfl (fun ls hl => ?_)
  have loop : ∀ (k_loop i : Nat), i + k_loop = gN g → ∀ ls : Array Slot, lv_has ls 5 [(3, .int (zI (i : Int))), (2, .int (zI ((sCs g (gN g) i).2))), (1, .int (zI ((sCs g (gN g) i).1))), (0, .ref h)] → W p l e ({ frames := 5, cells := 0, slots := 0, locals := 118 } : Room) s m [.ref h].toArray below meth c s.heap [] 0 0 (MQ below (rd_Qc (some (.int (zI ((sCs g (gN g) (gN g)).1))))) [.ref h].toArray s 0 0 nf) (F0 m 7 ls []) := by
    intro k_loop
    induction k_loop with
    | zero =>
      intro i hi ls hl
      refine lv_iload_n hx hb dX1_suspect_7 rfl (lv_at hl 0 rfl) ?_
      refine lv_aload_n hx hb dX1_suspect_8 rfl (lv_at hl 3 rfl) ?_
      refine va_get (D := (dC, dI)) (ci := 1) (v := .ref (a 0)) (C := RX1) (T := TX1) (N := 2) hx hb hts hinX1 hown hK.1 hP 7 rfl rfl 0 (by decide) f_10 (fun _ h9 => h9) rfl dX1_suspect_9 ?_
      refine va_getN (D := (dC, dI)) (ci := 0) (v := .int (zI (g 0 0))) (C := RX0) (T := TX0) (N := 11) hx hb hts hinX0 hown hK.1 hP 0 rfl rfl 0 (by decide) (hK.nw 0 rfl) (fun _ h9 => h9) rfl dX1_suspect_12 ?_
      refine zr_icmp_ge (tgt := 45) hx hb dX1_suspect_15 (by decide) (by omega) (by omega) (fun c_15 => ?_) (fun c_15 => absurd c_15 (by omega))
      refine lv_iload_n hx hb dX1_suspect_45 rfl (lv_at hl 2 rfl) ?_
      exact rd_iret hx hb hr hlocks (by rw [show i = gN g by omega]) dX1_suspect_46
    | succ k_loop ih_loop =>
      intro i hi ls hl
      have s1 := sCs_bd (g := g) hN.2.2 i
      have s2 := sVa_bd (g := g) (k := i) hN.2.2
      refine lv_iload_n hx hb dX1_suspect_7 rfl (lv_at hl 0 rfl) ?_
      refine lv_aload_n hx hb dX1_suspect_8 rfl (lv_at hl 3 rfl) ?_
      refine va_get (D := (dC, dI)) (ci := 1) (v := .ref (a 0)) (C := RX1) (T := TX1) (N := 2) hx hb hts hinX1 hown hK.1 hP 7 rfl rfl 0 (by decide) f_10 (fun _ h9 => h9) rfl dX1_suspect_9 ?_
      refine va_getN (D := (dC, dI)) (ci := 0) (v := .int (zI (g 0 0))) (C := RX0) (T := TX0) (N := 11) hx hb hts hinX0 hown hK.1 hP 0 rfl rfl 0 (by decide) (hK.nw 0 rfl) (fun _ h9 => h9) rfl dX1_suspect_12 ?_
      refine zr_icmp_ge (tgt := 45) hx hb dX1_suspect_15 (by decide) (by omega) (by omega) (fun c_15 => absurd c_15 (by omega)) (fun c_15 => ?_)
      refine lv_aload_n hx hb dX1_suspect_18 rfl (lv_at hl 3 rfl) ?_
      refine va_get (D := (dC, dI)) (ci := 1) (v := .ref (a 0)) (C := RX1) (T := TX1) (N := 2) hx hb hts hinX1 hown hK.1 hP 7 rfl rfl 0 (by decide) f_10 (fun _ h9 => h9) rfl dX1_suspect_19 ?_
      refine lv_iload_n hx hb dX1_suspect_22 rfl (lv_at hl 0 rfl) ?_
      refine rd_callV (As := [.int (zI (i : Int))]) (rest := []) ⟨hx, hb, hml, hown, hts⟩ (c_X0_violationsAt l dC dI cI cZ cS a g r hg i (by omega)) (cwV 1 hts gX1_suspect_X0_violationsAt rfl rfl rfl (by decide +kernel) ⟨Nat.le_of_ble_eq_true rfl, Nat.le_of_ble_eq_true rfl⟩) hPs hK 0 rfl rfl rfl hl.1 rfl (Nat.le_of_ble_eq_true rfl) dX1_suspect_23 ⟨Nat.zero_le _, Nat.zero_le _⟩ ?_
      refine lv_istore (lv' := [(4, .int (zI (sVa g i (gN g) (gN g)))), (3, .int (zI (i : Int))), (2, .int (zI ((sCs g (gN g) i).2))), (1, .int (zI ((sCs g (gN g) i).1))), (0, .ref h)]) hx hb dX1_suspect_26 hl (by decide) rfl (fun ls hl => ?_)
      refine lv_iload hx hb dX1_suspect_28 (lv_at hl 0 rfl) ?_
      refine lv_iload_n hx hb dX1_suspect_30 rfl (lv_at hl 2 rfl) ?_
      refine zr_icmp_le (tgt := 39) hx hb dX1_suspect_31 (by decide) (by omega) (by omega) (fun c_31 => ?_) (fun c_31 => ?_)
      · have e1 : sCs g (gN g) (i + 1) = sCs g (gN g) i := by rw [show sCs g (gN g) (i + 1) = (if (sCs g (gN g) i).2 < sVa g i (gN g) (gN g) then ((i : Int), sVa g i (gN g) (gN g)) else sCs g (gN g) i) from rfl]; exact if_neg (by omega)
        have hl : lv_has ls 5 [(4, .int (zI (sVa g i (gN g) (gN g)))), (3, .int (zI (i : Int))), (2, .int (zI ((sCs g (gN g) (i + 1)).2))), (1, .int (zI ((sCs g (gN g) (i + 1)).1))), (0, .ref h)] := by rw [e1]; exact hl
        refine zr_iinc (b := ((i + 1 : Nat) : Int)) (lv' := [(3, .int (zI ((i + 1 : Nat) : Int))), (4, .int (zI (sVa g i (gN g) (gN g)))), (2, .int (zI ((sCs g (gN g) (i + 1)).2))), (1, .int (zI ((sCs g (gN g) (i + 1)).1))), (0, .ref h)]) hx hb dX1_suspect_39 hl (k := 1) rfl (by omega) (by decide) rfl (fun ls hl => ?_)
        refine lv_goto (tgt := 7) hx hb dX1_suspect_42 (by decide) ?_
        exact ih_loop (i + 1) (by omega) ls (lv_sub hl [0, 2, 3, 4] rfl)
      · have e1 : sCs g (gN g) (i + 1) = ((i : Int), sVa g i (gN g) (gN g)) := by rw [show sCs g (gN g) (i + 1) = (if (sCs g (gN g) i).2 < sVa g i (gN g) (gN g) then ((i : Int), sVa g i (gN g) (gN g)) else sCs g (gN g) i) from rfl]; exact if_pos (by omega)
        refine lv_iload hx hb dX1_suspect_34 (lv_at hl 0 rfl) ?_
        refine zr_topI ((sCs g (gN g) (i + 1)).2) (by rw [e1]) ?_
        refine lv_istore_n (lv' := [(2, .int (zI ((sCs g (gN g) (i + 1)).2))), (4, .int (zI (sVa g i (gN g) (gN g)))), (3, .int (zI (i : Int))), (1, .int (zI ((sCs g (gN g) i).1))), (0, .ref h)]) hx hb dX1_suspect_36 rfl hl (by decide) rfl (fun ls hl => ?_)
        refine lv_iload_n hx hb dX1_suspect_37 rfl (lv_at hl 2 rfl) ?_
        refine zr_topI ((sCs g (gN g) (i + 1)).1) (by rw [e1]) ?_
        refine lv_istore_n (lv' := [(1, .int (zI ((sCs g (gN g) (i + 1)).1))), (2, .int (zI ((sCs g (gN g) (i + 1)).2))), (4, .int (zI (sVa g i (gN g) (gN g)))), (3, .int (zI (i : Int))), (0, .ref h)]) hx hb dX1_suspect_38 rfl hl (by decide) rfl (fun ls hl => ?_)
        refine zr_iinc (b := ((i + 1 : Nat) : Int)) (lv' := [(3, .int (zI ((i + 1 : Nat) : Int))), (1, .int (zI ((sCs g (gN g) (i + 1)).1))), (2, .int (zI ((sCs g (gN g) (i + 1)).2))), (4, .int (zI (sVa g i (gN g) (gN g)))), (0, .ref h)]) hx hb dX1_suspect_39 hl (k := 3) rfl (by omega) (by decide) rfl (fun ls hl => ?_)
        refine lv_goto (tgt := 7) hx hb dX1_suspect_42 (by decide) ?_
        exact ih_loop (i + 1) (by omega) ls (lv_sub hl [0, 2, 1, 4] rfl)
  exact loop (gN g) 0 (by omega) ls (lv_sub hl [0, 1, 2, 3] rfl)
