/-! OWN ROWS: the readers of the reference -/
set_option maxHeartbeats 4000000 in
set_option maxRecDepth 100000 in
/-- isNode -/
theorem c_X2_isNode (l : Launch) (dC : Nat → ClassId) (dI : Nat → Nat → Nat) (cI cZ cS : ClassId) (b : Nat → Nat) (g : Nat → Nat → Int) (w S V o : Nat → Int) (r : Int) (hg : gB g r) (u : Int) (hu : -2147483648 ≤ u ∧ u ≤ 2147483647) : Met l yX2_isNode wsX2_isNode ({ frames := 1, cells := 0, slots := 0, locals := 22 } : Room) (rd_Pc dC dI cI cZ cS (mdw cI cZ b g w S V o) [.ref (b 0), .int (zI u)]) (rd_Qc (some (.int (zI (if 0 ≤ u ∧ u ≤ g 0 0 - 1 then 1 else 0))))) 0 0 nf := by
  refine rd_met (cc := cX2_isNode) (maxL := 2) (ret := (some .boolean)) (by decide) rfl (Nat.le_of_ble_eq_true rfl) ?_
  intro p e s m below meth c ls hx hb hml hr hlocks hts hown hP hK hl
  have hl : lv_has ls 2 [(0, .ref (b 0)), (1, .int (zI u))] := hl
  have hinX2 : ∀ w ∈ u_ws RX2 TX2 11, w ∈ wsX2_isNode := by decide +kernel
  have f_7 := hts (.fieldLink RX2 7 "NetworkCoordinatesModel" "state" "[I") (by decide +kernel)
  have b0 := hg.1
  refine lv_iload_n hx hb dX2_isNode_0 rfl (lv_at hl 1 rfl) ?_
  refine zr_iconst hx hb dX2_isNode_1 ?_
  refine lv_aload_n hx hb dX2_isNode_2 rfl (lv_at hl 0 rfl) ?_
  refine va_get (D := (dC, dI)) (ci := 2) (v := .ref (b 1)) (C := RX2) (T := TX2) (N := 11) hx hb hts hinX2 hown hK.1 hP 0 rfl rfl 0 (by decide) f_7 (fun _ h9 => h9) rfl dX2_isNode_3 ?_
  refine zr_iconst hx hb dX2_isNode_6 ?_
  refine zr_iald hx hb hK.1 hP 1 0 rfl rfl 0 (g 0 0) (by omega) (by omega) (Nat.le_of_ble_eq_true rfl) (flat_0 (by decide)) dX2_isNode_7 ?_
  refine zr_iconst hx hb dX2_isNode_8 ?_
  refine zr_isub hx hb dX2_isNode_9 ?_
  refine rd_callS (As := [.int (zI u), .int (zI 0), .int (zI (g 0 0 - 1))]) (rest := []) ⟨hx, hb, hml, hown, hts⟩ (c_X2_in l dC dI cI cZ cS u 0 (g 0 0 - 1) (by omega) (by omega) (by omega)) (va_cwS 3 hts gX2_isNode_X2_in rfl rfl rfl (by decide +kernel) ⟨Nat.le_of_ble_eq_true rfl, Nat.le_of_ble_eq_true rfl⟩) va_P_nil hK rfl hl.1 rfl (Nat.le_of_ble_eq_true rfl) dX2_isNode_10 ⟨Nat.zero_le _, Nat.zero_le _⟩ ?_
  exact rd_zret hx hb hr hlocks rfl (by split <;> omega) dX2_isNode_13
set_option maxHeartbeats 4000000 in
set_option maxRecDepth 100000 in
/-- of -/
theorem c_X2_of (l : Launch) (dC : Nat → ClassId) (dI : Nat → Nat → Nat) (cI cZ cS : ClassId) (b : Nat → Nat) (g : Nat → Nat → Int) (w S V o : Nat → Int) (r : Int) (hg : gB g r) (c1 : Nat) (hc1 : c1 ≤ 145) (u : Int) (hu : -2147483648 ≤ u ∧ u ≤ 2147483647) : Met l yX2_of wsX2_of ({ frames := 2, cells := 0, slots := 0, locals := 43 } : Room) (rd_Pc dC dI cI cZ cS (mdw cI cZ b g w S V o) [.ref (b 0), .int (zI (c1 : Int)), .int (zI u)]) (rd_Qc (some (.int (zI (if 0 ≤ u ∧ u ≤ g 0 0 - 1 then flat g (c1 + u.toNat) else -1000001))))) 0 0 nf := by
  refine rd_met (cc := cX2_of) (maxL := 3) (ret := (some .int)) (by decide) rfl (Nat.le_of_ble_eq_true rfl) ?_
  intro p e s m below meth c ls hx hb hml hr hlocks hts hown hP hK hl
  have hl : lv_has ls 3 [(0, .ref (b 0)), (1, .int (zI (c1 : Int))), (2, .int (zI u))] := hl
  have hinX2 : ∀ w ∈ u_ws RX2 TX2 11, w ∈ wsX2_of := by decide +kernel
  have k_40 := hts (.constant RX2 40 (-1000001)) (by decide +kernel)
  have f_7 := hts (.fieldLink RX2 7 "NetworkCoordinatesModel" "state" "[I") (by decide +kernel)
  have b0 := hg.1
  refine lv_aload_n hx hb dX2_of_0 rfl (lv_at hl 0 rfl) ?_
  refine lv_iload_n hx hb dX2_of_1 rfl (lv_at hl 2 rfl) ?_
  refine rd_callV (As := [.int (zI u)]) (rest := []) ⟨hx, hb, hml, hown, hts⟩ (c_X2_isNode l dC dI cI cZ cS b g w S V o r hg   u (by omega) ) (cwV 1 hts gX2_of_X2_isNode rfl rfl rfl (by decide +kernel) ⟨Nat.le_of_ble_eq_true rfl, Nat.le_of_ble_eq_true rfl⟩) hP hK 0 rfl rfl rfl hl.1 rfl (Nat.le_of_ble_eq_true rfl) dX2_of_2 ⟨Nat.zero_le _, Nat.zero_le _⟩ ?_
  refine zr_bif_eq (tgt := 19) hx hb dX2_of_5 (by decide) (fun c_5 => ?_) (fun c_5 => ?_)
  · refine zr_ldc hx hb (-1000001) hown k_40 (by decide) dX2_of_19 ?_
    exact rd_iret hx hb hr hlocks (if_neg c_5).symm dX2_of_21
  · refine lv_aload_n hx hb dX2_of_8 rfl (lv_at hl 0 rfl) ?_
    refine va_get (D := (dC, dI)) (ci := 2) (v := .ref (b 1)) (C := RX2) (T := TX2) (N := 11) hx hb hts hinX2 hown hK.1 hP 0 rfl rfl 0 (by decide) f_7 (fun _ h9 => h9) rfl dX2_of_9 ?_
    refine lv_iload_n hx hb dX2_of_12 rfl (lv_at hl 1 rfl) ?_
    refine lv_iload_n hx hb dX2_of_13 rfl (lv_at hl 2 rfl) ?_
    refine zr_iadd hx hb dX2_of_14 ?_
    refine zr_iald hx hb hK.1 hP 1 0 rfl rfl (c1 + u.toNat) (flat g (c1 + u.toNat)) (by omega) (by omega) (Nat.le_of_ble_eq_true rfl) rfl dX2_of_15 ?_
    refine lv_goto (tgt := 21) hx hb dX2_of_16 (by decide) ?_
    exact rd_iret hx hb hr hlocks (if_pos c_5).symm dX2_of_21
set_option maxHeartbeats 4000000 in
set_option maxRecDepth 100000 in
/-- x -/
theorem c_X2_x (l : Launch) (dC : Nat → ClassId) (dI : Nat → Nat → Nat) (cI cZ cS : ClassId) (b : Nat → Nat) (g : Nat → Nat → Int) (w S V o : Nat → Int) (r : Int) (hg : gB g r) (u : Int) (hu : -2147483648 ≤ u ∧ u ≤ 2147483647) : Met l yX2_x wsX2_x ({ frames := 3, cells := 0, slots := 0, locals := 65 } : Room) (rd_Pc dC dI cI cZ cS (mdw cI cZ b g w S V o) [.ref (b 0), .int (zI u)]) (rd_Qc (some (.int (zI (aOf 1 g u))))) 0 0 nf := by
  refine rd_met (cc := cX2_x) (maxL := 2) (ret := (some .int)) (by decide) rfl (Nat.le_of_ble_eq_true rfl) ?_
  intro p e s m below meth c ls hx hb hml hr hlocks hts hown hP hK hl
  have hl : lv_has ls 2 [(0, .ref (b 0)), (1, .int (zI u))] := hl
  have b0 := hg.1
  have e1 : (if 0 ≤ u ∧ u ≤ g 0 0 - 1 then flat g (5 + u.toNat) else -1000001) = aOf 1 g u := by
    unfold aOf
    split
    · exact flat_1 (by omega)
    · rfl
  refine lv_aload_n hx hb dX2_x_0 rfl (lv_at hl 0 rfl) ?_
  refine zr_iconst hx hb dX2_x_1 ?_
  refine lv_iload_n hx hb dX2_x_2 rfl (lv_at hl 1 rfl) ?_
  refine rd_callV (As := [.int (zI 5), .int (zI u)]) (rest := []) ⟨hx, hb, hml, hown, hts⟩ (e1 ▸ c_X2_of l dC dI cI cZ cS b g w S V o r hg 5 (by decide) u hu) (cwV 2 hts gX2_x_X2_of rfl rfl rfl (by decide +kernel) ⟨Nat.le_of_ble_eq_true rfl, Nat.le_of_ble_eq_true rfl⟩) hP hK 0 rfl rfl rfl hl.1 rfl (Nat.le_of_ble_eq_true rfl) dX2_x_3 ⟨Nat.zero_le _, Nat.zero_le _⟩ ?_
  exact rd_iret hx hb hr hlocks rfl dX2_x_6
set_option maxHeartbeats 4000000 in
set_option maxRecDepth 100000 in
/-- y -/
theorem c_X2_y (l : Launch) (dC : Nat → ClassId) (dI : Nat → Nat → Nat) (cI cZ cS : ClassId) (b : Nat → Nat) (g : Nat → Nat → Int) (w S V o : Nat → Int) (r : Int) (hg : gB g r) (u : Int) (hu : -2147483648 ≤ u ∧ u ≤ 2147483647) : Met l yX2_y wsX2_y ({ frames := 3, cells := 0, slots := 0, locals := 65 } : Room) (rd_Pc dC dI cI cZ cS (mdw cI cZ b g w S V o) [.ref (b 0), .int (zI u)]) (rd_Qc (some (.int (zI (aOf 2 g u))))) 0 0 nf := by
  refine rd_met (cc := cX2_y) (maxL := 2) (ret := (some .int)) (by decide) rfl (Nat.le_of_ble_eq_true rfl) ?_
  intro p e s m below meth c ls hx hb hml hr hlocks hts hown hP hK hl
  have hl : lv_has ls 2 [(0, .ref (b 0)), (1, .int (zI u))] := hl
  have b0 := hg.1
  have e1 : (if 0 ≤ u ∧ u ≤ g 0 0 - 1 then flat g (15 + u.toNat) else -1000001) = aOf 2 g u := by
    unfold aOf
    split
    · exact flat_2 (by omega)
    · rfl
  refine lv_aload_n hx hb dX2_y_0 rfl (lv_at hl 0 rfl) ?_
  refine zr_bipush hx hb dX2_y_1 (by decide) ?_
  refine lv_iload_n hx hb dX2_y_3 rfl (lv_at hl 1 rfl) ?_
  refine rd_callV (As := [.int (zI 15), .int (zI u)]) (rest := []) ⟨hx, hb, hml, hown, hts⟩ (e1 ▸ c_X2_of l dC dI cI cZ cS b g w S V o r hg 15 (by decide) u hu) (cwV 2 hts gX2_y_X2_of rfl rfl rfl (by decide +kernel) ⟨Nat.le_of_ble_eq_true rfl, Nat.le_of_ble_eq_true rfl⟩) hP hK 0 rfl rfl rfl hl.1 rfl (Nat.le_of_ble_eq_true rfl) dX2_y_4 ⟨Nat.zero_le _, Nat.zero_le _⟩ ?_
  exact rd_iret hx hb hr hlocks rfl dX2_y_7
set_option maxHeartbeats 4000000 in
set_option maxRecDepth 100000 in
/-- height -/
theorem c_X2_height (l : Launch) (dC : Nat → ClassId) (dI : Nat → Nat → Nat) (cI cZ cS : ClassId) (b : Nat → Nat) (g : Nat → Nat → Int) (w S V o : Nat → Int) (r : Int) (hg : gB g r) (u : Int) (hu : -2147483648 ≤ u ∧ u ≤ 2147483647) : Met l yX2_height wsX2_height ({ frames := 3, cells := 0, slots := 0, locals := 65 } : Room) (rd_Pc dC dI cI cZ cS (mdw cI cZ b g w S V o) [.ref (b 0), .int (zI u)]) (rd_Qc (some (.int (zI (aOf 3 g u))))) 0 0 nf := by
  refine rd_met (cc := cX2_height) (maxL := 2) (ret := (some .int)) (by decide) rfl (Nat.le_of_ble_eq_true rfl) ?_
  intro p e s m below meth c ls hx hb hml hr hlocks hts hown hP hK hl
  have hl : lv_has ls 2 [(0, .ref (b 0)), (1, .int (zI u))] := hl
  have b0 := hg.1
  have e1 : (if 0 ≤ u ∧ u ≤ g 0 0 - 1 then flat g (25 + u.toNat) else -1000001) = aOf 3 g u := by
    unfold aOf
    split
    · exact flat_3 (by omega)
    · rfl
  refine lv_aload_n hx hb dX2_height_0 rfl (lv_at hl 0 rfl) ?_
  refine zr_bipush hx hb dX2_height_1 (by decide) ?_
  refine lv_iload_n hx hb dX2_height_3 rfl (lv_at hl 1 rfl) ?_
  refine rd_callV (As := [.int (zI 25), .int (zI u)]) (rest := []) ⟨hx, hb, hml, hown, hts⟩ (e1 ▸ c_X2_of l dC dI cI cZ cS b g w S V o r hg 25 (by decide) u hu) (cwV 2 hts gX2_height_X2_of rfl rfl rfl (by decide +kernel) ⟨Nat.le_of_ble_eq_true rfl, Nat.le_of_ble_eq_true rfl⟩) hP hK 0 rfl rfl rfl hl.1 rfl (Nat.le_of_ble_eq_true rfl) dX2_height_4 ⟨Nat.zero_le _, Nat.zero_le _⟩ ?_
  exact rd_iret hx hb hr hlocks rfl dX2_height_7
set_option maxHeartbeats 4000000 in
set_option maxRecDepth 100000 in
/-- error -/
theorem c_X2_error (l : Launch) (dC : Nat → ClassId) (dI : Nat → Nat → Nat) (cI cZ cS : ClassId) (b : Nat → Nat) (g : Nat → Nat → Int) (w S V o : Nat → Int) (r : Int) (hg : gB g r) (u : Int) (hu : -2147483648 ≤ u ∧ u ≤ 2147483647) : Met l yX2_error wsX2_error ({ frames := 3, cells := 0, slots := 0, locals := 65 } : Room) (rd_Pc dC dI cI cZ cS (mdw cI cZ b g w S V o) [.ref (b 0), .int (zI u)]) (rd_Qc (some (.int (zI (aOf 4 g u))))) 0 0 nf := by
  refine rd_met (cc := cX2_error) (maxL := 2) (ret := (some .int)) (by decide) rfl (Nat.le_of_ble_eq_true rfl) ?_
  intro p e s m below meth c ls hx hb hml hr hlocks hts hown hP hK hl
  have hl : lv_has ls 2 [(0, .ref (b 0)), (1, .int (zI u))] := hl
  have b0 := hg.1
  have e1 : (if 0 ≤ u ∧ u ≤ g 0 0 - 1 then flat g (35 + u.toNat) else -1000001) = aOf 4 g u := by
    unfold aOf
    split
    · exact flat_4 (by omega)
    · rfl
  refine lv_aload_n hx hb dX2_error_0 rfl (lv_at hl 0 rfl) ?_
  refine zr_bipush hx hb dX2_error_1 (by decide) ?_
  refine lv_iload_n hx hb dX2_error_3 rfl (lv_at hl 1 rfl) ?_
  refine rd_callV (As := [.int (zI 35), .int (zI u)]) (rest := []) ⟨hx, hb, hml, hown, hts⟩ (e1 ▸ c_X2_of l dC dI cI cZ cS b g w S V o r hg 35 (by decide) u hu) (cwV 2 hts gX2_error_X2_of rfl rfl rfl (by decide +kernel) ⟨Nat.le_of_ble_eq_true rfl, Nat.le_of_ble_eq_true rfl⟩) hP hK 0 rfl rfl rfl hl.1 rfl (Nat.le_of_ble_eq_true rfl) dX2_error_4 ⟨Nat.zero_le _, Nat.zero_le _⟩ ?_
  exact rd_iret hx hb hr hlocks rfl dX2_error_7
set_option maxHeartbeats 4000000 in
set_option maxRecDepth 100000 in
/-- wrongPair -/
theorem c_X2_wrongPair (l : Launch) (dC : Nat → ClassId) (dI : Nat → Nat → Nat) (cI cZ cS : ClassId) (b : Nat → Nat) (g : Nat → Nat → Int) (w S V o : Nat → Int) (r : Int) (hg : gB g r) (u : Int) (hu : -2147483648 ≤ u ∧ u ≤ 2147483647) (v : Int) (hv : -2147483648 ≤ v ∧ v ≤ 2147483647) : Met l yX2_wrongPair wsX2_wrongPair ({ frames := 2, cells := 0, slots := 0, locals := 43 } : Room) (rd_Pc dC dI cI cZ cS (mdw cI cZ b g w S V o) [.ref (b 0), .int (zI u), .int (zI v)]) (rd_Qc (some (.int (zI (sPf g u v))))) 0 0 nf := by
  refine rd_met (cc := cX2_wrongPair) (maxL := 3) (ret := (some .int)) (by decide) rfl (Nat.le_of_ble_eq_true rfl) ?_
  intro p e s m below meth c ls hx hb hml hr hlocks hts hown hP hK hl
  have hl : lv_has ls 3 [(0, .ref (b 0)), (1, .int (zI u)), (2, .int (zI v))] := hl
  have k_40 := hts (.constant RX2 40 (-1000001)) (by decide +kernel)
  have k_41 := hts (.constant RX2 41 (-1000003)) (by decide +kernel)
  have b0 := hg.1
  refine lv_aload_n hx hb dX2_wrongPair_0 rfl (lv_at hl 0 rfl) ?_
  refine lv_iload_n hx hb dX2_wrongPair_1 rfl (lv_at hl 1 rfl) ?_
  refine rd_callV (As := [.int (zI u)]) (rest := []) ⟨hx, hb, hml, hown, hts⟩ (c_X2_isNode l dC dI cI cZ cS b g w S V o r hg   u (by omega) ) (cwV 1 hts gX2_wrongPair_X2_isNode rfl rfl rfl (by decide +kernel) ⟨Nat.le_of_ble_eq_true rfl, Nat.le_of_ble_eq_true rfl⟩) hP hK 0 rfl rfl rfl hl.1 rfl (Nat.le_of_ble_eq_true rfl) dX2_wrongPair_2 ⟨Nat.zero_le _, Nat.zero_le _⟩ ?_
  refine zr_bif_eq (tgt := 16) hx hb dX2_wrongPair_5 (by decide) (fun c_5 => ?_) (fun c_5 => ?_)
  · refine zr_ldc hx hb (-1000001) hown k_40 (by decide) dX2_wrongPair_16 ?_
    refine lv_goto (tgt := 32) hx hb dX2_wrongPair_18 (by decide) ?_
    exact rd_iret hx hb hr hlocks (by unfold sPf; rw [if_neg (by omega)]) dX2_wrongPair_32
  · refine lv_aload_n hx hb dX2_wrongPair_8 rfl (lv_at hl 0 rfl) ?_
    refine lv_iload_n hx hb dX2_wrongPair_9 rfl (lv_at hl 2 rfl) ?_
    refine rd_callV (As := [.int (zI v)]) (rest := []) ⟨hx, hb, hml, hown, hts⟩ (c_X2_isNode l dC dI cI cZ cS b g w S V o r hg   v (by omega) ) (cwV 1 hts gX2_wrongPair_X2_isNode rfl rfl rfl (by decide +kernel) ⟨Nat.le_of_ble_eq_true rfl, Nat.le_of_ble_eq_true rfl⟩) hP hK 0 rfl rfl rfl hl.1 rfl (Nat.le_of_ble_eq_true rfl) dX2_wrongPair_10 ⟨Nat.zero_le _, Nat.zero_le _⟩ ?_
    refine zr_bif_ne (tgt := 21) hx hb dX2_wrongPair_13 (by decide) (fun c_13 => ?_) (fun c_13 => ?_)
    · refine lv_iload_n hx hb dX2_wrongPair_21 rfl (lv_at hl 1 rfl) ?_
      refine lv_iload_n hx hb dX2_wrongPair_22 rfl (lv_at hl 2 rfl) ?_
      refine zr_icmp_ne (tgt := 31) hx hb dX2_wrongPair_23 (by decide) (by omega) (by omega) (fun c_23 => ?_) (fun c_23 => ?_)
      · refine zr_iconst hx hb dX2_wrongPair_31 ?_
        exact rd_iret hx hb hr hlocks (by unfold sPf; rw [if_pos (by omega), if_neg (by omega)]) dX2_wrongPair_32
      · refine zr_ldc hx hb (-1000003) hown k_41 (by decide) dX2_wrongPair_26 ?_
        refine lv_goto (tgt := 32) hx hb dX2_wrongPair_28 (by decide) ?_
        exact rd_iret hx hb hr hlocks (by unfold sPf; rw [if_pos (by omega), if_pos (by omega)]) dX2_wrongPair_32
    · refine zr_ldc hx hb (-1000001) hown k_40 (by decide) dX2_wrongPair_16 ?_
      refine lv_goto (tgt := 32) hx hb dX2_wrongPair_18 (by decide) ?_
      exact rd_iret hx hb hr hlocks (by unfold sPf; rw [if_neg (by omega)]) dX2_wrongPair_32
set_option maxHeartbeats 4000000 in
set_option maxRecDepth 100000 in
/-- wrongKnown -/
theorem c_X2_wrongKnown (l : Launch) (dC : Nat → ClassId) (dI : Nat → Nat → Nat) (cI cZ cS : ClassId) (b : Nat → Nat) (g : Nat → Nat → Int) (w S V o : Nat → Int) (r : Int) (hg : gB g r) (u : Int) (hu : -2147483648 ≤ u ∧ u ≤ 2147483647) (v : Int) (hv : -2147483648 ≤ v ∧ v ≤ 2147483647) : Met l yX2_wrongKnown wsX2_wrongKnown ({ frames := 3, cells := 0, slots := 0, locals := 65 } : Room) (rd_Pc dC dI cI cZ cS (mdw cI cZ b g w S V o) [.ref (b 0), .int (zI u), .int (zI v)]) (rd_Qc (some (.int (zI (sKf g u v))))) 0 0 nf := by
  refine rd_met (cc := cX2_wrongKnown) (maxL := 4) (ret := (some .int)) (by decide) rfl (Nat.le_of_ble_eq_true rfl) ?_
  intro p e s m below meth c ls hx hb hml hr hlocks hts hown hP hK hl
  have hl : lv_has ls 4 [(0, .ref (b 0)), (1, .int (zI u)), (2, .int (zI v))] := hl
  have hinX2 : ∀ w ∈ u_ws RX2 TX2 11, w ∈ wsX2_wrongKnown := by decide +kernel
  have f_7 := hts (.fieldLink RX2 7 "NetworkCoordinatesModel" "state" "[I") (by decide +kernel)
  have k_49 := hts (.constant RX2 49 (-1000004)) (by decide +kernel)
  have b0 := hg.1
  have s0 := sPf_rng g u v
  refine lv_aload_n hx hb dX2_wrongKnown_0 rfl (lv_at hl 0 rfl) ?_
  refine lv_iload_n hx hb dX2_wrongKnown_1 rfl (lv_at hl 1 rfl) ?_
  refine lv_iload_n hx hb dX2_wrongKnown_2 rfl (lv_at hl 2 rfl) ?_
  refine rd_callV (As := [.int (zI u), .int (zI v)]) (rest := []) ⟨hx, hb, hml, hown, hts⟩ (c_X2_wrongPair l dC dI cI cZ cS b g w S V o r hg   u (by omega) v (by omega) ) (cwV 2 hts gX2_wrongKnown_X2_wrongPair rfl rfl rfl (by decide +kernel) ⟨Nat.le_of_ble_eq_true rfl, Nat.le_of_ble_eq_true rfl⟩) hP hK 0 rfl rfl rfl hl.1 rfl (Nat.le_of_ble_eq_true rfl) dX2_wrongKnown_3 ⟨Nat.zero_le _, Nat.zero_le _⟩ ?_
  refine lv_istore_n (lv' := [(3, .int (zI (sPf g u v))), (0, .ref (b 0)), (1, .int (zI u)), (2, .int (zI v))]) hx hb dX2_wrongKnown_6 rfl hl (by decide) rfl (fun ls hl => ?_)
  refine lv_iload_n hx hb dX2_wrongKnown_7 rfl (lv_at hl 0 rfl) ?_
  refine zr_if_eq (tgt := 15) hx hb dX2_wrongKnown_8 (by decide) (by omega) (fun c_8 => ?_) (fun c_8 => ?_)
  · obtain ⟨A, B, rfl, rfl, hA2, hB2, hA, hB, hAB, eA, eB⟩ := z_nodes hg c_8
    have kAB := hg.2.2 A B hA hB
    refine lv_aload_n hx hb dX2_wrongKnown_15 rfl (lv_at hl 1 rfl) ?_
    refine va_get (D := (dC, dI)) (ci := 2) (v := .ref (b 1)) (C := RX2) (T := TX2) (N := 11) hx hb hts hinX2 hown hK.1 hP 0 rfl rfl 0 (by decide) f_7 (fun _ h9 => h9) rfl dX2_wrongKnown_16 ?_
    refine lv_iload_n hx hb dX2_wrongKnown_19 rfl (lv_at hl 2 rfl) ?_
    refine lv_iload_n hx hb dX2_wrongKnown_20 rfl (lv_at hl 3 rfl) ?_
    refine rd_callS (As := [.int (zI (A : Int)), .int (zI (B : Int))]) (rest := [.ref (b 1)]) ⟨hx, hb, hml, hown, hts⟩ (c_X2_cell l dC dI cI cZ cS A B) (va_cwS 2 hts gX2_wrongKnown_X2_cell rfl rfl rfl (by decide +kernel) ⟨Nat.le_of_ble_eq_true rfl, Nat.le_of_ble_eq_true rfl⟩) va_P_nil hK rfl hl.1 rfl (Nat.le_of_ble_eq_true rfl) dX2_wrongKnown_21 ⟨Nat.zero_le _, Nat.zero_le _⟩ ?_
    refine zr_iald hx hb hK.1 hP 1 0 rfl rfl (55 + (10 * A + B)) (g 6 (10 * A + B)) (by omega) (by omega) (Nat.le_of_ble_eq_true rfl) flat_6 dX2_wrongKnown_24 ?_
    refine zr_if_ne (tgt := 33) hx hb dX2_wrongKnown_25 (by decide) (by omega) (fun c_25 => ?_) (fun c_25 => ?_)
    · refine zr_iconst hx hb dX2_wrongKnown_33 ?_
      exact rd_iret hx hb hr hlocks (by unfold sKf; rw [if_pos c_8, eA, eB, if_pos (by omega)]) dX2_wrongKnown_34
    · refine zr_ldc hx hb (-1000004) hown k_49 (by decide) dX2_wrongKnown_28 ?_
      refine lv_goto (tgt := 34) hx hb dX2_wrongKnown_30 (by decide) ?_
      exact rd_iret hx hb hr hlocks (by unfold sKf; rw [if_pos c_8, eA, eB, if_neg (by omega)]) dX2_wrongKnown_34
  · refine lv_iload_n hx hb dX2_wrongKnown_11 rfl (lv_at hl 0 rfl) ?_
    refine lv_goto (tgt := 34) hx hb dX2_wrongKnown_12 (by decide) ?_
    exact rd_iret hx hb hr hlocks (by unfold sKf; rw [if_neg c_8]) dX2_wrongKnown_34
set_option maxHeartbeats 4000000 in
set_option maxRecDepth 100000 in
/-- rtt -/
theorem c_X2_rtt (l : Launch) (dC : Nat → ClassId) (dI : Nat → Nat → Nat) (cI cZ cS : ClassId) (b : Nat → Nat) (g : Nat → Nat → Int) (w S V o : Nat → Int) (r : Int) (hg : gB g r) (u : Int) (hu : -2147483648 ≤ u ∧ u ≤ 2147483647) (v : Int) (hv : -2147483648 ≤ v ∧ v ≤ 2147483647) : Met l yX2_rtt wsX2_rtt ({ frames := 4, cells := 0, slots := 0, locals := 88 } : Room) (rd_Pc dC dI cI cZ cS (mdw cI cZ b g w S V o) [.ref (b 0), .int (zI u), .int (zI v)]) (rd_Qc (some (.int (zI (aRtt g u v))))) 0 0 nf := by
  refine rd_met (cc := cX2_rtt) (maxL := 4) (ret := (some .int)) (by decide) rfl (Nat.le_of_ble_eq_true rfl) ?_
  intro p e s m below meth c ls hx hb hml hr hlocks hts hown hP hK hl
  have hl : lv_has ls 4 [(0, .ref (b 0)), (1, .int (zI u)), (2, .int (zI v))] := hl
  have hinX2 : ∀ w ∈ u_ws RX2 TX2 11, w ∈ wsX2_rtt := by decide +kernel
  have f_7 := hts (.fieldLink RX2 7 "NetworkCoordinatesModel" "state" "[I") (by decide +kernel)
  have b0 := hg.1
  have s0 := sKf_rng g u v
  refine lv_aload_n hx hb dX2_rtt_0 rfl (lv_at hl 0 rfl) ?_
  refine lv_iload_n hx hb dX2_rtt_1 rfl (lv_at hl 1 rfl) ?_
  refine lv_iload_n hx hb dX2_rtt_2 rfl (lv_at hl 2 rfl) ?_
  refine rd_callV (As := [.int (zI u), .int (zI v)]) (rest := []) ⟨hx, hb, hml, hown, hts⟩ (c_X2_wrongKnown l dC dI cI cZ cS b g w S V o r hg   u (by omega) v (by omega) ) (cwV 2 hts gX2_rtt_X2_wrongKnown rfl rfl rfl (by decide +kernel) ⟨Nat.le_of_ble_eq_true rfl, Nat.le_of_ble_eq_true rfl⟩) hP hK 0 rfl rfl rfl hl.1 rfl (Nat.le_of_ble_eq_true rfl) dX2_rtt_3 ⟨Nat.zero_le _, Nat.zero_le _⟩ ?_
  refine lv_istore_n (lv' := [(3, .int (zI (sKf g u v))), (0, .ref (b 0)), (1, .int (zI u)), (2, .int (zI v))]) hx hb dX2_rtt_6 rfl hl (by decide) rfl (fun ls hl => ?_)
  refine lv_iload_n hx hb dX2_rtt_7 rfl (lv_at hl 0 rfl) ?_
  refine zr_if_eq (tgt := 15) hx hb dX2_rtt_8 (by decide) (by omega) (fun c_8 => ?_) (fun c_8 => ?_)
  · obtain ⟨c1, c2⟩ := sKf_0 c_8
    obtain ⟨A, B, rfl, rfl, hA2, hB2, hA, hB, hAB, eA, eB⟩ := z_nodes hg c1
    have kAB := hg.2.2 A B hA hB
    rw [eA, eB] at c2
    refine lv_aload_n hx hb dX2_rtt_15 rfl (lv_at hl 1 rfl) ?_
    refine va_get (D := (dC, dI)) (ci := 2) (v := .ref (b 1)) (C := RX2) (T := TX2) (N := 11) hx hb hts hinX2 hown hK.1 hP 0 rfl rfl 0 (by decide) f_7 (fun _ h9 => h9) rfl dX2_rtt_16 ?_
    refine lv_iload_n hx hb dX2_rtt_19 rfl (lv_at hl 2 rfl) ?_
    refine lv_iload_n hx hb dX2_rtt_20 rfl (lv_at hl 3 rfl) ?_
    refine rd_callS (As := [.int (zI (A : Int)), .int (zI (B : Int))]) (rest := [.ref (b 1)]) ⟨hx, hb, hml, hown, hts⟩ (c_X2_cell l dC dI cI cZ cS A B) (va_cwS 2 hts gX2_rtt_X2_cell rfl rfl rfl (by decide +kernel) ⟨Nat.le_of_ble_eq_true rfl, Nat.le_of_ble_eq_true rfl⟩) va_P_nil hK rfl hl.1 rfl (Nat.le_of_ble_eq_true rfl) dX2_rtt_21 ⟨Nat.zero_le _, Nat.zero_le _⟩ ?_
    refine zr_iald hx hb hK.1 hP 1 0 rfl rfl (55 + (10 * A + B)) (g 6 (10 * A + B)) (by omega) (by omega) (Nat.le_of_ble_eq_true rfl) flat_6 dX2_rtt_24 ?_
    exact rd_iret hx hb hr hlocks (by unfold aRtt; rw [if_pos c_8, eA, eB]) dX2_rtt_25
  · refine lv_iload_n hx hb dX2_rtt_11 rfl (lv_at hl 0 rfl) ?_
    refine lv_goto (tgt := 25) hx hb dX2_rtt_12 (by decide) ?_
    exact rd_iret hx hb hr hlocks (by unfold aRtt; rw [if_neg c_8]) dX2_rtt_25
set_option maxHeartbeats 4000000 in
set_option maxRecDepth 100000 in
/-- predicted -/
theorem c_X2_predicted (l : Launch) (dC : Nat → ClassId) (dI : Nat → Nat → Nat) (cI cZ cS : ClassId) (b : Nat → Nat) (g : Nat → Nat → Int) (w S V o : Nat → Int) (r : Int) (hg : gB g r) (A B : Nat) (hA : A < 10) (hB : B < 10) : Met l yX2_predicted wsX2_predicted ({ frames := 2, cells := 0, slots := 0, locals := 50 } : Room) (rd_Pc dC dI cI cZ cS (mdw cI cZ b g w S V o) [.ref (b 0), .int (zI (A : Int)), .int (zI (B : Int))]) (rd_Qc (some (.int (zI (sPrd g A B))))) 0 0 nf := by
  refine rd_met (cc := cX2_predicted) (maxL := 3) (ret := (some .int)) (by decide) rfl (Nat.le_of_ble_eq_true rfl) ?_
  intro p e s m below meth c ls hx hb hml hr hlocks hts hown hP hK hl
  have hl : lv_has ls 3 [(0, .ref (b 0)), (1, .int (zI (A : Int))), (2, .int (zI (B : Int)))] := hl
  have hinX2 : ∀ w ∈ u_ws RX2 TX2 11, w ∈ wsX2_predicted := by decide +kernel
  have f_7 := hts (.fieldLink RX2 7 "NetworkCoordinatesModel" "state" "[I") (by decide +kernel)
  have b0 := hg.1
  have bA := hg.2.1 A hA
  have bB := hg.2.1 B hB
  refine lv_aload_n hx hb dX2_predicted_0 rfl (lv_at hl 0 rfl) ?_
  refine va_get (D := (dC, dI)) (ci := 2) (v := .ref (b 1)) (C := RX2) (T := TX2) (N := 11) hx hb hts hinX2 hown hK.1 hP 0 rfl rfl 0 (by decide) f_7 (fun _ h9 => h9) rfl dX2_predicted_1 ?_
  refine zr_iconst hx hb dX2_predicted_4 ?_
  refine lv_iload_n hx hb dX2_predicted_5 rfl (lv_at hl 1 rfl) ?_
  refine zr_iadd hx hb dX2_predicted_6 ?_
  refine zr_iald hx hb hK.1 hP 1 0 rfl rfl (5 + A) (g 1 A) (by omega) (by omega) (Nat.le_of_ble_eq_true rfl) (flat_1 (by omega)) dX2_predicted_7 ?_
  refine lv_aload_n hx hb dX2_predicted_8 rfl (lv_at hl 0 rfl) ?_
  refine va_get (D := (dC, dI)) (ci := 2) (v := .ref (b 1)) (C := RX2) (T := TX2) (N := 11) hx hb hts hinX2 hown hK.1 hP 0 rfl rfl 0 (by decide) f_7 (fun _ h9 => h9) rfl dX2_predicted_9 ?_
  refine zr_iconst hx hb dX2_predicted_12 ?_
  refine lv_iload_n hx hb dX2_predicted_13 rfl (lv_at hl 2 rfl) ?_
  refine zr_iadd hx hb dX2_predicted_14 ?_
  refine zr_iald hx hb hK.1 hP 1 0 rfl rfl (5 + B) (g 1 B) (by omega) (by omega) (Nat.le_of_ble_eq_true rfl) (flat_1 (by omega)) dX2_predicted_15 ?_
  refine zr_isub hx hb dX2_predicted_16 ?_
  refine zr_i2l hx hb (by omega) dX2_predicted_17 ?_
  refine lv_aload_n hx hb dX2_predicted_18 rfl (lv_at hl 0 rfl) ?_
  refine va_get (D := (dC, dI)) (ci := 2) (v := .ref (b 1)) (C := RX2) (T := TX2) (N := 11) hx hb hts hinX2 hown hK.1 hP 0 rfl rfl 0 (by decide) f_7 (fun _ h9 => h9) rfl dX2_predicted_19 ?_
  refine zr_bipush hx hb dX2_predicted_22 (by decide) ?_
  refine lv_iload_n hx hb dX2_predicted_24 rfl (lv_at hl 1 rfl) ?_
  refine zr_iadd hx hb dX2_predicted_25 ?_
  refine zr_iald hx hb hK.1 hP 1 0 rfl rfl (15 + A) (g 2 A) (by omega) (by omega) (Nat.le_of_ble_eq_true rfl) (flat_2 (by omega)) dX2_predicted_26 ?_
  refine lv_aload_n hx hb dX2_predicted_27 rfl (lv_at hl 0 rfl) ?_
  refine va_get (D := (dC, dI)) (ci := 2) (v := .ref (b 1)) (C := RX2) (T := TX2) (N := 11) hx hb hts hinX2 hown hK.1 hP 0 rfl rfl 0 (by decide) f_7 (fun _ h9 => h9) rfl dX2_predicted_28 ?_
  refine zr_bipush hx hb dX2_predicted_31 (by decide) ?_
  refine lv_iload_n hx hb dX2_predicted_33 rfl (lv_at hl 2 rfl) ?_
  refine zr_iadd hx hb dX2_predicted_34 ?_
  refine zr_iald hx hb hK.1 hP 1 0 rfl rfl (15 + B) (g 2 B) (by omega) (by omega) (Nat.le_of_ble_eq_true rfl) (flat_2 (by omega)) dX2_predicted_35 ?_
  refine zr_isub hx hb dX2_predicted_36 ?_
  refine zr_i2l hx hb (by omega) dX2_predicted_37 ?_
  refine rd_callS (As := [.long (zL (g 1 A - g 1 B)), .long (zL (g 2 A - g 2 B))]) (rest := []) ⟨hx, hb, hml, hown, hts⟩ (c_X2_planar l dC dI cI cZ cS (g 1 A - g 1 B) (g 2 A - g 2 B) (by omega) (by omega)) (va_cwS 2 hts gX2_predicted_X2_planar rfl rfl rfl (by decide +kernel) ⟨Nat.le_of_ble_eq_true rfl, Nat.le_of_ble_eq_true rfl⟩) va_P_nil hK rfl hl.1 rfl (Nat.le_of_ble_eq_true rfl) dX2_predicted_38 ⟨Nat.zero_le _, Nat.zero_le _⟩ ?_
  refine lv_aload_n hx hb dX2_predicted_41 rfl (lv_at hl 0 rfl) ?_
  refine va_get (D := (dC, dI)) (ci := 2) (v := .ref (b 1)) (C := RX2) (T := TX2) (N := 11) hx hb hts hinX2 hown hK.1 hP 0 rfl rfl 0 (by decide) f_7 (fun _ h9 => h9) rfl dX2_predicted_42 ?_
  refine zr_bipush hx hb dX2_predicted_45 (by decide) ?_
  refine lv_iload_n hx hb dX2_predicted_47 rfl (lv_at hl 1 rfl) ?_
  refine zr_iadd hx hb dX2_predicted_48 ?_
  refine zr_iald hx hb hK.1 hP 1 0 rfl rfl (25 + A) (g 3 A) (by omega) (by omega) (Nat.le_of_ble_eq_true rfl) (flat_3 (by omega)) dX2_predicted_49 ?_
  refine zr_iadd hx hb dX2_predicted_50 ?_
  refine lv_aload_n hx hb dX2_predicted_51 rfl (lv_at hl 0 rfl) ?_
  refine va_get (D := (dC, dI)) (ci := 2) (v := .ref (b 1)) (C := RX2) (T := TX2) (N := 11) hx hb hts hinX2 hown hK.1 hP 0 rfl rfl 0 (by decide) f_7 (fun _ h9 => h9) rfl dX2_predicted_52 ?_
  refine zr_bipush hx hb dX2_predicted_55 (by decide) ?_
  refine lv_iload_n hx hb dX2_predicted_57 rfl (lv_at hl 2 rfl) ?_
  refine zr_iadd hx hb dX2_predicted_58 ?_
  refine zr_iald hx hb hK.1 hP 1 0 rfl rfl (25 + B) (g 3 B) (by omega) (by omega) (Nat.le_of_ble_eq_true rfl) (flat_3 (by omega)) dX2_predicted_59 ?_
  refine zr_iadd hx hb dX2_predicted_60 ?_
  exact rd_iret hx hb hr hlocks rfl dX2_predicted_61
set_option maxHeartbeats 4000000 in
set_option maxRecDepth 100000 in
/-- predict -/
theorem c_X2_predict (l : Launch) (dC : Nat → ClassId) (dI : Nat → Nat → Nat) (cI cZ cS : ClassId) (b : Nat → Nat) (g : Nat → Nat → Int) (w S V o : Nat → Int) (r : Int) (hg : gB g r) (u : Int) (hu : -2147483648 ≤ u ∧ u ≤ 2147483647) (v : Int) (hv : -2147483648 ≤ v ∧ v ≤ 2147483647) : Met l yX2_predict wsX2_predict ({ frames := 3, cells := 0, slots := 0, locals := 72 } : Room) (rd_Pc dC dI cI cZ cS (mdw cI cZ b g w S V o) [.ref (b 0), .int (zI u), .int (zI v)]) (rd_Qc (some (.int (zI (aPredict g u v))))) 0 0 nf := by
  refine rd_met (cc := cX2_predict) (maxL := 4) (ret := (some .int)) (by decide) rfl (Nat.le_of_ble_eq_true rfl) ?_
  intro p e s m below meth c ls hx hb hml hr hlocks hts hown hP hK hl
  have hl : lv_has ls 4 [(0, .ref (b 0)), (1, .int (zI u)), (2, .int (zI v))] := hl
  have b0 := hg.1
  have s0 := sPf_rng g u v
  refine lv_aload_n hx hb dX2_predict_0 rfl (lv_at hl 0 rfl) ?_
  refine lv_iload_n hx hb dX2_predict_1 rfl (lv_at hl 1 rfl) ?_
  refine lv_iload_n hx hb dX2_predict_2 rfl (lv_at hl 2 rfl) ?_
  refine rd_callV (As := [.int (zI u), .int (zI v)]) (rest := []) ⟨hx, hb, hml, hown, hts⟩ (c_X2_wrongPair l dC dI cI cZ cS b g w S V o r hg   u (by omega) v (by omega) ) (cwV 2 hts gX2_predict_X2_wrongPair rfl rfl rfl (by decide +kernel) ⟨Nat.le_of_ble_eq_true rfl, Nat.le_of_ble_eq_true rfl⟩) hP hK 0 rfl rfl rfl hl.1 rfl (Nat.le_of_ble_eq_true rfl) dX2_predict_3 ⟨Nat.zero_le _, Nat.zero_le _⟩ ?_
  refine lv_istore_n (lv' := [(3, .int (zI (sPf g u v))), (0, .ref (b 0)), (1, .int (zI u)), (2, .int (zI v))]) hx hb dX2_predict_6 rfl hl (by decide) rfl (fun ls hl => ?_)
  refine lv_iload_n hx hb dX2_predict_7 rfl (lv_at hl 0 rfl) ?_
  refine zr_if_eq (tgt := 15) hx hb dX2_predict_8 (by decide) (by omega) (fun c_8 => ?_) (fun c_8 => ?_)
  · obtain ⟨A, B, rfl, rfl, hA2, hB2, hA, hB, hAB, eA, eB⟩ := z_nodes hg c_8
    have kAB := hg.2.2 A B hA hB
    refine lv_aload_n hx hb dX2_predict_15 rfl (lv_at hl 1 rfl) ?_
    refine lv_iload_n hx hb dX2_predict_16 rfl (lv_at hl 2 rfl) ?_
    refine lv_iload_n hx hb dX2_predict_17 rfl (lv_at hl 3 rfl) ?_
    refine rd_callV (As := [.int (zI (A : Int)), .int (zI (B : Int))]) (rest := []) ⟨hx, hb, hml, hown, hts⟩ (c_X2_predicted l dC dI cI cZ cS b g w S V o r hg A B (by omega) (by omega)  ) (cwV 2 hts gX2_predict_X2_predicted rfl rfl rfl (by decide +kernel) ⟨Nat.le_of_ble_eq_true rfl, Nat.le_of_ble_eq_true rfl⟩) hP hK 0 rfl rfl rfl hl.1 rfl (Nat.le_of_ble_eq_true rfl) dX2_predict_18 ⟨Nat.zero_le _, Nat.zero_le _⟩ ?_
    exact rd_iret hx hb hr hlocks (by unfold aPredict; rw [if_pos c_8, eA, eB]) dX2_predict_21
  · refine lv_iload_n hx hb dX2_predict_11 rfl (lv_at hl 0 rfl) ?_
    refine lv_goto (tgt := 21) hx hb dX2_predict_12 (by decide) ?_
    exact rd_iret hx hb hr hlocks (by unfold aPredict; rw [if_neg c_8]) dX2_predict_21
set_option maxHeartbeats 4000000 in
set_option maxRecDepth 100000 in
/-- sample -/
theorem c_X2_sample (l : Launch) (dC : Nat → ClassId) (dI : Nat → Nat → Nat) (cI cZ cS : ClassId) (b : Nat → Nat) (g : Nat → Nat → Int) (w S V o : Nat → Int) (r : Int) (hg : gB g r) (A B : Nat) (hA : A < 10) (hB : B < 10) : Met l yX2_sample wsX2_sample ({ frames := 1, cells := 0, slots := 0, locals := 21 } : Room) (rd_Pc dC dI cI cZ cS (mdw cI cZ b g w S V o) [.ref (b 0), .int (zI (A : Int)), .int (zI (B : Int))]) (rd_Qc (some (.int (zI (sSmp g A B))))) 0 0 nf := by
  refine rd_met (cc := cX2_sample) (maxL := 3) (ret := (some .int)) (by decide) rfl (Nat.le_of_ble_eq_true rfl) ?_
  intro p e s m below meth c ls hx hb hml hr hlocks hts hown hP hK hl
  have hl : lv_has ls 3 [(0, .ref (b 0)), (1, .int (zI (A : Int))), (2, .int (zI (B : Int)))] := hl
  have hinX2 : ∀ w ∈ u_ws RX2 TX2 11, w ∈ wsX2_sample := by decide +kernel
  have f_7 := hts (.fieldLink RX2 7 "NetworkCoordinatesModel" "state" "[I") (by decide +kernel)
  have b0 := hg.1
  have bA := hg.2.1 A hA
  have bB := hg.2.1 B hB
  refine lv_aload_n hx hb dX2_sample_0 rfl (lv_at hl 0 rfl) ?_
  refine va_get (D := (dC, dI)) (ci := 2) (v := .ref (b 1)) (C := RX2) (T := TX2) (N := 11) hx hb hts hinX2 hown hK.1 hP 0 rfl rfl 0 (by decide) f_7 (fun _ h9 => h9) rfl dX2_sample_1 ?_
  refine lv_iload_n hx hb dX2_sample_4 rfl (lv_at hl 1 rfl) ?_
  refine lv_iload_n hx hb dX2_sample_5 rfl (lv_at hl 2 rfl) ?_
  refine rd_callS (As := [.int (zI (A : Int)), .int (zI (B : Int))]) (rest := [.ref (b 1)]) ⟨hx, hb, hml, hown, hts⟩ (c_X2_cell l dC dI cI cZ cS A B) (va_cwS 2 hts gX2_sample_X2_cell rfl rfl rfl (by decide +kernel) ⟨Nat.le_of_ble_eq_true rfl, Nat.le_of_ble_eq_true rfl⟩) va_P_nil hK rfl hl.1 rfl (Nat.le_of_ble_eq_true rfl) dX2_sample_6 ⟨Nat.zero_le _, Nat.zero_le _⟩ ?_
  refine zr_iald hx hb hK.1 hP 1 0 rfl rfl (55 + (10 * A + B)) (g 6 (10 * A + B)) (by omega) (by omega) (Nat.le_of_ble_eq_true rfl) flat_6 dX2_sample_9 ?_
  refine lv_aload_n hx hb dX2_sample_10 rfl (lv_at hl 0 rfl) ?_
  refine va_get (D := (dC, dI)) (ci := 2) (v := .ref (b 1)) (C := RX2) (T := TX2) (N := 11) hx hb hts hinX2 hown hK.1 hP 0 rfl rfl 0 (by decide) f_7 (fun _ h9 => h9) rfl dX2_sample_11 ?_
  refine zr_bipush hx hb dX2_sample_14 (by decide) ?_
  refine lv_iload_n hx hb dX2_sample_16 rfl (lv_at hl 2 rfl) ?_
  refine zr_iadd hx hb dX2_sample_17 ?_
  refine zr_iald hx hb hK.1 hP 1 0 rfl rfl (45 + B) (g 5 B) (by omega) (by omega) (Nat.le_of_ble_eq_true rfl) (flat_5 (by omega)) dX2_sample_18 ?_
  refine zr_iadd hx hb dX2_sample_19 ?_
  exact rd_iret hx hb hr hlocks rfl dX2_sample_20
set_option maxHeartbeats 4000000 in
set_option maxRecDepth 100000 in
/-- errorOf -/
theorem c_X2_errorOf (l : Launch) (dC : Nat → ClassId) (dI : Nat → Nat → Nat) (cI cZ cS : ClassId) (b : Nat → Nat) (g : Nat → Nat → Int) (w S V o : Nat → Int) (r : Int) (hg : gB g r) (A B : Nat) (hA : A < 10) (hB : B < 10) (hk : 1 ≤ g 6 (10 * A + B)) : Met l yX2_errorOf wsX2_errorOf ({ frames := 3, cells := 0, slots := 0, locals := 72 } : Room) (rd_Pc dC dI cI cZ cS (mdw cI cZ b g w S V o) [.ref (b 0), .int (zI (A : Int)), .int (zI (B : Int))]) (rd_Qc (some (.int (zI (sRel g A B))))) 0 0 nf := by
  refine rd_met (cc := cX2_errorOf) (maxL := 5) (ret := (some .int)) (by decide) rfl (Nat.le_of_ble_eq_true rfl) ?_
  intro p e s m below meth c ls hx hb hml hr hlocks hts hown hP hK hl
  have hl : lv_has ls 5 [(0, .ref (b 0)), (1, .int (zI (A : Int))), (2, .int (zI (B : Int)))] := hl
  have hinX2 : ∀ w ∈ u_ws RX2 TX2 11, w ∈ wsX2_errorOf := by decide +kernel
  have f_7 := hts (.fieldLink RX2 7 "NetworkCoordinatesModel" "state" "[I") (by decide +kernel)
  have k_75 := hts (.constantLong RX2 75 (1000)) (by decide +kernel)
  have b0 := hg.1
  have bA := hg.2.1 A hA
  have bB := hg.2.1 B hB
  have kAB := hg.2.2 A B hA hB
  have s1 := sPrd_bd hg hA hB
  have s2 := sAbs_bd (z := sPrd g A B - g 6 (10 * A + B)) (A := 482842) (by omega)
  refine lv_aload_n hx hb dX2_errorOf_0 rfl (lv_at hl 0 rfl) ?_
  refine va_get (D := (dC, dI)) (ci := 2) (v := .ref (b 1)) (C := RX2) (T := TX2) (N := 11) hx hb hts hinX2 hown hK.1 hP 0 rfl rfl 0 (by decide) f_7 (fun _ h9 => h9) rfl dX2_errorOf_1 ?_
  refine lv_iload_n hx hb dX2_errorOf_4 rfl (lv_at hl 1 rfl) ?_
  refine lv_iload_n hx hb dX2_errorOf_5 rfl (lv_at hl 2 rfl) ?_
  refine rd_callS (As := [.int (zI (A : Int)), .int (zI (B : Int))]) (rest := [.ref (b 1)]) ⟨hx, hb, hml, hown, hts⟩ (c_X2_cell l dC dI cI cZ cS A B) (va_cwS 2 hts gX2_errorOf_X2_cell rfl rfl rfl (by decide +kernel) ⟨Nat.le_of_ble_eq_true rfl, Nat.le_of_ble_eq_true rfl⟩) va_P_nil hK rfl hl.1 rfl (Nat.le_of_ble_eq_true rfl) dX2_errorOf_6 ⟨Nat.zero_le _, Nat.zero_le _⟩ ?_
  refine zr_iald hx hb hK.1 hP 1 0 rfl rfl (55 + (10 * A + B)) (g 6 (10 * A + B)) (by omega) (by omega) (Nat.le_of_ble_eq_true rfl) flat_6 dX2_errorOf_9 ?_
  refine zr_i2l hx hb (by omega) dX2_errorOf_10 ?_
  refine lv_lstore_n (lv' := [(3, .long (zL (g 6 (10 * A + B)))), (0, .ref (b 0)), (1, .int (zI (A : Int))), (2, .int (zI (B : Int)))]) hx hb dX2_errorOf_11 rfl hl (by decide) rfl (fun ls hl => ?_)
  refine zr_ldc2 hx hb (1000) hown k_75 (by decide) dX2_errorOf_12 ?_
  refine lv_aload_n hx hb dX2_errorOf_15 rfl (lv_at hl 1 rfl) ?_
  refine lv_iload_n hx hb dX2_errorOf_16 rfl (lv_at hl 2 rfl) ?_
  refine lv_iload_n hx hb dX2_errorOf_17 rfl (lv_at hl 3 rfl) ?_
  refine rd_callV (As := [.int (zI (A : Int)), .int (zI (B : Int))]) (rest := [.long (zL 1000)]) ⟨hx, hb, hml, hown, hts⟩ (c_X2_predicted l dC dI cI cZ cS b g w S V o r hg A B (by omega) (by omega)  ) (cwV 2 hts gX2_errorOf_X2_predicted rfl rfl rfl (by decide +kernel) ⟨Nat.le_of_ble_eq_true rfl, Nat.le_of_ble_eq_true rfl⟩) hP hK 0 rfl rfl rfl hl.1 rfl (Nat.le_of_ble_eq_true rfl) dX2_errorOf_18 ⟨Nat.zero_le _, Nat.zero_le _⟩ ?_
  refine zr_i2l hx hb (by omega) dX2_errorOf_21 ?_
  refine lv_lload_n hx hb dX2_errorOf_22 rfl (lv_at hl 0 rfl) ?_
  refine zr_lsub hx hb dX2_errorOf_23 ?_
  refine rd_callS (As := [.long (zL ((sPrd g A B) - g 6 (10 * A + B)))]) (rest := [.long (zL 1000)]) ⟨hx, hb, hml, hown, hts⟩ (c_X2_plain l dC dI cI cZ cS ((sPrd g A B) - g 6 (10 * A + B)) (by omega)) (va_cwS 1 hts gX2_errorOf_X2_plain rfl rfl rfl (by decide +kernel) ⟨Nat.le_of_ble_eq_true rfl, Nat.le_of_ble_eq_true rfl⟩) va_P_nil hK rfl hl.1 rfl (Nat.le_of_ble_eq_true rfl) dX2_errorOf_24 ⟨Nat.zero_le _, Nat.zero_le _⟩ ?_
  refine zr_lmul hx hb dX2_errorOf_27 ?_
  refine lv_lload_n hx hb dX2_errorOf_28 rfl (lv_at hl 0 rfl) ?_
  refine zr_ldiv hx hb (by omega) (by omega) dX2_errorOf_29 ?_
  refine zr_l2i hx hb dX2_errorOf_30 ?_
  exact rd_iret hx hb hr hlocks rfl dX2_errorOf_31
set_option maxHeartbeats 4000000 in
set_option maxRecDepth 100000 in
/-- roundCounter -/
theorem c_X2_roundCounter (l : Launch) (dC : Nat → ClassId) (dI : Nat → Nat → Nat) (cI cZ cS : ClassId) (b : Nat → Nat) (g : Nat → Nat → Int) (w S V o : Nat → Int) (r : Int) (hg : gB g r) : Met l yX2_roundCounter wsX2_roundCounter ({ frames := 0, cells := 0, slots := 0, locals := 0 } : Room) (rd_Pc dC dI cI cZ cS (mdw cI cZ b g w S V o) [.ref (b 0)]) (rd_Qc (some (.int (zI (g 0 1))))) 0 0 nf := by
  refine rd_met (cc := cX2_roundCounter) (maxL := 1) (ret := (some .int)) (by decide) rfl (Nat.le_of_ble_eq_true rfl) ?_
  intro p e s m below meth c ls hx hb hml hr hlocks hts hown hP hK hl
  have hl : lv_has ls 1 [(0, .ref (b 0))] := hl
  have hinX2 : ∀ w ∈ u_ws RX2 TX2 11, w ∈ wsX2_roundCounter := by decide +kernel
  have f_7 := hts (.fieldLink RX2 7 "NetworkCoordinatesModel" "state" "[I") (by decide +kernel)
  have b0 := hg.1
  refine lv_aload_n hx hb dX2_roundCounter_0 rfl (lv_at hl 0 rfl) ?_
  refine va_get (D := (dC, dI)) (ci := 2) (v := .ref (b 1)) (C := RX2) (T := TX2) (N := 11) hx hb hts hinX2 hown hK.1 hP 0 rfl rfl 0 (by decide) f_7 (fun _ h9 => h9) rfl dX2_roundCounter_1 ?_
  refine zr_iconst hx hb dX2_roundCounter_4 ?_
  refine zr_iald hx hb hK.1 hP 1 0 rfl rfl 1 (g 0 1) (by omega) (by omega) (Nat.le_of_ble_eq_true rfl) (flat_0 (by decide)) dX2_roundCounter_5 ?_
  exact rd_iret hx hb hr hlocks rfl dX2_roundCounter_6
set_option maxHeartbeats 4000000 in
set_option maxRecDepth 100000 in
/-- meanError -/
theorem c_X2_meanError (l : Launch) (dC : Nat → ClassId) (dI : Nat → Nat → Nat) (cI cZ cS : ClassId) (b : Nat → Nat) (g : Nat → Nat → Int) (w S V o : Nat → Int) (r : Int) (hg : gB g r) : Met l yX2_meanError wsX2_meanError ({ frames := 4, cells := 0, slots := 0, locals := 96 } : Room) (rd_Pc dC dI cI cZ cS (mdw cI cZ b g w S V o) [.ref (b 0)]) (rd_Qc (some (.int (zI (aMean g))))) 0 0 nf := by
  refine rd_met (cc := cX2_meanError) (maxL := 6) (ret := (some .int)) (by decide) rfl (Nat.le_of_ble_eq_true rfl) ?_
  intro p e s m below meth c ls hx hb hml hr hlocks hts hown hP hK hl
  have hl : lv_has ls 6 [(0, .ref (b 0))] := hl
  have hinX2 : ∀ w ∈ u_ws RX2 TX2 11, w ∈ wsX2_meanError := by decide +kernel
  have f_7 := hts (.fieldLink RX2 7 "NetworkCoordinatesModel" "state" "[I") (by decide +kernel)
  have k_111 := hts (.constant RX2 111 (-1000005)) (by decide +kernel)
  have b0 := hg.1
  have hN := gN_eq hg
  have q1 := sMc_bd (g := g) hN.2.2
  have q2 := sMs_bd hg hN.2.2
  refine zr_lconst hx hb 0 (by decide) dX2_meanError_0 ?_
  refine lv_lstore_n (lv' := [(1, .long (zL 0)), (0, .ref (b 0))]) hx hb dX2_meanError_1 rfl hl (by decide) rfl (fun ls hl => ?_)
  refine zr_iconst hx hb dX2_meanError_2 ?_
  refine lv_istore_n (lv' := [(3, .int (zI 0)), (1, .long (zL 0)), (0, .ref (b 0))]) hx hb dX2_meanError_3 rfl hl (by decide) rfl (fun ls hl => ?_)
  refine zr_iconst hx hb dX2_meanError_4 ?_
  refine lv_istore (lv' := [(4, .int (zI 0)), (3, .int (zI 0)), (1, .long (zL 0)), (0, .ref (b 0))]) hx hb dX2_meanError_5 hl (by decide) rfl (fun ls hl => ?_)
  have loop : ∀ (k_loop i : Nat), i + k_loop = gN g → ∀ ls : Array Slot, lv_has ls 6 [(4, .int (zI (i : Int))), (3, .int (zI (sMc g (gN g) i))), (1, .long (zL (sMs g (gN g) i))), (0, .ref (b 0))] → W p l e ({ frames := 4, cells := 0, slots := 0, locals := 96 } : Room) s m [.ref (b 0)].toArray below meth c s.heap [] 0 0 (MQ below (rd_Qc (some (.int (zI (aMean g))))) [.ref (b 0)].toArray s 0 0 nf) (F0 m 7 ls []) := by
    intro k_loop
    induction k_loop with
    | zero =>
      intro i hi ls hl
      refine lv_iload hx hb dX2_meanError_7 (lv_at hl 0 rfl) ?_
      refine lv_aload_n hx hb dX2_meanError_9 rfl (lv_at hl 3 rfl) ?_
      refine va_get (D := (dC, dI)) (ci := 2) (v := .ref (b 1)) (C := RX2) (T := TX2) (N := 11) hx hb hts hinX2 hown hK.1 hP 0 rfl rfl 0 (by decide) f_7 (fun _ h9 => h9) rfl dX2_meanError_10 ?_
      refine zr_iconst hx hb dX2_meanError_13 ?_
      refine zr_iald hx hb hK.1 hP 1 0 rfl rfl 0 (g 0 0) (by omega) (by omega) (Nat.le_of_ble_eq_true rfl) (flat_0 (by decide)) dX2_meanError_14 ?_
      refine zr_icmp_ge (tgt := 77) hx hb dX2_meanError_15 (by decide) (by omega) (by omega) (fun c_15 => ?_) (fun c_15 => absurd c_15 (by omega))
      have hi2 : i = gN g := by omega
      subst hi2
      refine lv_iload_n hx hb dX2_meanError_77 rfl (lv_at hl 1 rfl) ?_
      refine zr_if_ne (tgt := 86) hx hb dX2_meanError_78 (by decide) (by omega) (fun c_78 => ?_) (fun c_78 => ?_)
      · refine lv_lload_n hx hb dX2_meanError_86 rfl (lv_at hl 2 rfl) ?_
        refine lv_iload_n hx hb dX2_meanError_87 rfl (lv_at hl 1 rfl) ?_
        refine zr_i2l hx hb (by omega) dX2_meanError_88 ?_
        refine zr_ldiv hx hb (by omega) (by omega) dX2_meanError_89 ?_
        refine zr_l2i hx hb dX2_meanError_90 ?_
        exact rd_iret hx hb hr hlocks (by unfold aMean; rw [if_neg c_78]) dX2_meanError_91
      · refine zr_ldc hx hb (-1000005) hown k_111 (by decide) dX2_meanError_81 ?_
        refine lv_goto (tgt := 91) hx hb dX2_meanError_83 (by decide) ?_
        exact rd_iret hx hb hr hlocks (by unfold aMean; rw [if_pos c_78]) dX2_meanError_91
    | succ k_loop ih_loop =>
      intro i hi ls hl
      refine lv_iload hx hb dX2_meanError_7 (lv_at hl 0 rfl) ?_
      refine lv_aload_n hx hb dX2_meanError_9 rfl (lv_at hl 3 rfl) ?_
      refine va_get (D := (dC, dI)) (ci := 2) (v := .ref (b 1)) (C := RX2) (T := TX2) (N := 11) hx hb hts hinX2 hown hK.1 hP 0 rfl rfl 0 (by decide) f_7 (fun _ h9 => h9) rfl dX2_meanError_10 ?_
      refine zr_iconst hx hb dX2_meanError_13 ?_
      refine zr_iald hx hb hK.1 hP 1 0 rfl rfl 0 (g 0 0) (by omega) (by omega) (Nat.le_of_ble_eq_true rfl) (flat_0 (by decide)) dX2_meanError_14 ?_
      refine zr_icmp_ge (tgt := 77) hx hb dX2_meanError_15 (by decide) (by omega) (by omega) (fun c_15 => absurd c_15 (by omega)) (fun c_15 => ?_)
      refine lv_iload hx hb dX2_meanError_18 (lv_at hl 0 rfl) ?_
      refine zr_iconst hx hb dX2_meanError_20 ?_
      refine zr_iadd hx hb dX2_meanError_21 ?_
      refine zr_topI ((i + 1 : Nat) : Int) (by omega) ?_
      refine lv_istore (lv' := [(5, .int (zI ((i + 1 : Nat) : Int))), (4, .int (zI (i : Int))), (3, .int (zI (sMc g (gN g) i))), (1, .long (zL (sMs g (gN g) i))), (0, .ref (b 0))]) hx hb dX2_meanError_22 hl (by decide) rfl (fun ls hl => ?_)
      have inner : ∀ (k_inner j : Nat), j + k_inner = gN g → i < j → ∀ ls : Array Slot, lv_has ls 6 [(5, .int (zI (j : Int))), (4, .int (zI (i : Int))), (3, .int (zI (sMc g (gN g) i + sMcI g i j))), (1, .long (zL (sMs g (gN g) i + sMsI g i j))), (0, .ref (b 0))] → W p l e ({ frames := 4, cells := 0, slots := 0, locals := 96 } : Room) s m [.ref (b 0)].toArray below meth c s.heap [] 0 0 (MQ below (rd_Qc (some (.int (zI (aMean g))))) [.ref (b 0)].toArray s 0 0 nf) (F0 m 24 ls []) := by
        intro k_inner
        induction k_inner with
        | zero =>
          intro j hj hij ls hl
          refine lv_iload hx hb dX2_meanError_24 (lv_at hl 0 rfl) ?_
          refine lv_aload_n hx hb dX2_meanError_26 rfl (lv_at hl 4 rfl) ?_
          refine va_get (D := (dC, dI)) (ci := 2) (v := .ref (b 1)) (C := RX2) (T := TX2) (N := 11) hx hb hts hinX2 hown hK.1 hP 0 rfl rfl 0 (by decide) f_7 (fun _ h9 => h9) rfl dX2_meanError_27 ?_
          refine zr_iconst hx hb dX2_meanError_30 ?_
          refine zr_iald hx hb hK.1 hP 1 0 rfl rfl 0 (g 0 0) (by omega) (by omega) (Nat.le_of_ble_eq_true rfl) (flat_0 (by decide)) dX2_meanError_31 ?_
          refine zr_icmp_ge (tgt := 71) hx hb dX2_meanError_32 (by decide) (by omega) (by omega) (fun c_32 => ?_) (fun c_32 => absurd c_32 (by omega))
          have hj2 : j = gN g := by omega
          have hl : lv_has ls 6 [(5, .int (zI (j : Int))), (4, .int (zI (i : Int))), (3, .int (zI (sMc g (gN g) (i + 1)))), (1, .long (zL (sMs g (gN g) (i + 1)))), (0, .ref (b 0))] := by rw [show sMc g (gN g) (i + 1) = sMc g (gN g) i + sMcI g i j from by rw [hj2]; rfl, show sMs g (gN g) (i + 1) = sMs g (gN g) i + sMsI g i j from by rw [hj2]; rfl]; exact hl
          refine zr_iinc (b := ((i + 1 : Nat) : Int)) (lv' := [(4, .int (zI ((i + 1 : Nat) : Int))), (5, .int (zI (j : Int))), (3, .int (zI (sMc g (gN g) (i + 1)))), (1, .long (zL (sMs g (gN g) (i + 1)))), (0, .ref (b 0))]) hx hb dX2_meanError_71 hl (k := 1) rfl (by omega) (by decide) rfl (fun ls hl => ?_)
          refine lv_goto (tgt := 7) hx hb dX2_meanError_74 (by decide) ?_
          exact ih_loop (i + 1) (by omega) ls (lv_sub hl [0, 2, 3, 4] rfl)
        | succ k_inner ih_inner =>
          intro j hj hij ls hl
          have hi10 : i < 10 := by omega
          have hj10 : j < 10 := by omega
          have kij := hg.2.2 i j hi10 hj10
          refine lv_iload hx hb dX2_meanError_24 (lv_at hl 0 rfl) ?_
          refine lv_aload_n hx hb dX2_meanError_26 rfl (lv_at hl 4 rfl) ?_
          refine va_get (D := (dC, dI)) (ci := 2) (v := .ref (b 1)) (C := RX2) (T := TX2) (N := 11) hx hb hts hinX2 hown hK.1 hP 0 rfl rfl 0 (by decide) f_7 (fun _ h9 => h9) rfl dX2_meanError_27 ?_
          refine zr_iconst hx hb dX2_meanError_30 ?_
          refine zr_iald hx hb hK.1 hP 1 0 rfl rfl 0 (g 0 0) (by omega) (by omega) (Nat.le_of_ble_eq_true rfl) (flat_0 (by decide)) dX2_meanError_31 ?_
          refine zr_icmp_ge (tgt := 71) hx hb dX2_meanError_32 (by decide) (by omega) (by omega) (fun c_32 => absurd c_32 (by omega)) (fun c_32 => ?_)
          refine lv_aload_n hx hb dX2_meanError_35 rfl (lv_at hl 4 rfl) ?_
          refine va_get (D := (dC, dI)) (ci := 2) (v := .ref (b 1)) (C := RX2) (T := TX2) (N := 11) hx hb hts hinX2 hown hK.1 hP 0 rfl rfl 0 (by decide) f_7 (fun _ h9 => h9) rfl dX2_meanError_36 ?_
          refine lv_iload hx hb dX2_meanError_39 (lv_at hl 1 rfl) ?_
          refine lv_iload hx hb dX2_meanError_41 (lv_at hl 0 rfl) ?_
          refine rd_callS (As := [.int (zI (i : Int)), .int (zI (j : Int))]) (rest := [.ref (b 1)]) ⟨hx, hb, hml, hown, hts⟩ (c_X2_cell l dC dI cI cZ cS i j) (va_cwS 2 hts gX2_meanError_X2_cell rfl rfl rfl (by decide +kernel) ⟨Nat.le_of_ble_eq_true rfl, Nat.le_of_ble_eq_true rfl⟩) va_P_nil hK rfl hl.1 rfl (Nat.le_of_ble_eq_true rfl) dX2_meanError_43 ⟨Nat.zero_le _, Nat.zero_le _⟩ ?_
          refine zr_iald hx hb hK.1 hP 1 0 rfl rfl (55 + (10 * i + j)) (g 6 (10 * i + j)) (by omega) (by omega) (Nat.le_of_ble_eq_true rfl) flat_6 dX2_meanError_46 ?_
          refine zr_if_le (tgt := 65) hx hb dX2_meanError_47 (by decide) (by omega) (fun c_47 => ?_) (fun c_47 => ?_)
          · have hl : lv_has ls 6 [(5, .int (zI (j : Int))), (4, .int (zI (i : Int))), (3, .int (zI (sMc g (gN g) i + sMcI g i (j + 1)))), (1, .long (zL (sMs g (gN g) i + sMsI g i (j + 1)))), (0, .ref (b 0))] := by rw [show sMcI g i (j + 1) = sMcI g i j from by unfold sMcI; rw [sm_succ, if_neg (by omega)]; omega, show sMsI g i (j + 1) = sMsI g i j from by unfold sMsI; rw [sm_succ, if_neg (by omega)]; omega]; exact hl
            refine zr_iinc (b := ((j + 1 : Nat) : Int)) (lv' := [(5, .int (zI ((j + 1 : Nat) : Int))), (4, .int (zI (i : Int))), (3, .int (zI (sMc g (gN g) i + sMcI g i (j + 1)))), (1, .long (zL (sMs g (gN g) i + sMsI g i (j + 1)))), (0, .ref (b 0))]) hx hb dX2_meanError_65 hl (k := 0) rfl (by omega) (by decide) rfl (fun ls hl => ?_)
            refine lv_goto (tgt := 24) hx hb dX2_meanError_68 (by decide) ?_
            exact ih_inner (j + 1) (by omega) (by omega) ls (lv_sub hl [0, 1, 2, 3, 4] rfl)
          · have hrl := sRel_bd hg hi10 hj10 (by omega)
            refine lv_lload_n hx hb dX2_meanError_50 rfl (lv_at hl 3 rfl) ?_
            refine lv_aload_n hx hb dX2_meanError_51 rfl (lv_at hl 4 rfl) ?_
            refine lv_iload hx hb dX2_meanError_52 (lv_at hl 1 rfl) ?_
            refine lv_iload hx hb dX2_meanError_54 (lv_at hl 0 rfl) ?_
            refine rd_callV (As := [.int (zI (i : Int)), .int (zI (j : Int))]) (rest := [.long (zL (sMs g (gN g) i + sMsI g i j))]) ⟨hx, hb, hml, hown, hts⟩ (c_X2_errorOf l dC dI cI cZ cS b g w S V o r hg i j (by omega) (by omega)  (by omega)) (cwV 2 hts gX2_meanError_X2_errorOf rfl rfl rfl (by decide +kernel) ⟨Nat.le_of_ble_eq_true rfl, Nat.le_of_ble_eq_true rfl⟩) hP hK 0 rfl rfl rfl hl.1 rfl (Nat.le_of_ble_eq_true rfl) dX2_meanError_56 ⟨Nat.zero_le _, Nat.zero_le _⟩ ?_
            refine zr_i2l hx hb (by omega) dX2_meanError_59 ?_
            refine zr_ladd hx hb dX2_meanError_60 ?_
            refine zr_topL (sMs g (gN g) i + sMsI g i (j + 1)) (by unfold sMsI; rw [sm_succ, if_pos (by omega)]; omega) ?_
            refine lv_lstore_n (lv' := [(1, .long (zL (sMs g (gN g) i + sMsI g i (j + 1)))), (5, .int (zI (j : Int))), (4, .int (zI (i : Int))), (3, .int (zI (sMc g (gN g) i + sMcI g i j))), (0, .ref (b 0))]) hx hb dX2_meanError_61 rfl hl (by decide) rfl (fun ls hl => ?_)
            refine zr_iinc (b := (sMc g (gN g) i + sMcI g i (j + 1))) (lv' := [(3, .int (zI (sMc g (gN g) i + sMcI g i (j + 1)))), (1, .long (zL (sMs g (gN g) i + sMsI g i (j + 1)))), (5, .int (zI (j : Int))), (4, .int (zI (i : Int))), (0, .ref (b 0))]) hx hb dX2_meanError_62 hl (k := 3) rfl (by unfold sMcI; rw [sm_succ, if_pos (by omega)]; omega) (by decide) rfl (fun ls hl => ?_)
            refine zr_iinc (b := ((j + 1 : Nat) : Int)) (lv' := [(5, .int (zI ((j + 1 : Nat) : Int))), (3, .int (zI (sMc g (gN g) i + sMcI g i (j + 1)))), (1, .long (zL (sMs g (gN g) i + sMsI g i (j + 1)))), (4, .int (zI (i : Int))), (0, .ref (b 0))]) hx hb dX2_meanError_65 hl (k := 2) rfl (by omega) (by decide) rfl (fun ls hl => ?_)
            refine lv_goto (tgt := 24) hx hb dX2_meanError_68 (by decide) ?_
            exact ih_inner (j + 1) (by omega) (by omega) ls (lv_sub hl [0, 3, 1, 2, 4] rfl)
      have hl : lv_has ls 6 [(5, .int (zI ((i + 1 : Nat) : Int))), (4, .int (zI (i : Int))), (3, .int (zI (sMc g (gN g) i + sMcI g i (i + 1)))), (1, .long (zL (sMs g (gN g) i + sMsI g i (i + 1)))), (0, .ref (b 0))] := by rw [sMcI_0, sMsI_0, Int.add_zero, Int.add_zero]; exact hl
      exact inner (gN g - (i + 1)) (i + 1) (by omega) (by omega) ls (lv_sub hl [0, 1, 2, 3, 4] rfl)
  exact loop (gN g) 0 (by omega) ls (lv_sub hl [0, 1, 2, 3] rfl)
set_option maxHeartbeats 4000000 in
set_option maxRecDepth 100000 in
/-- worstPair -/
theorem c_X2_worstPair (l : Launch) (dC : Nat → ClassId) (dI : Nat → Nat → Nat) (cI cZ cS : ClassId) (b : Nat → Nat) (g : Nat → Nat → Int) (w S V o : Nat → Int) (r : Int) (hg : gB g r) : Met l yX2_worstPair wsX2_worstPair ({ frames := 4, cells := 0, slots := 0, locals := 96 } : Room) (rd_Pc dC dI cI cZ cS (mdw cI cZ b g w S V o) [.ref (b 0)]) (rd_Qc (some (.int (zI ((sWo g (gN g) (gN g)).1))))) 0 0 nf := by
  refine rd_met (cc := cX2_worstPair) (maxL := 5) (ret := (some .int)) (by decide) rfl (Nat.le_of_ble_eq_true rfl) ?_
  intro p e s m below meth c ls hx hb hml hr hlocks hts hown hP hK hl
  have hl : lv_has ls 5 [(0, .ref (b 0))] := hl
  have hinX2 : ∀ w ∈ u_ws RX2 TX2 11, w ∈ wsX2_worstPair := by decide +kernel
  have k_111 := hts (.constant RX2 111 (-1000005)) (by decide +kernel)
  have f_7 := hts (.fieldLink RX2 7 "NetworkCoordinatesModel" "state" "[I") (by decide +kernel)
  have b0 := hg.1
  have hN := gN_eq hg
  refine zr_ldc hx hb (-1000005) hown k_111 (by decide) dX2_worstPair_0 ?_
  refine lv_istore_n (lv' := [(1, .int (zI (-1000005))), (0, .ref (b 0))]) hx hb dX2_worstPair_2 rfl hl (by decide) rfl (fun ls hl => ?_)
  refine zr_iconst hx hb dX2_worstPair_3 ?_
  refine lv_istore_n (lv' := [(2, .int (zI (-1))), (1, .int (zI (-1000005))), (0, .ref (b 0))]) hx hb dX2_worstPair_4 rfl hl (by decide) rfl (fun ls hl => ?_)
  refine zr_iconst hx hb dX2_worstPair_5 ?_
  refine lv_istore_n (lv' := [(3, .int (zI 0)), (2, .int (zI (-1))), (1, .int (zI (-1000005))), (0, .ref (b 0))]) hx hb dX2_worstPair_6 rfl hl (by decide) rfl (fun ls hl => ?_)
  have loop : ∀ (k_loop i : Nat), i + k_loop = gN g → ∀ ls : Array Slot, lv_has ls 5 [(3, .int (zI (i : Int))), (2, .int (zI ((sWo g (gN g) i).2))), (1, .int (zI ((sWo g (gN g) i).1))), (0, .ref (b 0))] → W p l e ({ frames := 4, cells := 0, slots := 0, locals := 96 } : Room) s m [.ref (b 0)].toArray below meth c s.heap [] 0 0 (MQ below (rd_Qc (some (.int (zI ((sWo g (gN g) (gN g)).1))))) [.ref (b 0)].toArray s 0 0 nf) (F0 m 7 ls []) := by
    intro k_loop
    induction k_loop with
    | zero =>
      intro i hi ls hl
      refine lv_iload_n hx hb dX2_worstPair_7 rfl (lv_at hl 0 rfl) ?_
      refine lv_aload_n hx hb dX2_worstPair_8 rfl (lv_at hl 3 rfl) ?_
      refine va_get (D := (dC, dI)) (ci := 2) (v := .ref (b 1)) (C := RX2) (T := TX2) (N := 11) hx hb hts hinX2 hown hK.1 hP 0 rfl rfl 0 (by decide) f_7 (fun _ h9 => h9) rfl dX2_worstPair_9 ?_
      refine zr_iconst hx hb dX2_worstPair_12 ?_
      refine zr_iald hx hb hK.1 hP 1 0 rfl rfl 0 (g 0 0) (by omega) (by omega) (Nat.le_of_ble_eq_true rfl) (flat_0 (by decide)) dX2_worstPair_13 ?_
      refine zr_icmp_ge (tgt := 86) hx hb dX2_worstPair_14 (by decide) (by omega) (by omega) (fun c_14 => ?_) (fun c_14 => absurd c_14 (by omega))
      refine lv_iload_n hx hb dX2_worstPair_86 rfl (lv_at hl 2 rfl) ?_
      exact rd_iret hx hb hr hlocks (by rw [show i = gN g by omega]) dX2_worstPair_87
    | succ k_loop ih_loop =>
      intro i hi ls hl
      refine lv_iload_n hx hb dX2_worstPair_7 rfl (lv_at hl 0 rfl) ?_
      refine lv_aload_n hx hb dX2_worstPair_8 rfl (lv_at hl 3 rfl) ?_
      refine va_get (D := (dC, dI)) (ci := 2) (v := .ref (b 1)) (C := RX2) (T := TX2) (N := 11) hx hb hts hinX2 hown hK.1 hP 0 rfl rfl 0 (by decide) f_7 (fun _ h9 => h9) rfl dX2_worstPair_9 ?_
      refine zr_iconst hx hb dX2_worstPair_12 ?_
      refine zr_iald hx hb hK.1 hP 1 0 rfl rfl 0 (g 0 0) (by omega) (by omega) (Nat.le_of_ble_eq_true rfl) (flat_0 (by decide)) dX2_worstPair_13 ?_
      refine zr_icmp_ge (tgt := 86) hx hb dX2_worstPair_14 (by decide) (by omega) (by omega) (fun c_14 => absurd c_14 (by omega)) (fun c_14 => ?_)
      refine lv_iload_n hx hb dX2_worstPair_17 rfl (lv_at hl 0 rfl) ?_
      refine zr_iconst hx hb dX2_worstPair_18 ?_
      refine zr_iadd hx hb dX2_worstPair_19 ?_
      refine zr_topI ((i + 1 : Nat) : Int) (by omega) ?_
      refine lv_istore (lv' := [(4, .int (zI ((i + 1 : Nat) : Int))), (3, .int (zI (i : Int))), (2, .int (zI ((sWo g (gN g) i).2))), (1, .int (zI ((sWo g (gN g) i).1))), (0, .ref (b 0))]) hx hb dX2_worstPair_20 hl (by decide) rfl (fun ls hl => ?_)
      have inner : ∀ (k_inner j : Nat), j + k_inner = gN g → i < j → ∀ ls : Array Slot, lv_has ls 5 [(4, .int (zI (j : Int))), (3, .int (zI (i : Int))), (2, .int (zI ((sWi g i (sWo g (gN g) i) j).2))), (1, .int (zI ((sWi g i (sWo g (gN g) i) j).1))), (0, .ref (b 0))] → W p l e ({ frames := 4, cells := 0, slots := 0, locals := 96 } : Room) s m [.ref (b 0)].toArray below meth c s.heap [] 0 0 (MQ below (rd_Qc (some (.int (zI ((sWo g (gN g) (gN g)).1))))) [.ref (b 0)].toArray s 0 0 nf) (F0 m 22 ls []) := by
        intro k_inner
        induction k_inner with
        | zero =>
          intro j hj hij ls hl
          refine lv_iload hx hb dX2_worstPair_22 (lv_at hl 0 rfl) ?_
          refine lv_aload_n hx hb dX2_worstPair_24 rfl (lv_at hl 4 rfl) ?_
          refine va_get (D := (dC, dI)) (ci := 2) (v := .ref (b 1)) (C := RX2) (T := TX2) (N := 11) hx hb hts hinX2 hown hK.1 hP 0 rfl rfl 0 (by decide) f_7 (fun _ h9 => h9) rfl dX2_worstPair_25 ?_
          refine zr_iconst hx hb dX2_worstPair_28 ?_
          refine zr_iald hx hb hK.1 hP 1 0 rfl rfl 0 (g 0 0) (by omega) (by omega) (Nat.le_of_ble_eq_true rfl) (flat_0 (by decide)) dX2_worstPair_29 ?_
          refine zr_icmp_ge (tgt := 80) hx hb dX2_worstPair_30 (by decide) (by omega) (by omega) (fun c_30 => ?_) (fun c_30 => absurd c_30 (by omega))
          have hj2 : j = gN g := by omega
          have hl : lv_has ls 5 [(4, .int (zI (j : Int))), (3, .int (zI (i : Int))), (2, .int (zI ((sWo g (gN g) (i + 1)).2))), (1, .int (zI ((sWo g (gN g) (i + 1)).1))), (0, .ref (b 0))] := by rw [show sWo g (gN g) (i + 1) = sWi g i (sWo g (gN g) i) j from by rw [hj2]; rfl]; exact hl
          refine zr_iinc (b := ((i + 1 : Nat) : Int)) (lv' := [(3, .int (zI ((i + 1 : Nat) : Int))), (4, .int (zI (j : Int))), (2, .int (zI ((sWo g (gN g) (i + 1)).2))), (1, .int (zI ((sWo g (gN g) (i + 1)).1))), (0, .ref (b 0))]) hx hb dX2_worstPair_80 hl (k := 1) rfl (by omega) (by decide) rfl (fun ls hl => ?_)
          refine lv_goto (tgt := 7) hx hb dX2_worstPair_83 (by decide) ?_
          exact ih_loop (i + 1) (by omega) ls (lv_sub hl [0, 2, 3, 4] rfl)
        | succ k_inner ih_inner =>
          intro j hj hij ls hl
          have hi10 : i < 10 := by omega
          have hj10 : j < 10 := by omega
          have kij := hg.2.2 i j hi10 hj10
          refine lv_iload hx hb dX2_worstPair_22 (lv_at hl 0 rfl) ?_
          refine lv_aload_n hx hb dX2_worstPair_24 rfl (lv_at hl 4 rfl) ?_
          refine va_get (D := (dC, dI)) (ci := 2) (v := .ref (b 1)) (C := RX2) (T := TX2) (N := 11) hx hb hts hinX2 hown hK.1 hP 0 rfl rfl 0 (by decide) f_7 (fun _ h9 => h9) rfl dX2_worstPair_25 ?_
          refine zr_iconst hx hb dX2_worstPair_28 ?_
          refine zr_iald hx hb hK.1 hP 1 0 rfl rfl 0 (g 0 0) (by omega) (by omega) (Nat.le_of_ble_eq_true rfl) (flat_0 (by decide)) dX2_worstPair_29 ?_
          refine zr_icmp_ge (tgt := 80) hx hb dX2_worstPair_30 (by decide) (by omega) (by omega) (fun c_30 => absurd c_30 (by omega)) (fun c_30 => ?_)
          refine lv_aload_n hx hb dX2_worstPair_33 rfl (lv_at hl 4 rfl) ?_
          refine va_get (D := (dC, dI)) (ci := 2) (v := .ref (b 1)) (C := RX2) (T := TX2) (N := 11) hx hb hts hinX2 hown hK.1 hP 0 rfl rfl 0 (by decide) f_7 (fun _ h9 => h9) rfl dX2_worstPair_34 ?_
          refine lv_iload_n hx hb dX2_worstPair_37 rfl (lv_at hl 1 rfl) ?_
          refine lv_iload hx hb dX2_worstPair_38 (lv_at hl 0 rfl) ?_
          refine rd_callS (As := [.int (zI (i : Int)), .int (zI (j : Int))]) (rest := [.ref (b 1)]) ⟨hx, hb, hml, hown, hts⟩ (c_X2_cell l dC dI cI cZ cS i j) (va_cwS 2 hts gX2_worstPair_X2_cell rfl rfl rfl (by decide +kernel) ⟨Nat.le_of_ble_eq_true rfl, Nat.le_of_ble_eq_true rfl⟩) va_P_nil hK rfl hl.1 rfl (Nat.le_of_ble_eq_true rfl) dX2_worstPair_40 ⟨Nat.zero_le _, Nat.zero_le _⟩ ?_
          refine zr_iald hx hb hK.1 hP 1 0 rfl rfl (55 + (10 * i + j)) (g 6 (10 * i + j)) (by omega) (by omega) (Nat.le_of_ble_eq_true rfl) flat_6 dX2_worstPair_43 ?_
          refine zr_if_le (tgt := 74) hx hb dX2_worstPair_44 (by decide) (by omega) (fun c_44 => ?_) (fun c_44 => ?_)
          · have e1 : sWi g i (sWo g (gN g) i) (j + 1) = sWi g i (sWo g (gN g) i) j := by rw [show sWi g i (sWo g (gN g) i) (j + 1) = (if i < j then sWs g i j (sWi g i (sWo g (gN g) i) j) else sWi g i (sWo g (gN g) i) j) from rfl, if_pos hij]; unfold sWs; exact if_neg (by omega)
            have hl : lv_has ls 5 [(4, .int (zI (j : Int))), (3, .int (zI (i : Int))), (2, .int (zI ((sWi g i (sWo g (gN g) i) (j + 1)).2))), (1, .int (zI ((sWi g i (sWo g (gN g) i) (j + 1)).1))), (0, .ref (b 0))] := by rw [e1]; exact hl
            refine zr_iinc (b := ((j + 1 : Nat) : Int)) (lv' := [(4, .int (zI ((j + 1 : Nat) : Int))), (3, .int (zI (i : Int))), (2, .int (zI ((sWi g i (sWo g (gN g) i) (j + 1)).2))), (1, .int (zI ((sWi g i (sWo g (gN g) i) (j + 1)).1))), (0, .ref (b 0))]) hx hb dX2_worstPair_74 hl (k := 0) rfl (by omega) (by decide) rfl (fun ls hl => ?_)
            refine lv_goto (tgt := 22) hx hb dX2_worstPair_77 (by decide) ?_
            exact ih_inner (j + 1) (by omega) (by omega) ls (lv_sub hl [0, 1, 2, 3, 4] rfl)
          · have hrl := sRel_bd hg hi10 hj10 (by omega)
            have hwb := sWi_bd hg hi10 (sWo_bd hg hN.2.2 i (by omega)) j (by omega)
            refine lv_aload_n hx hb dX2_worstPair_47 rfl (lv_at hl 4 rfl) ?_
            refine lv_iload_n hx hb dX2_worstPair_48 rfl (lv_at hl 1 rfl) ?_
            refine lv_iload hx hb dX2_worstPair_49 (lv_at hl 0 rfl) ?_
            refine rd_callV (As := [.int (zI (i : Int)), .int (zI (j : Int))]) (rest := []) ⟨hx, hb, hml, hown, hts⟩ (c_X2_errorOf l dC dI cI cZ cS b g w S V o r hg i j (by omega) (by omega)  (by omega)) (cwV 2 hts gX2_worstPair_X2_errorOf rfl rfl rfl (by decide +kernel) ⟨Nat.le_of_ble_eq_true rfl, Nat.le_of_ble_eq_true rfl⟩) hP hK 0 rfl rfl rfl hl.1 rfl (Nat.le_of_ble_eq_true rfl) dX2_worstPair_51 ⟨Nat.zero_le _, Nat.zero_le _⟩ ?_
            refine lv_iload_n hx hb dX2_worstPair_54 rfl (lv_at hl 2 rfl) ?_
            refine zr_icmp_le (tgt := 74) hx hb dX2_worstPair_55 (by decide) (by omega) (by omega) (fun c_55 => ?_) (fun c_55 => ?_)
            · have e1 : sWi g i (sWo g (gN g) i) (j + 1) = sWi g i (sWo g (gN g) i) j := by rw [show sWi g i (sWo g (gN g) i) (j + 1) = (if i < j then sWs g i j (sWi g i (sWo g (gN g) i) j) else sWi g i (sWo g (gN g) i) j) from rfl, if_pos hij]; unfold sWs; exact if_neg (by omega)
              have hl : lv_has ls 5 [(4, .int (zI (j : Int))), (3, .int (zI (i : Int))), (2, .int (zI ((sWi g i (sWo g (gN g) i) (j + 1)).2))), (1, .int (zI ((sWi g i (sWo g (gN g) i) (j + 1)).1))), (0, .ref (b 0))] := by rw [e1]; exact hl
              refine zr_iinc (b := ((j + 1 : Nat) : Int)) (lv' := [(4, .int (zI ((j + 1 : Nat) : Int))), (3, .int (zI (i : Int))), (2, .int (zI ((sWi g i (sWo g (gN g) i) (j + 1)).2))), (1, .int (zI ((sWi g i (sWo g (gN g) i) (j + 1)).1))), (0, .ref (b 0))]) hx hb dX2_worstPair_74 hl (k := 0) rfl (by omega) (by decide) rfl (fun ls hl => ?_)
              refine lv_goto (tgt := 22) hx hb dX2_worstPair_77 (by decide) ?_
              exact ih_inner (j + 1) (by omega) (by omega) ls (lv_sub hl [0, 1, 2, 3, 4] rfl)
            · have e1 : sWi g i (sWo g (gN g) i) (j + 1) = (10 * (i : Int) + (j : Int), sRel g i j) := by rw [show sWi g i (sWo g (gN g) i) (j + 1) = (if i < j then sWs g i j (sWi g i (sWo g (gN g) i) j) else sWi g i (sWo g (gN g) i) j) from rfl, if_pos hij]; unfold sWs; exact if_pos (by omega)
              refine lv_aload_n hx hb dX2_worstPair_58 rfl (lv_at hl 4 rfl) ?_
              refine lv_iload_n hx hb dX2_worstPair_59 rfl (lv_at hl 1 rfl) ?_
              refine lv_iload hx hb dX2_worstPair_60 (lv_at hl 0 rfl) ?_
              refine rd_callV (As := [.int (zI (i : Int)), .int (zI (j : Int))]) (rest := []) ⟨hx, hb, hml, hown, hts⟩ (c_X2_errorOf l dC dI cI cZ cS b g w S V o r hg i j (by omega) (by omega)  (by omega)) (cwV 2 hts gX2_worstPair_X2_errorOf rfl rfl rfl (by decide +kernel) ⟨Nat.le_of_ble_eq_true rfl, Nat.le_of_ble_eq_true rfl⟩) hP hK 0 rfl rfl rfl hl.1 rfl (Nat.le_of_ble_eq_true rfl) dX2_worstPair_62 ⟨Nat.zero_le _, Nat.zero_le _⟩ ?_
              refine zr_topI ((sWi g i (sWo g (gN g) i) (j + 1)).2) (by rw [e1]) ?_
              refine lv_istore_n (lv' := [(2, .int (zI ((sWi g i (sWo g (gN g) i) (j + 1)).2))), (4, .int (zI (j : Int))), (3, .int (zI (i : Int))), (1, .int (zI ((sWi g i (sWo g (gN g) i) j).1))), (0, .ref (b 0))]) hx hb dX2_worstPair_65 rfl hl (by decide) rfl (fun ls hl => ?_)
              refine zr_bipush hx hb dX2_worstPair_66 (by decide) ?_
              refine lv_iload_n hx hb dX2_worstPair_68 rfl (lv_at hl 2 rfl) ?_
              refine zr_imul hx hb dX2_worstPair_69 ?_
              refine lv_iload hx hb dX2_worstPair_70 (lv_at hl 1 rfl) ?_
              refine zr_iadd hx hb dX2_worstPair_72 ?_
              refine zr_topI ((sWi g i (sWo g (gN g) i) (j + 1)).1) (by rw [e1]) ?_
              refine lv_istore_n (lv' := [(1, .int (zI ((sWi g i (sWo g (gN g) i) (j + 1)).1))), (2, .int (zI ((sWi g i (sWo g (gN g) i) (j + 1)).2))), (4, .int (zI (j : Int))), (3, .int (zI (i : Int))), (0, .ref (b 0))]) hx hb dX2_worstPair_73 rfl hl (by decide) rfl (fun ls hl => ?_)
              refine zr_iinc (b := ((j + 1 : Nat) : Int)) (lv' := [(4, .int (zI ((j + 1 : Nat) : Int))), (1, .int (zI ((sWi g i (sWo g (gN g) i) (j + 1)).1))), (2, .int (zI ((sWi g i (sWo g (gN g) i) (j + 1)).2))), (3, .int (zI (i : Int))), (0, .ref (b 0))]) hx hb dX2_worstPair_74 hl (k := 2) rfl (by omega) (by decide) rfl (fun ls hl => ?_)
              refine lv_goto (tgt := 22) hx hb dX2_worstPair_77 (by decide) ?_
              exact ih_inner (j + 1) (by omega) (by omega) ls (lv_sub hl [0, 3, 2, 1, 4] rfl)
      have hl : lv_has ls 5 [(4, .int (zI ((i + 1 : Nat) : Int))), (3, .int (zI (i : Int))), (2, .int (zI ((sWi g i (sWo g (gN g) i) (i + 1)).2))), (1, .int (zI ((sWi g i (sWo g (gN g) i) (i + 1)).1))), (0, .ref (b 0))] := by rw [sWi_0 g i _ (i + 1) (Nat.le_refl _)]; exact hl
      exact inner (gN g - (i + 1)) (i + 1) (by omega) (by omega) ls (lv_sub hl [0, 1, 2, 3, 4] rfl)
  exact loop (gN g) 0 (by omega) ls (lv_sub hl [0, 1, 2, 3] rfl)
set_option maxHeartbeats 4000000 in
set_option maxRecDepth 100000 in
/-- relativeError -/
theorem c_X2_relativeError (l : Launch) (dC : Nat → ClassId) (dI : Nat → Nat → Nat) (cI cZ cS : ClassId) (b : Nat → Nat) (g : Nat → Nat → Int) (w S V o : Nat → Int) (r : Int) (hg : gB g r) (u : Int) (hu : -2147483648 ≤ u ∧ u ≤ 2147483647) (v : Int) (hv : -2147483648 ≤ v ∧ v ≤ 2147483647) : Met l yX2_relativeError wsX2_relativeError ({ frames := 4, cells := 0, slots := 0, locals := 96 } : Room) (rd_Pc dC dI cI cZ cS (mdw cI cZ b g w S V o) [.ref (b 0), .int (zI u), .int (zI v)]) (rd_Qc (some (.int (zI (aRelErr g u v))))) 0 0 nf := by
  refine rd_met (cc := cX2_relativeError) (maxL := 4) (ret := (some .int)) (by decide) rfl (Nat.le_of_ble_eq_true rfl) ?_
  intro p e s m below meth c ls hx hb hml hr hlocks hts hown hP hK hl
  have hl : lv_has ls 4 [(0, .ref (b 0)), (1, .int (zI u)), (2, .int (zI v))] := hl
  have b0 := hg.1
  have s0 := sKf_rng g u v
  refine lv_aload_n hx hb dX2_relativeError_0 rfl (lv_at hl 0 rfl) ?_
  refine lv_iload_n hx hb dX2_relativeError_1 rfl (lv_at hl 1 rfl) ?_
  refine lv_iload_n hx hb dX2_relativeError_2 rfl (lv_at hl 2 rfl) ?_
  refine rd_callV (As := [.int (zI u), .int (zI v)]) (rest := []) ⟨hx, hb, hml, hown, hts⟩ (c_X2_wrongKnown l dC dI cI cZ cS b g w S V o r hg   u (by omega) v (by omega) ) (cwV 2 hts gX2_relativeError_X2_wrongKnown rfl rfl rfl (by decide +kernel) ⟨Nat.le_of_ble_eq_true rfl, Nat.le_of_ble_eq_true rfl⟩) hP hK 0 rfl rfl rfl hl.1 rfl (Nat.le_of_ble_eq_true rfl) dX2_relativeError_3 ⟨Nat.zero_le _, Nat.zero_le _⟩ ?_
  refine lv_istore_n (lv' := [(3, .int (zI (sKf g u v))), (0, .ref (b 0)), (1, .int (zI u)), (2, .int (zI v))]) hx hb dX2_relativeError_6 rfl hl (by decide) rfl (fun ls hl => ?_)
  refine lv_iload_n hx hb dX2_relativeError_7 rfl (lv_at hl 0 rfl) ?_
  refine zr_if_eq (tgt := 15) hx hb dX2_relativeError_8 (by decide) (by omega) (fun c_8 => ?_) (fun c_8 => ?_)
  · obtain ⟨c1, c2⟩ := sKf_0 c_8
    obtain ⟨A, B, rfl, rfl, hA2, hB2, hA, hB, hAB, eA, eB⟩ := z_nodes hg c1
    have kAB := hg.2.2 A B hA hB
    rw [eA, eB] at c2
    refine lv_aload_n hx hb dX2_relativeError_15 rfl (lv_at hl 1 rfl) ?_
    refine lv_iload_n hx hb dX2_relativeError_16 rfl (lv_at hl 2 rfl) ?_
    refine lv_iload_n hx hb dX2_relativeError_17 rfl (lv_at hl 3 rfl) ?_
    refine rd_callV (As := [.int (zI (A : Int)), .int (zI (B : Int))]) (rest := []) ⟨hx, hb, hml, hown, hts⟩ (c_X2_errorOf l dC dI cI cZ cS b g w S V o r hg A B (by omega) (by omega)  (by omega)) (cwV 2 hts gX2_relativeError_X2_errorOf rfl rfl rfl (by decide +kernel) ⟨Nat.le_of_ble_eq_true rfl, Nat.le_of_ble_eq_true rfl⟩) hP hK 0 rfl rfl rfl hl.1 rfl (Nat.le_of_ble_eq_true rfl) dX2_relativeError_18 ⟨Nat.zero_le _, Nat.zero_le _⟩ ?_
    exact rd_iret hx hb hr hlocks (by unfold aRelErr; rw [if_pos c_8, eA, eB]) dX2_relativeError_21
  · refine lv_iload_n hx hb dX2_relativeError_11 rfl (lv_at hl 0 rfl) ?_
    refine lv_goto (tgt := 21) hx hb dX2_relativeError_12 (by decide) ?_
    exact rd_iret hx hb hr hlocks (by unfold aRelErr; rw [if_neg c_8]) dX2_relativeError_21
set_option maxHeartbeats 4000000 in
set_option maxRecDepth 100000 in
/-- rankOf -/
theorem c_X2_rankOf (l : Launch) (dC : Nat → ClassId) (dI : Nat → Nat → Nat) (cI cZ cS : ClassId) (b : Nat → Nat) (g : Nat → Nat → Int) (w S V o : Nat → Int) (r : Int) (hg : gB g r) (A B : Nat) (hA : A < 10) (hB : B < 10) : Met l yX2_rankOf wsX2_rankOf ({ frames := 3, cells := 0, slots := 0, locals := 72 } : Room) (rd_Pc dC dI cI cZ cS (mdw cI cZ b g w S V o) [.ref (b 0), .int (zI (A : Int)), .int (zI (B : Int))]) (rd_Qc (some (.int (zI (sRk g A B (gN g)))))) 0 0 nf := by
  refine rd_met (cc := cX2_rankOf) (maxL := 7) (ret := (some .int)) (by decide) rfl (Nat.le_of_ble_eq_true rfl) ?_
  intro p e s m below meth c ls hx hb hml hr hlocks hts hown hP hK hl
  have hl : lv_has ls 7 [(0, .ref (b 0)), (1, .int (zI (A : Int))), (2, .int (zI (B : Int)))] := hl
  have hinX2 : ∀ w ∈ u_ws RX2 TX2 11, w ∈ wsX2_rankOf := by decide +kernel
  have f_7 := hts (.fieldLink RX2 7 "NetworkCoordinatesModel" "state" "[I") (by decide +kernel)
  have b0 := hg.1
  have bA := hg.2.1 A hA
  have bB := hg.2.1 B hB
  have hN := gN_eq hg
  have s1 := sPrd_bd hg hA hB
  refine zr_iconst hx hb dX2_rankOf_0 ?_
  refine lv_istore_n (lv' := [(3, .int (zI 0)), (0, .ref (b 0)), (1, .int (zI (A : Int))), (2, .int (zI (B : Int)))]) hx hb dX2_rankOf_1 rfl hl (by decide) rfl (fun ls hl => ?_)
  refine lv_aload_n hx hb dX2_rankOf_2 rfl (lv_at hl 1 rfl) ?_
  refine lv_iload_n hx hb dX2_rankOf_3 rfl (lv_at hl 2 rfl) ?_
  refine lv_iload_n hx hb dX2_rankOf_4 rfl (lv_at hl 3 rfl) ?_
  refine rd_callV (As := [.int (zI (A : Int)), .int (zI (B : Int))]) (rest := []) ⟨hx, hb, hml, hown, hts⟩ (c_X2_predicted l dC dI cI cZ cS b g w S V o r hg A B (by omega) (by omega)  ) (cwV 2 hts gX2_rankOf_X2_predicted rfl rfl rfl (by decide +kernel) ⟨Nat.le_of_ble_eq_true rfl, Nat.le_of_ble_eq_true rfl⟩) hP hK 0 rfl rfl rfl hl.1 rfl (Nat.le_of_ble_eq_true rfl) dX2_rankOf_5 ⟨Nat.zero_le _, Nat.zero_le _⟩ ?_
  refine lv_istore (lv' := [(4, .int (zI (sPrd g A B))), (3, .int (zI 0)), (0, .ref (b 0)), (1, .int (zI (A : Int))), (2, .int (zI (B : Int)))]) hx hb dX2_rankOf_8 hl (by decide) rfl (fun ls hl => ?_)
  refine zr_iconst hx hb dX2_rankOf_10 ?_
  refine lv_istore (lv' := [(5, .int (zI 0)), (4, .int (zI (sPrd g A B))), (3, .int (zI 0)), (0, .ref (b 0)), (1, .int (zI (A : Int))), (2, .int (zI (B : Int)))]) hx hb dX2_rankOf_11 hl (by decide) rfl (fun ls hl => ?_)
  have loop : ∀ (k_loop i : Nat), i + k_loop = gN g → ∀ ls : Array Slot, lv_has ls 7 [(5, .int (zI (i : Int))), (4, .int (zI (sPrd g A B))), (3, .int (zI (sRk g A B i))), (0, .ref (b 0)), (1, .int (zI (A : Int))), (2, .int (zI (B : Int)))] → W p l e ({ frames := 3, cells := 0, slots := 0, locals := 72 } : Room) s m [.ref (b 0), .int (zI (A : Int)), .int (zI (B : Int))].toArray below meth c s.heap [] 0 0 (MQ below (rd_Qc (some (.int (zI (sRk g A B (gN g)))))) [.ref (b 0), .int (zI (A : Int)), .int (zI (B : Int))].toArray s 0 0 nf) (F0 m 13 ls []) := by
    intro k_loop
    induction k_loop with
    | zero =>
      intro i hi ls hl
      refine lv_iload hx hb dX2_rankOf_13 (lv_at hl 0 rfl) ?_
      refine lv_aload_n hx hb dX2_rankOf_15 rfl (lv_at hl 3 rfl) ?_
      refine va_get (D := (dC, dI)) (ci := 2) (v := .ref (b 1)) (C := RX2) (T := TX2) (N := 11) hx hb hts hinX2 hown hK.1 hP 0 rfl rfl 0 (by decide) f_7 (fun _ h9 => h9) rfl dX2_rankOf_16 ?_
      refine zr_iconst hx hb dX2_rankOf_19 ?_
      refine zr_iald hx hb hK.1 hP 1 0 rfl rfl 0 (g 0 0) (by omega) (by omega) (Nat.le_of_ble_eq_true rfl) (flat_0 (by decide)) dX2_rankOf_20 ?_
      refine zr_icmp_ge (tgt := 79) hx hb dX2_rankOf_21 (by decide) (by omega) (by omega) (fun c_21 => ?_) (fun c_21 => absurd c_21 (by omega))
      refine lv_iload_n hx hb dX2_rankOf_79 rfl (lv_at hl 2 rfl) ?_
      exact rd_iret hx hb hr hlocks (by rw [show i = gN g by omega]) dX2_rankOf_80
    | succ k_loop ih_loop =>
      intro i hi ls hl
      have s2 := sPrd_bd (b := i) hg hA (by omega)
      refine lv_iload hx hb dX2_rankOf_13 (lv_at hl 0 rfl) ?_
      refine lv_aload_n hx hb dX2_rankOf_15 rfl (lv_at hl 3 rfl) ?_
      refine va_get (D := (dC, dI)) (ci := 2) (v := .ref (b 1)) (C := RX2) (T := TX2) (N := 11) hx hb hts hinX2 hown hK.1 hP 0 rfl rfl 0 (by decide) f_7 (fun _ h9 => h9) rfl dX2_rankOf_16 ?_
      refine zr_iconst hx hb dX2_rankOf_19 ?_
      refine zr_iald hx hb hK.1 hP 1 0 rfl rfl 0 (g 0 0) (by omega) (by omega) (Nat.le_of_ble_eq_true rfl) (flat_0 (by decide)) dX2_rankOf_20 ?_
      refine zr_icmp_ge (tgt := 79) hx hb dX2_rankOf_21 (by decide) (by omega) (by omega) (fun c_21 => absurd c_21 (by omega)) (fun c_21 => ?_)
      refine lv_iload hx hb dX2_rankOf_24 (lv_at hl 0 rfl) ?_
      refine lv_iload_n hx hb dX2_rankOf_26 rfl (lv_at hl 4 rfl) ?_
      refine zr_icmp_eq (tgt := 73) hx hb dX2_rankOf_27 (by decide) (by omega) (by omega) (fun c_27 => ?_) (fun c_27 => ?_)
      · have hl : lv_has ls 7 [(5, .int (zI (i : Int))), (4, .int (zI (sPrd g A B))), (3, .int (zI (sRk g A B (i + 1)))), (0, .ref (b 0)), (1, .int (zI (A : Int))), (2, .int (zI (B : Int)))] := by rw [show sRk g A B (i + 1) = sRk g A B i from by unfold sRk; rw [sm_succ, if_neg (by omega)]; omega]; exact hl
        refine zr_iinc (b := ((i + 1 : Nat) : Int)) (lv' := [(5, .int (zI ((i + 1 : Nat) : Int))), (4, .int (zI (sPrd g A B))), (3, .int (zI (sRk g A B (i + 1)))), (0, .ref (b 0)), (1, .int (zI (A : Int))), (2, .int (zI (B : Int)))]) hx hb dX2_rankOf_73 hl (k := 0) rfl (by omega) (by decide) rfl (fun ls hl => ?_)
        refine lv_goto (tgt := 13) hx hb dX2_rankOf_76 (by decide) ?_
        exact ih_loop (i + 1) (by omega) ls (lv_sub hl [0, 1, 2, 3, 4, 5] rfl)
      · refine lv_iload hx hb dX2_rankOf_30 (lv_at hl 0 rfl) ?_
        refine lv_iload_n hx hb dX2_rankOf_32 rfl (lv_at hl 5 rfl) ?_
        refine zr_icmp_eq (tgt := 73) hx hb dX2_rankOf_33 (by decide) (by omega) (by omega) (fun c_33 => ?_) (fun c_33 => ?_)
        · have hl : lv_has ls 7 [(5, .int (zI (i : Int))), (4, .int (zI (sPrd g A B))), (3, .int (zI (sRk g A B (i + 1)))), (0, .ref (b 0)), (1, .int (zI (A : Int))), (2, .int (zI (B : Int)))] := by rw [show sRk g A B (i + 1) = sRk g A B i from by unfold sRk; rw [sm_succ, if_neg (by omega)]; omega]; exact hl
          refine zr_iinc (b := ((i + 1 : Nat) : Int)) (lv' := [(5, .int (zI ((i + 1 : Nat) : Int))), (4, .int (zI (sPrd g A B))), (3, .int (zI (sRk g A B (i + 1)))), (0, .ref (b 0)), (1, .int (zI (A : Int))), (2, .int (zI (B : Int)))]) hx hb dX2_rankOf_73 hl (k := 0) rfl (by omega) (by decide) rfl (fun ls hl => ?_)
          refine lv_goto (tgt := 13) hx hb dX2_rankOf_76 (by decide) ?_
          exact ih_loop (i + 1) (by omega) ls (lv_sub hl [0, 1, 2, 3, 4, 5] rfl)
        · refine lv_aload_n hx hb dX2_rankOf_36 rfl (lv_at hl 3 rfl) ?_
          refine lv_iload_n hx hb dX2_rankOf_37 rfl (lv_at hl 4 rfl) ?_
          refine lv_iload hx hb dX2_rankOf_38 (lv_at hl 0 rfl) ?_
          refine rd_callV (As := [.int (zI (A : Int)), .int (zI (i : Int))]) (rest := []) ⟨hx, hb, hml, hown, hts⟩ (c_X2_predicted l dC dI cI cZ cS b g w S V o r hg A i (by omega) (by omega)  ) (cwV 2 hts gX2_rankOf_X2_predicted rfl rfl rfl (by decide +kernel) ⟨Nat.le_of_ble_eq_true rfl, Nat.le_of_ble_eq_true rfl⟩) hP hK 0 rfl rfl rfl hl.1 rfl (Nat.le_of_ble_eq_true rfl) dX2_rankOf_40 ⟨Nat.zero_le _, Nat.zero_le _⟩ ?_
          refine lv_istore (lv' := [(6, .int (zI (sPrd g A i))), (5, .int (zI (i : Int))), (4, .int (zI (sPrd g A B))), (3, .int (zI (sRk g A B i))), (0, .ref (b 0)), (1, .int (zI (A : Int))), (2, .int (zI (B : Int)))]) hx hb dX2_rankOf_43 hl (by decide) rfl (fun ls hl => ?_)
          refine lv_iload_n hx hb dX2_rankOf_45 rfl (lv_at hl 3 rfl) ?_
          refine lv_iload hx hb dX2_rankOf_46 (lv_at hl 0 rfl) ?_
          refine lv_iload hx hb dX2_rankOf_48 (lv_at hl 2 rfl) ?_
          refine zr_icmp_lt (tgt := 66) hx hb dX2_rankOf_50 (by decide) (by omega) (by omega) (fun c_50 => ?_) (fun c_50 => ?_)
          · refine zr_iconst hx hb dX2_rankOf_66 ?_
            refine lv_goto (tgt := 71) hx hb dX2_rankOf_67 (by decide) ?_
            refine zr_iadd hx hb dX2_rankOf_71 ?_
            refine zr_topI (sRk g A B (i + 1)) (by unfold sRk; rw [sm_succ, if_pos (by omega)]) ?_
            refine lv_istore_n (lv' := [(3, .int (zI (sRk g A B (i + 1)))), (6, .int (zI (sPrd g A i))), (5, .int (zI (i : Int))), (4, .int (zI (sPrd g A B))), (0, .ref (b 0)), (1, .int (zI (A : Int))), (2, .int (zI (B : Int)))]) hx hb dX2_rankOf_72 rfl hl (by decide) rfl (fun ls hl => ?_)
            refine zr_iinc (b := ((i + 1 : Nat) : Int)) (lv' := [(5, .int (zI ((i + 1 : Nat) : Int))), (3, .int (zI (sRk g A B (i + 1)))), (6, .int (zI (sPrd g A i))), (4, .int (zI (sPrd g A B))), (0, .ref (b 0)), (1, .int (zI (A : Int))), (2, .int (zI (B : Int)))]) hx hb dX2_rankOf_73 hl (k := 2) rfl (by omega) (by decide) rfl (fun ls hl => ?_)
            refine lv_goto (tgt := 13) hx hb dX2_rankOf_76 (by decide) ?_
            exact ih_loop (i + 1) (by omega) ls (lv_sub hl [0, 3, 1, 4, 5, 6] rfl)
          · refine lv_iload hx hb dX2_rankOf_53 (lv_at hl 0 rfl) ?_
            refine lv_iload hx hb dX2_rankOf_55 (lv_at hl 2 rfl) ?_
            refine zr_icmp_ne (tgt := 70) hx hb dX2_rankOf_57 (by decide) (by omega) (by omega) (fun c_57 => ?_) (fun c_57 => ?_)
            · refine zr_iconst hx hb dX2_rankOf_70 ?_
              refine zr_iadd hx hb dX2_rankOf_71 ?_
              refine zr_topI (sRk g A B (i + 1)) (by unfold sRk; rw [sm_succ, if_neg (by omega)]) ?_
              refine lv_istore_n (lv' := [(3, .int (zI (sRk g A B (i + 1)))), (6, .int (zI (sPrd g A i))), (5, .int (zI (i : Int))), (4, .int (zI (sPrd g A B))), (0, .ref (b 0)), (1, .int (zI (A : Int))), (2, .int (zI (B : Int)))]) hx hb dX2_rankOf_72 rfl hl (by decide) rfl (fun ls hl => ?_)
              refine zr_iinc (b := ((i + 1 : Nat) : Int)) (lv' := [(5, .int (zI ((i + 1 : Nat) : Int))), (3, .int (zI (sRk g A B (i + 1)))), (6, .int (zI (sPrd g A i))), (4, .int (zI (sPrd g A B))), (0, .ref (b 0)), (1, .int (zI (A : Int))), (2, .int (zI (B : Int)))]) hx hb dX2_rankOf_73 hl (k := 2) rfl (by omega) (by decide) rfl (fun ls hl => ?_)
              refine lv_goto (tgt := 13) hx hb dX2_rankOf_76 (by decide) ?_
              exact ih_loop (i + 1) (by omega) ls (lv_sub hl [0, 3, 1, 4, 5, 6] rfl)
            · refine lv_iload hx hb dX2_rankOf_60 (lv_at hl 1 rfl) ?_
              refine lv_iload_n hx hb dX2_rankOf_62 rfl (lv_at hl 6 rfl) ?_
              refine zr_icmp_ge (tgt := 70) hx hb dX2_rankOf_63 (by decide) (by omega) (by omega) (fun c_63 => ?_) (fun c_63 => ?_)
              · refine zr_iconst hx hb dX2_rankOf_70 ?_
                refine zr_iadd hx hb dX2_rankOf_71 ?_
                refine zr_topI (sRk g A B (i + 1)) (by unfold sRk; rw [sm_succ, if_neg (by omega)]) ?_
                refine lv_istore_n (lv' := [(3, .int (zI (sRk g A B (i + 1)))), (6, .int (zI (sPrd g A i))), (5, .int (zI (i : Int))), (4, .int (zI (sPrd g A B))), (0, .ref (b 0)), (1, .int (zI (A : Int))), (2, .int (zI (B : Int)))]) hx hb dX2_rankOf_72 rfl hl (by decide) rfl (fun ls hl => ?_)
                refine zr_iinc (b := ((i + 1 : Nat) : Int)) (lv' := [(5, .int (zI ((i + 1 : Nat) : Int))), (3, .int (zI (sRk g A B (i + 1)))), (6, .int (zI (sPrd g A i))), (4, .int (zI (sPrd g A B))), (0, .ref (b 0)), (1, .int (zI (A : Int))), (2, .int (zI (B : Int)))]) hx hb dX2_rankOf_73 hl (k := 2) rfl (by omega) (by decide) rfl (fun ls hl => ?_)
                refine lv_goto (tgt := 13) hx hb dX2_rankOf_76 (by decide) ?_
                exact ih_loop (i + 1) (by omega) ls (lv_sub hl [0, 3, 1, 4, 5, 6] rfl)
              · refine zr_iconst hx hb dX2_rankOf_66 ?_
                refine lv_goto (tgt := 71) hx hb dX2_rankOf_67 (by decide) ?_
                refine zr_iadd hx hb dX2_rankOf_71 ?_
                refine zr_topI (sRk g A B (i + 1)) (by unfold sRk; rw [sm_succ, if_pos (by omega)]) ?_
                refine lv_istore_n (lv' := [(3, .int (zI (sRk g A B (i + 1)))), (6, .int (zI (sPrd g A i))), (5, .int (zI (i : Int))), (4, .int (zI (sPrd g A B))), (0, .ref (b 0)), (1, .int (zI (A : Int))), (2, .int (zI (B : Int)))]) hx hb dX2_rankOf_72 rfl hl (by decide) rfl (fun ls hl => ?_)
                refine zr_iinc (b := ((i + 1 : Nat) : Int)) (lv' := [(5, .int (zI ((i + 1 : Nat) : Int))), (3, .int (zI (sRk g A B (i + 1)))), (6, .int (zI (sPrd g A i))), (4, .int (zI (sPrd g A B))), (0, .ref (b 0)), (1, .int (zI (A : Int))), (2, .int (zI (B : Int)))]) hx hb dX2_rankOf_73 hl (k := 2) rfl (by omega) (by decide) rfl (fun ls hl => ?_)
                refine lv_goto (tgt := 13) hx hb dX2_rankOf_76 (by decide) ?_
                exact ih_loop (i + 1) (by omega) ls (lv_sub hl [0, 3, 1, 4, 5, 6] rfl)
  exact loop (gN g) 0 (by omega) ls (lv_sub hl [0, 1, 2, 3, 4, 5] rfl)
set_option maxHeartbeats 4000000 in
set_option maxRecDepth 100000 in
/-- nearest -/
theorem c_X2_nearest (l : Launch) (dC : Nat → ClassId) (dI : Nat → Nat → Nat) (cI cZ cS : ClassId) (b : Nat → Nat) (g : Nat → Nat → Int) (w S V o : Nat → Int) (r : Int) (hg : gB g r) (u : Int) (hu : -2147483648 ≤ u ∧ u ≤ 2147483647) (k : Int) (hk : -2147483648 ≤ k ∧ k ≤ 2147483647) : Met l yX2_nearest wsX2_nearest ({ frames := 4, cells := 0, slots := 0, locals := 98 } : Room) (rd_Pc dC dI cI cZ cS (mdw cI cZ b g w S V o) [.ref (b 0), .int (zI u), .int (zI k)]) (rd_Qc (some (.int (zI (aNear u g u k))))) 0 0 nf := by
  refine rd_met (cc := cX2_nearest) (maxL := 5) (ret := (some .int)) (by decide) rfl (Nat.le_of_ble_eq_true rfl) ?_
  intro p e s m below meth c ls hx hb hml hr hlocks hts hown hP hK hl
  have hl : lv_has ls 5 [(0, .ref (b 0)), (1, .int (zI u)), (2, .int (zI k))] := hl
  have hinX2 : ∀ w ∈ u_ws RX2 TX2 11, w ∈ wsX2_nearest := by decide +kernel
  have f_7 := hts (.fieldLink RX2 7 "NetworkCoordinatesModel" "state" "[I") (by decide +kernel)
  have k_35 := hts (.constant RX2 35 (-1000002)) (by decide +kernel)
  have k_40 := hts (.constant RX2 40 (-1000001)) (by decide +kernel)
  have b0 := hg.1
  have hN := gN_eq hg
  refine lv_aload_n hx hb dX2_nearest_0 rfl (lv_at hl 0 rfl) ?_
  refine lv_iload_n hx hb dX2_nearest_1 rfl (lv_at hl 1 rfl) ?_
  refine rd_callV (As := [.int (zI u)]) (rest := []) ⟨hx, hb, hml, hown, hts⟩ (c_X2_isNode l dC dI cI cZ cS b g w S V o r hg   u (by omega) ) (cwV 1 hts gX2_nearest_X2_isNode rfl rfl rfl (by decide +kernel) ⟨Nat.le_of_ble_eq_true rfl, Nat.le_of_ble_eq_true rfl⟩) hP hK 0 rfl rfl rfl hl.1 rfl (Nat.le_of_ble_eq_true rfl) dX2_nearest_2 ⟨Nat.zero_le _, Nat.zero_le _⟩ ?_
  refine zr_bif_ne (tgt := 11) hx hb dX2_nearest_5 (by decide) (fun c_5 => ?_) (fun c_5 => ?_)
  · refine lv_iload_n hx hb dX2_nearest_11 rfl (lv_at hl 2 rfl) ?_
    refine zr_iconst hx hb dX2_nearest_12 ?_
    refine lv_aload_n hx hb dX2_nearest_13 rfl (lv_at hl 0 rfl) ?_
    refine va_get (D := (dC, dI)) (ci := 2) (v := .ref (b 1)) (C := RX2) (T := TX2) (N := 11) hx hb hts hinX2 hown hK.1 hP 0 rfl rfl 0 (by decide) f_7 (fun _ h9 => h9) rfl dX2_nearest_14 ?_
    refine zr_iconst hx hb dX2_nearest_17 ?_
    refine zr_iald hx hb hK.1 hP 1 0 rfl rfl 0 (g 0 0) (by omega) (by omega) (Nat.le_of_ble_eq_true rfl) (flat_0 (by decide)) dX2_nearest_18 ?_
    refine zr_iconst hx hb dX2_nearest_19 ?_
    refine zr_isub hx hb dX2_nearest_20 ?_
    refine rd_callS (As := [.int (zI k), .int (zI 0), .int (zI (g 0 0 - 2))]) (rest := []) ⟨hx, hb, hml, hown, hts⟩ (c_X2_in l dC dI cI cZ cS k 0 (g 0 0 - 2) (by omega) (by omega) (by omega)) (va_cwS 3 hts gX2_nearest_X2_in rfl rfl rfl (by decide +kernel) ⟨Nat.le_of_ble_eq_true rfl, Nat.le_of_ble_eq_true rfl⟩) va_P_nil hK rfl hl.1 rfl (Nat.le_of_ble_eq_true rfl) dX2_nearest_21 ⟨Nat.zero_le _, Nat.zero_le _⟩ ?_
    refine zr_bif_ne (tgt := 30) hx hb dX2_nearest_24 (by decide) (fun c_24 => ?_) (fun c_24 => ?_)
    · obtain ⟨A, rfl⟩ : ∃ A : Nat, u = (A : Int) := ⟨u.toNat, by omega⟩
      have eA : ((A : Nat) : Int).toNat = A := by omega
      refine lv_iload_n hx hb dX2_nearest_30 rfl (lv_at hl 1 rfl) ?_
      refine lv_istore_n (lv' := [(3, .int (zI (A : Int))), (0, .ref (b 0)), (1, .int (zI (A : Int))), (2, .int (zI k))]) hx hb dX2_nearest_31 rfl hl (by decide) rfl (fun ls hl => ?_)
      refine zr_iconst hx hb dX2_nearest_32 ?_
      refine lv_istore (lv' := [(4, .int (zI 0)), (3, .int (zI (A : Int))), (0, .ref (b 0)), (1, .int (zI (A : Int))), (2, .int (zI k))]) hx hb dX2_nearest_33 hl (by decide) rfl (fun ls hl => ?_)
      have loop : ∀ (k_loop i : Nat), i + k_loop = gN g → ∀ ls : Array Slot, lv_has ls 5 [(4, .int (zI (i : Int))), (3, .int (zI (sNr g A k (A : Int) i))), (0, .ref (b 0)), (1, .int (zI (A : Int))), (2, .int (zI k))] → W p l e ({ frames := 4, cells := 0, slots := 0, locals := 98 } : Room) s m [.ref (b 0), .int (zI (A : Int)), .int (zI k)].toArray below meth c s.heap [] 0 0 (MQ below (rd_Qc (some (.int (zI (aNear (A : Int) g (A : Int) k))))) [.ref (b 0), .int (zI (A : Int)), .int (zI k)].toArray s 0 0 nf) (F0 m 35 ls []) := by
        intro k_loop
        induction k_loop with
        | zero =>
          intro i hi ls hl
          refine lv_iload hx hb dX2_nearest_35 (lv_at hl 0 rfl) ?_
          refine lv_aload_n hx hb dX2_nearest_37 rfl (lv_at hl 2 rfl) ?_
          refine va_get (D := (dC, dI)) (ci := 2) (v := .ref (b 1)) (C := RX2) (T := TX2) (N := 11) hx hb hts hinX2 hown hK.1 hP 0 rfl rfl 0 (by decide) f_7 (fun _ h9 => h9) rfl dX2_nearest_38 ?_
          refine zr_iconst hx hb dX2_nearest_41 ?_
          refine zr_iald hx hb hK.1 hP 1 0 rfl rfl 0 (g 0 0) (by omega) (by omega) (Nat.le_of_ble_eq_true rfl) (flat_0 (by decide)) dX2_nearest_42 ?_
          refine zr_icmp_ge (tgt := 76) hx hb dX2_nearest_43 (by decide) (by omega) (by omega) (fun c_43 => ?_) (fun c_43 => absurd c_43 (by omega))
          refine lv_iload_n hx hb dX2_nearest_76 rfl (lv_at hl 1 rfl) ?_
          exact rd_iret hx hb hr hlocks (by unfold aNear; rw [if_pos c_5, if_pos c_24, eA, show i = gN g by omega]) dX2_nearest_77
        | succ k_loop ih_loop =>
          intro i hi ls hl
          have s2 := sRk_bd (g := g) (a := A) (b := i) hN.2.2
          refine lv_iload hx hb dX2_nearest_35 (lv_at hl 0 rfl) ?_
          refine lv_aload_n hx hb dX2_nearest_37 rfl (lv_at hl 2 rfl) ?_
          refine va_get (D := (dC, dI)) (ci := 2) (v := .ref (b 1)) (C := RX2) (T := TX2) (N := 11) hx hb hts hinX2 hown hK.1 hP 0 rfl rfl 0 (by decide) f_7 (fun _ h9 => h9) rfl dX2_nearest_38 ?_
          refine zr_iconst hx hb dX2_nearest_41 ?_
          refine zr_iald hx hb hK.1 hP 1 0 rfl rfl 0 (g 0 0) (by omega) (by omega) (Nat.le_of_ble_eq_true rfl) (flat_0 (by decide)) dX2_nearest_42 ?_
          refine zr_icmp_ge (tgt := 76) hx hb dX2_nearest_43 (by decide) (by omega) (by omega) (fun c_43 => absurd c_43 (by omega)) (fun c_43 => ?_)
          refine lv_iload hx hb dX2_nearest_46 (lv_at hl 0 rfl) ?_
          refine lv_iload_n hx hb dX2_nearest_48 rfl (lv_at hl 3 rfl) ?_
          refine zr_icmp_eq (tgt := 68) hx hb dX2_nearest_49 (by decide) (by omega) (by omega) (fun c_49 => ?_) (fun c_49 => ?_)
          · refine lv_iload_n hx hb dX2_nearest_68 rfl (lv_at hl 1 rfl) ?_
            refine zr_topI (sNr g A k (A : Int) (i + 1)) (if_neg (c := i ≠ A ∧ sRk g A i (gN g) = k) (by omega)).symm ?_
            refine lv_istore_n (lv' := [(3, .int (zI (sNr g A k (A : Int) (i + 1)))), (4, .int (zI (i : Int))), (0, .ref (b 0)), (1, .int (zI (A : Int))), (2, .int (zI k))]) hx hb dX2_nearest_69 rfl hl (by decide) rfl (fun ls hl => ?_)
            refine zr_iinc (b := ((i + 1 : Nat) : Int)) (lv' := [(4, .int (zI ((i + 1 : Nat) : Int))), (3, .int (zI (sNr g A k (A : Int) (i + 1)))), (0, .ref (b 0)), (1, .int (zI (A : Int))), (2, .int (zI k))]) hx hb dX2_nearest_70 hl (k := 1) rfl (by omega) (by decide) rfl (fun ls hl => ?_)
            refine lv_goto (tgt := 35) hx hb dX2_nearest_73 (by decide) ?_
            exact ih_loop (i + 1) (by omega) ls (lv_sub hl [0, 1, 2, 3, 4] rfl)
          · refine lv_aload_n hx hb dX2_nearest_52 rfl (lv_at hl 2 rfl) ?_
            refine lv_iload_n hx hb dX2_nearest_53 rfl (lv_at hl 3 rfl) ?_
            refine lv_iload hx hb dX2_nearest_54 (lv_at hl 0 rfl) ?_
            refine rd_callV (As := [.int (zI (A : Int)), .int (zI (i : Int))]) (rest := []) ⟨hx, hb, hml, hown, hts⟩ (c_X2_rankOf l dC dI cI cZ cS b g w S V o r hg A i (by omega) (by omega)  ) (cwV 2 hts gX2_nearest_X2_rankOf rfl rfl rfl (by decide +kernel) ⟨Nat.le_of_ble_eq_true rfl, Nat.le_of_ble_eq_true rfl⟩) hP hK 0 rfl rfl rfl hl.1 rfl (Nat.le_of_ble_eq_true rfl) dX2_nearest_56 ⟨Nat.zero_le _, Nat.zero_le _⟩ ?_
            refine lv_iload_n hx hb dX2_nearest_59 rfl (lv_at hl 4 rfl) ?_
            refine zr_icmp_ne (tgt := 68) hx hb dX2_nearest_60 (by decide) (by omega) (by omega) (fun c_60 => ?_) (fun c_60 => ?_)
            · refine lv_iload_n hx hb dX2_nearest_68 rfl (lv_at hl 1 rfl) ?_
              refine zr_topI (sNr g A k (A : Int) (i + 1)) (if_neg (c := i ≠ A ∧ sRk g A i (gN g) = k) (by omega)).symm ?_
              refine lv_istore_n (lv' := [(3, .int (zI (sNr g A k (A : Int) (i + 1)))), (4, .int (zI (i : Int))), (0, .ref (b 0)), (1, .int (zI (A : Int))), (2, .int (zI k))]) hx hb dX2_nearest_69 rfl hl (by decide) rfl (fun ls hl => ?_)
              refine zr_iinc (b := ((i + 1 : Nat) : Int)) (lv' := [(4, .int (zI ((i + 1 : Nat) : Int))), (3, .int (zI (sNr g A k (A : Int) (i + 1)))), (0, .ref (b 0)), (1, .int (zI (A : Int))), (2, .int (zI k))]) hx hb dX2_nearest_70 hl (k := 1) rfl (by omega) (by decide) rfl (fun ls hl => ?_)
              refine lv_goto (tgt := 35) hx hb dX2_nearest_73 (by decide) ?_
              exact ih_loop (i + 1) (by omega) ls (lv_sub hl [0, 1, 2, 3, 4] rfl)
            · refine lv_iload hx hb dX2_nearest_63 (lv_at hl 0 rfl) ?_
              refine lv_goto (tgt := 69) hx hb dX2_nearest_65 (by decide) ?_
              refine zr_topI (sNr g A k (A : Int) (i + 1)) (if_pos (c := i ≠ A ∧ sRk g A i (gN g) = k) (by omega)).symm ?_
              refine lv_istore_n (lv' := [(3, .int (zI (sNr g A k (A : Int) (i + 1)))), (4, .int (zI (i : Int))), (0, .ref (b 0)), (1, .int (zI (A : Int))), (2, .int (zI k))]) hx hb dX2_nearest_69 rfl hl (by decide) rfl (fun ls hl => ?_)
              refine zr_iinc (b := ((i + 1 : Nat) : Int)) (lv' := [(4, .int (zI ((i + 1 : Nat) : Int))), (3, .int (zI (sNr g A k (A : Int) (i + 1)))), (0, .ref (b 0)), (1, .int (zI (A : Int))), (2, .int (zI k))]) hx hb dX2_nearest_70 hl (k := 1) rfl (by omega) (by decide) rfl (fun ls hl => ?_)
              refine lv_goto (tgt := 35) hx hb dX2_nearest_73 (by decide) ?_
              exact ih_loop (i + 1) (by omega) ls (lv_sub hl [0, 1, 2, 3, 4] rfl)
      exact loop (gN g) 0 (by omega) ls (lv_sub hl [0, 1, 2, 3, 4] rfl)
    · refine zr_ldc hx hb (-1000002) hown k_35 (by decide) dX2_nearest_27 ?_
      exact rd_iret hx hb hr hlocks (by unfold aNear; rw [if_pos c_5, if_neg c_24]) dX2_nearest_29
  · refine zr_ldc hx hb (-1000001) hown k_40 (by decide) dX2_nearest_8 ?_
    exact rd_iret hx hb hr hlocks (by unfold aNear; rw [if_neg c_5]) dX2_nearest_10
set_option maxHeartbeats 4000000 in
set_option maxRecDepth 100000 in
/-- relay -/
theorem c_X2_relay (l : Launch) (dC : Nat → ClassId) (dI : Nat → Nat → Nat) (cI cZ cS : ClassId) (b : Nat → Nat) (g : Nat → Nat → Int) (w S V o : Nat → Int) (r : Int) (hg : gB g r) (u : Int) (hu : -2147483648 ≤ u ∧ u ≤ 2147483647) (v : Int) (hv : -2147483648 ≤ v ∧ v ≤ 2147483647) : Met l yX2_relay wsX2_relay ({ frames := 3, cells := 0, slots := 0, locals := 72 } : Room) (rd_Pc dC dI cI cZ cS (mdw cI cZ b g w S V o) [.ref (b 0), .int (zI u), .int (zI v)]) (rd_Qc (some (.int (zI (aRelayM g u v))))) 0 0 nf := by
  refine rd_met (cc := cX2_relay) (maxL := 8) (ret := (some .int)) (by decide) rfl (Nat.le_of_ble_eq_true rfl) ?_
  intro p e s m below meth c ls hx hb hml hr hlocks hts hown hP hK hl
  have hl : lv_has ls 8 [(0, .ref (b 0)), (1, .int (zI u)), (2, .int (zI v))] := hl
  have hinX2 : ∀ w ∈ u_ws RX2 TX2 11, w ∈ wsX2_relay := by decide +kernel
  have k_111 := hts (.constant RX2 111 (-1000005)) (by decide +kernel)
  have f_7 := hts (.fieldLink RX2 7 "NetworkCoordinatesModel" "state" "[I") (by decide +kernel)
  have b0 := hg.1
  have hN := gN_eq hg
  have s0 := sPf_rng g u v
  refine lv_aload_n hx hb dX2_relay_0 rfl (lv_at hl 0 rfl) ?_
  refine lv_iload_n hx hb dX2_relay_1 rfl (lv_at hl 1 rfl) ?_
  refine lv_iload_n hx hb dX2_relay_2 rfl (lv_at hl 2 rfl) ?_
  refine rd_callV (As := [.int (zI u), .int (zI v)]) (rest := []) ⟨hx, hb, hml, hown, hts⟩ (c_X2_wrongPair l dC dI cI cZ cS b g w S V o r hg   u (by omega) v (by omega) ) (cwV 2 hts gX2_relay_X2_wrongPair rfl rfl rfl (by decide +kernel) ⟨Nat.le_of_ble_eq_true rfl, Nat.le_of_ble_eq_true rfl⟩) hP hK 0 rfl rfl rfl hl.1 rfl (Nat.le_of_ble_eq_true rfl) dX2_relay_3 ⟨Nat.zero_le _, Nat.zero_le _⟩ ?_
  refine lv_istore_n (lv' := [(3, .int (zI (sPf g u v))), (0, .ref (b 0)), (1, .int (zI u)), (2, .int (zI v))]) hx hb dX2_relay_6 rfl hl (by decide) rfl (fun ls hl => ?_)
  refine lv_iload_n hx hb dX2_relay_7 rfl (lv_at hl 0 rfl) ?_
  refine zr_if_eq (tgt := 13) hx hb dX2_relay_8 (by decide) (by omega) (fun c_8 => ?_) (fun c_8 => ?_)
  · obtain ⟨A, B, rfl, rfl, hA2, hB2, hA, hB, hAB, eA, eB⟩ := z_nodes hg c_8
    have kAB := hg.2.2 A B hA hB
    refine zr_ldc hx hb (-1000005) hown k_111 (by decide) dX2_relay_13 ?_
    refine lv_istore (lv' := [(4, .int (zI (-1000005))), (3, .int (zI (sPf g (A : Int) (B : Int)))), (0, .ref (b 0)), (1, .int (zI (A : Int))), (2, .int (zI (B : Int)))]) hx hb dX2_relay_15 hl (by decide) rfl (fun ls hl => ?_)
    refine zr_iconst hx hb dX2_relay_17 ?_
    refine lv_istore (lv' := [(5, .int (zI 0)), (4, .int (zI (-1000005))), (3, .int (zI (sPf g (A : Int) (B : Int)))), (0, .ref (b 0)), (1, .int (zI (A : Int))), (2, .int (zI (B : Int)))]) hx hb dX2_relay_18 hl (by decide) rfl (fun ls hl => ?_)
    refine zr_iconst hx hb dX2_relay_20 ?_
    refine lv_istore (lv' := [(6, .int (zI 0)), (5, .int (zI 0)), (4, .int (zI (-1000005))), (3, .int (zI (sPf g (A : Int) (B : Int)))), (0, .ref (b 0)), (1, .int (zI (A : Int))), (2, .int (zI (B : Int)))]) hx hb dX2_relay_21 hl (by decide) rfl (fun ls hl => ?_)
    have loop : ∀ (k_loop i : Nat), i + k_loop = gN g → ∀ ls : Array Slot, lv_has ls 8 [(6, .int (zI (i : Int))), (5, .int (zI ((sRm g A B i).2))), (4, .int (zI ((sRm g A B i).1))), (0, .ref (b 0)), (1, .int (zI (A : Int))), (2, .int (zI (B : Int)))] → W p l e ({ frames := 3, cells := 0, slots := 0, locals := 72 } : Room) s m [.ref (b 0), .int (zI (A : Int)), .int (zI (B : Int))].toArray below meth c s.heap [] 0 0 (MQ below (rd_Qc (some (.int (zI (aRelayM g (A : Int) (B : Int)))))) [.ref (b 0), .int (zI (A : Int)), .int (zI (B : Int))].toArray s 0 0 nf) (F0 m 23 ls []) := by
      intro k_loop
      induction k_loop with
      | zero =>
        intro i hi ls hl
        refine lv_iload hx hb dX2_relay_23 (lv_at hl 0 rfl) ?_
        refine lv_aload_n hx hb dX2_relay_25 rfl (lv_at hl 3 rfl) ?_
        refine va_get (D := (dC, dI)) (ci := 2) (v := .ref (b 1)) (C := RX2) (T := TX2) (N := 11) hx hb hts hinX2 hown hK.1 hP 0 rfl rfl 0 (by decide) f_7 (fun _ h9 => h9) rfl dX2_relay_26 ?_
        refine zr_iconst hx hb dX2_relay_29 ?_
        refine zr_iald hx hb hK.1 hP 1 0 rfl rfl 0 (g 0 0) (by omega) (by omega) (Nat.le_of_ble_eq_true rfl) (flat_0 (by decide)) dX2_relay_30 ?_
        refine zr_icmp_ge (tgt := 89) hx hb dX2_relay_31 (by decide) (by omega) (by omega) (fun c_31 => ?_) (fun c_31 => absurd c_31 (by omega))
        refine lv_iload hx hb dX2_relay_89 (lv_at hl 2 rfl) ?_
        exact rd_iret hx hb hr hlocks (by unfold aRelayM; rw [if_pos c_8, eA, eB, show i = gN g by omega]) dX2_relay_91
      | succ k_loop ih_loop =>
        intro i hi ls hl
        have s1 := sWay_bd hg hA hB (show i < 10 by omega)
        have s2 := sRm_bd hg hA hB i (by omega)
        refine lv_iload hx hb dX2_relay_23 (lv_at hl 0 rfl) ?_
        refine lv_aload_n hx hb dX2_relay_25 rfl (lv_at hl 3 rfl) ?_
        refine va_get (D := (dC, dI)) (ci := 2) (v := .ref (b 1)) (C := RX2) (T := TX2) (N := 11) hx hb hts hinX2 hown hK.1 hP 0 rfl rfl 0 (by decide) f_7 (fun _ h9 => h9) rfl dX2_relay_26 ?_
        refine zr_iconst hx hb dX2_relay_29 ?_
        refine zr_iald hx hb hK.1 hP 1 0 rfl rfl 0 (g 0 0) (by omega) (by omega) (Nat.le_of_ble_eq_true rfl) (flat_0 (by decide)) dX2_relay_30 ?_
        refine zr_icmp_ge (tgt := 89) hx hb dX2_relay_31 (by decide) (by omega) (by omega) (fun c_31 => absurd c_31 (by omega)) (fun c_31 => ?_)
        refine lv_iload hx hb dX2_relay_34 (lv_at hl 0 rfl) ?_
        refine lv_iload_n hx hb dX2_relay_36 rfl (lv_at hl 4 rfl) ?_
        refine zr_icmp_eq (tgt := 83) hx hb dX2_relay_37 (by decide) (by omega) (by omega) (fun c_37 => ?_) (fun c_37 => ?_)
        · have e1 : sRm g A B (i + 1) = sRm g A B i := by rw [show sRm g A B (i + 1) = (if i ≠ A ∧ i ≠ B ∧ ((sRm g A B i).1 < 0 ∨ sWay g A B i < (sRm g A B i).2) then ((i : Int), sWay g A B i) else sRm g A B i) from rfl]; exact if_neg (by omega)
          have hl : lv_has ls 8 [(6, .int (zI (i : Int))), (5, .int (zI ((sRm g A B (i + 1)).2))), (4, .int (zI ((sRm g A B (i + 1)).1))), (0, .ref (b 0)), (1, .int (zI (A : Int))), (2, .int (zI (B : Int)))] := by rw [e1]; exact hl
          refine zr_iinc (b := ((i + 1 : Nat) : Int)) (lv' := [(6, .int (zI ((i + 1 : Nat) : Int))), (5, .int (zI ((sRm g A B (i + 1)).2))), (4, .int (zI ((sRm g A B (i + 1)).1))), (0, .ref (b 0)), (1, .int (zI (A : Int))), (2, .int (zI (B : Int)))]) hx hb dX2_relay_83 hl (k := 0) rfl (by omega) (by decide) rfl (fun ls hl => ?_)
          refine lv_goto (tgt := 23) hx hb dX2_relay_86 (by decide) ?_
          exact ih_loop (i + 1) (by omega) ls (lv_sub hl [0, 1, 2, 3, 4, 5] rfl)
        · refine lv_iload hx hb dX2_relay_40 (lv_at hl 0 rfl) ?_
          refine lv_iload_n hx hb dX2_relay_42 rfl (lv_at hl 5 rfl) ?_
          refine zr_icmp_eq (tgt := 83) hx hb dX2_relay_43 (by decide) (by omega) (by omega) (fun c_43 => ?_) (fun c_43 => ?_)
          · have e1 : sRm g A B (i + 1) = sRm g A B i := by rw [show sRm g A B (i + 1) = (if i ≠ A ∧ i ≠ B ∧ ((sRm g A B i).1 < 0 ∨ sWay g A B i < (sRm g A B i).2) then ((i : Int), sWay g A B i) else sRm g A B i) from rfl]; exact if_neg (by omega)
            have hl : lv_has ls 8 [(6, .int (zI (i : Int))), (5, .int (zI ((sRm g A B (i + 1)).2))), (4, .int (zI ((sRm g A B (i + 1)).1))), (0, .ref (b 0)), (1, .int (zI (A : Int))), (2, .int (zI (B : Int)))] := by rw [e1]; exact hl
            refine zr_iinc (b := ((i + 1 : Nat) : Int)) (lv' := [(6, .int (zI ((i + 1 : Nat) : Int))), (5, .int (zI ((sRm g A B (i + 1)).2))), (4, .int (zI ((sRm g A B (i + 1)).1))), (0, .ref (b 0)), (1, .int (zI (A : Int))), (2, .int (zI (B : Int)))]) hx hb dX2_relay_83 hl (k := 0) rfl (by omega) (by decide) rfl (fun ls hl => ?_)
            refine lv_goto (tgt := 23) hx hb dX2_relay_86 (by decide) ?_
            exact ih_loop (i + 1) (by omega) ls (lv_sub hl [0, 1, 2, 3, 4, 5] rfl)
          · refine lv_aload_n hx hb dX2_relay_46 rfl (lv_at hl 3 rfl) ?_
            refine lv_iload_n hx hb dX2_relay_47 rfl (lv_at hl 4 rfl) ?_
            refine lv_iload hx hb dX2_relay_48 (lv_at hl 0 rfl) ?_
            refine rd_callV (As := [.int (zI (A : Int)), .int (zI (i : Int))]) (rest := []) ⟨hx, hb, hml, hown, hts⟩ (c_X2_predicted l dC dI cI cZ cS b g w S V o r hg A i (by omega) (by omega)  ) (cwV 2 hts gX2_relay_X2_predicted rfl rfl rfl (by decide +kernel) ⟨Nat.le_of_ble_eq_true rfl, Nat.le_of_ble_eq_true rfl⟩) hP hK 0 rfl rfl rfl hl.1 rfl (Nat.le_of_ble_eq_true rfl) dX2_relay_50 ⟨Nat.zero_le _, Nat.zero_le _⟩ ?_
            refine lv_aload_n hx hb dX2_relay_53 rfl (lv_at hl 3 rfl) ?_
            refine lv_iload hx hb dX2_relay_54 (lv_at hl 0 rfl) ?_
            refine lv_iload_n hx hb dX2_relay_56 rfl (lv_at hl 5 rfl) ?_
            refine rd_callV (As := [.int (zI (i : Int)), .int (zI (B : Int))]) (rest := [.int (zI (sPrd g A i))]) ⟨hx, hb, hml, hown, hts⟩ (c_X2_predicted l dC dI cI cZ cS b g w S V o r hg i B (by omega) (by omega)  ) (cwV 2 hts gX2_relay_X2_predicted rfl rfl rfl (by decide +kernel) ⟨Nat.le_of_ble_eq_true rfl, Nat.le_of_ble_eq_true rfl⟩) hP hK 0 rfl rfl rfl hl.1 rfl (Nat.le_of_ble_eq_true rfl) dX2_relay_57 ⟨Nat.zero_le _, Nat.zero_le _⟩ ?_
            refine zr_iadd hx hb dX2_relay_60 ?_
            refine zr_topI (sWay g A B i) rfl ?_
            refine lv_istore (lv' := [(7, .int (zI (sWay g A B i))), (6, .int (zI (i : Int))), (5, .int (zI ((sRm g A B i).2))), (4, .int (zI ((sRm g A B i).1))), (0, .ref (b 0)), (1, .int (zI (A : Int))), (2, .int (zI (B : Int)))]) hx hb dX2_relay_61 hl (by decide) rfl (fun ls hl => ?_)
            refine lv_iload hx hb dX2_relay_63 (lv_at hl 3 rfl) ?_
            refine zr_if_lt (tgt := 75) hx hb dX2_relay_65 (by decide) (by omega) (fun c_65 => ?_) (fun c_65 => ?_)
            · have e1 : sRm g A B (i + 1) = ((i : Int), sWay g A B i) := by rw [show sRm g A B (i + 1) = (if i ≠ A ∧ i ≠ B ∧ ((sRm g A B i).1 < 0 ∨ sWay g A B i < (sRm g A B i).2) then ((i : Int), sWay g A B i) else sRm g A B i) from rfl]; exact if_pos (by omega)
              refine lv_iload hx hb dX2_relay_75 (lv_at hl 1 rfl) ?_
              refine zr_topI ((sRm g A B (i + 1)).1) (by rw [e1]) ?_
              refine lv_istore (lv' := [(4, .int (zI ((sRm g A B (i + 1)).1))), (7, .int (zI (sWay g A B i))), (6, .int (zI (i : Int))), (5, .int (zI ((sRm g A B i).2))), (0, .ref (b 0)), (1, .int (zI (A : Int))), (2, .int (zI (B : Int)))]) hx hb dX2_relay_77 hl (by decide) rfl (fun ls hl => ?_)
              refine lv_iload hx hb dX2_relay_79 (lv_at hl 1 rfl) ?_
              refine zr_topI ((sRm g A B (i + 1)).2) (by rw [e1]) ?_
              refine lv_istore (lv' := [(5, .int (zI ((sRm g A B (i + 1)).2))), (4, .int (zI ((sRm g A B (i + 1)).1))), (7, .int (zI (sWay g A B i))), (6, .int (zI (i : Int))), (0, .ref (b 0)), (1, .int (zI (A : Int))), (2, .int (zI (B : Int)))]) hx hb dX2_relay_81 hl (by decide) rfl (fun ls hl => ?_)
              refine zr_iinc (b := ((i + 1 : Nat) : Int)) (lv' := [(6, .int (zI ((i + 1 : Nat) : Int))), (5, .int (zI ((sRm g A B (i + 1)).2))), (4, .int (zI ((sRm g A B (i + 1)).1))), (7, .int (zI (sWay g A B i))), (0, .ref (b 0)), (1, .int (zI (A : Int))), (2, .int (zI (B : Int)))]) hx hb dX2_relay_83 hl (k := 3) rfl (by omega) (by decide) rfl (fun ls hl => ?_)
              refine lv_goto (tgt := 23) hx hb dX2_relay_86 (by decide) ?_
              exact ih_loop (i + 1) (by omega) ls (lv_sub hl [0, 1, 2, 4, 5, 6] rfl)
            · refine lv_iload hx hb dX2_relay_68 (lv_at hl 0 rfl) ?_
              refine lv_iload hx hb dX2_relay_70 (lv_at hl 2 rfl) ?_
              refine zr_icmp_ge (tgt := 83) hx hb dX2_relay_72 (by decide) (by omega) (by omega) (fun c_72 => ?_) (fun c_72 => ?_)
              · have e1 : sRm g A B (i + 1) = sRm g A B i := by rw [show sRm g A B (i + 1) = (if i ≠ A ∧ i ≠ B ∧ ((sRm g A B i).1 < 0 ∨ sWay g A B i < (sRm g A B i).2) then ((i : Int), sWay g A B i) else sRm g A B i) from rfl]; exact if_neg (by omega)
                have hl : lv_has ls 8 [(7, .int (zI (sWay g A B i))), (6, .int (zI (i : Int))), (5, .int (zI ((sRm g A B (i + 1)).2))), (4, .int (zI ((sRm g A B (i + 1)).1))), (0, .ref (b 0)), (1, .int (zI (A : Int))), (2, .int (zI (B : Int)))] := by rw [e1]; exact hl
                refine zr_iinc (b := ((i + 1 : Nat) : Int)) (lv' := [(6, .int (zI ((i + 1 : Nat) : Int))), (7, .int (zI (sWay g A B i))), (5, .int (zI ((sRm g A B (i + 1)).2))), (4, .int (zI ((sRm g A B (i + 1)).1))), (0, .ref (b 0)), (1, .int (zI (A : Int))), (2, .int (zI (B : Int)))]) hx hb dX2_relay_83 hl (k := 1) rfl (by omega) (by decide) rfl (fun ls hl => ?_)
                refine lv_goto (tgt := 23) hx hb dX2_relay_86 (by decide) ?_
                exact ih_loop (i + 1) (by omega) ls (lv_sub hl [0, 2, 3, 4, 5, 6] rfl)
              · have e1 : sRm g A B (i + 1) = ((i : Int), sWay g A B i) := by rw [show sRm g A B (i + 1) = (if i ≠ A ∧ i ≠ B ∧ ((sRm g A B i).1 < 0 ∨ sWay g A B i < (sRm g A B i).2) then ((i : Int), sWay g A B i) else sRm g A B i) from rfl]; exact if_pos (by omega)
                refine lv_iload hx hb dX2_relay_75 (lv_at hl 1 rfl) ?_
                refine zr_topI ((sRm g A B (i + 1)).1) (by rw [e1]) ?_
                refine lv_istore (lv' := [(4, .int (zI ((sRm g A B (i + 1)).1))), (7, .int (zI (sWay g A B i))), (6, .int (zI (i : Int))), (5, .int (zI ((sRm g A B i).2))), (0, .ref (b 0)), (1, .int (zI (A : Int))), (2, .int (zI (B : Int)))]) hx hb dX2_relay_77 hl (by decide) rfl (fun ls hl => ?_)
                refine lv_iload hx hb dX2_relay_79 (lv_at hl 1 rfl) ?_
                refine zr_topI ((sRm g A B (i + 1)).2) (by rw [e1]) ?_
                refine lv_istore (lv' := [(5, .int (zI ((sRm g A B (i + 1)).2))), (4, .int (zI ((sRm g A B (i + 1)).1))), (7, .int (zI (sWay g A B i))), (6, .int (zI (i : Int))), (0, .ref (b 0)), (1, .int (zI (A : Int))), (2, .int (zI (B : Int)))]) hx hb dX2_relay_81 hl (by decide) rfl (fun ls hl => ?_)
                refine zr_iinc (b := ((i + 1 : Nat) : Int)) (lv' := [(6, .int (zI ((i + 1 : Nat) : Int))), (5, .int (zI ((sRm g A B (i + 1)).2))), (4, .int (zI ((sRm g A B (i + 1)).1))), (7, .int (zI (sWay g A B i))), (0, .ref (b 0)), (1, .int (zI (A : Int))), (2, .int (zI (B : Int)))]) hx hb dX2_relay_83 hl (k := 3) rfl (by omega) (by decide) rfl (fun ls hl => ?_)
                refine lv_goto (tgt := 23) hx hb dX2_relay_86 (by decide) ?_
                exact ih_loop (i + 1) (by omega) ls (lv_sub hl [0, 1, 2, 4, 5, 6] rfl)
    exact loop (gN g) 0 (by omega) ls (lv_sub hl [0, 1, 2, 4, 5, 6] rfl)
  · refine lv_iload_n hx hb dX2_relay_11 rfl (lv_at hl 0 rfl) ?_
    exact rd_iret hx hb hr hlocks (by unfold aRelayM; rw [if_neg c_8]) dX2_relay_12
set_option maxHeartbeats 4000000 in
set_option maxRecDepth 100000 in
/-- isTriangle -/
theorem c_X2_isTriangle (l : Launch) (dC : Nat → ClassId) (dI : Nat → Nat → Nat) (cI cZ cS : ClassId) (b : Nat → Nat) (g : Nat → Nat → Int) (w S V o : Nat → Int) (r : Int) (hg : gB g r) (A B C : Nat) (hA : A < 10) (hB : B < 10) (hC : C < 10) : Met l yX2_isTriangle wsX2_isTriangle ({ frames := 1, cells := 0, slots := 0, locals := 21 } : Room) (rd_Pc dC dI cI cZ cS (mdw cI cZ b g w S V o) [.ref (b 0), .int (zI (A : Int)), .int (zI (B : Int)), .int (zI (C : Int))]) (rd_Qc (some (.int (zI (if 1 ≤ g 6 (10 * A + B) ∧ 1 ≤ g 6 (10 * B + C) ∧ 1 ≤ g 6 (10 * A + C) then 1 else 0))))) 0 0 nf := by
  refine rd_met (cc := cX2_isTriangle) (maxL := 4) (ret := (some .boolean)) (by decide) rfl (Nat.le_of_ble_eq_true rfl) ?_
  intro p e s m below meth c ls hx hb hml hr hlocks hts hown hP hK hl
  have hl : lv_has ls 4 [(0, .ref (b 0)), (1, .int (zI (A : Int))), (2, .int (zI (B : Int))), (3, .int (zI (C : Int)))] := hl
  have hinX2 : ∀ w ∈ u_ws RX2 TX2 11, w ∈ wsX2_isTriangle := by decide +kernel
  have f_7 := hts (.fieldLink RX2 7 "NetworkCoordinatesModel" "state" "[I") (by decide +kernel)
  have b0 := hg.1
  have bA := hg.2.1 A hA
  have bB := hg.2.1 B hB
  have bC := hg.2.1 C hC
  have kAB := hg.2.2 A B hA hB
  have kBC := hg.2.2 B C hB hC
  have kAC := hg.2.2 A C hA hC
  refine lv_aload_n hx hb dX2_isTriangle_0 rfl (lv_at hl 0 rfl) ?_
  refine va_get (D := (dC, dI)) (ci := 2) (v := .ref (b 1)) (C := RX2) (T := TX2) (N := 11) hx hb hts hinX2 hown hK.1 hP 0 rfl rfl 0 (by decide) f_7 (fun _ h9 => h9) rfl dX2_isTriangle_1 ?_
  refine lv_iload_n hx hb dX2_isTriangle_4 rfl (lv_at hl 1 rfl) ?_
  refine lv_iload_n hx hb dX2_isTriangle_5 rfl (lv_at hl 2 rfl) ?_
  refine rd_callS (As := [.int (zI (A : Int)), .int (zI (B : Int))]) (rest := [.ref (b 1)]) ⟨hx, hb, hml, hown, hts⟩ (c_X2_cell l dC dI cI cZ cS A B) (va_cwS 2 hts gX2_isTriangle_X2_cell rfl rfl rfl (by decide +kernel) ⟨Nat.le_of_ble_eq_true rfl, Nat.le_of_ble_eq_true rfl⟩) va_P_nil hK rfl hl.1 rfl (Nat.le_of_ble_eq_true rfl) dX2_isTriangle_6 ⟨Nat.zero_le _, Nat.zero_le _⟩ ?_
  refine zr_iald hx hb hK.1 hP 1 0 rfl rfl (55 + (10 * A + B)) (g 6 (10 * A + B)) (by omega) (by omega) (Nat.le_of_ble_eq_true rfl) flat_6 dX2_isTriangle_9 ?_
  refine zr_if_le (tgt := 43) hx hb dX2_isTriangle_10 (by decide) (by omega) (fun c_10 => ?_) (fun c_10 => ?_)
  · refine zr_iconst hx hb dX2_isTriangle_43 ?_
    exact rd_zret hx hb hr hlocks (if_neg (by omega)).symm (by omega) dX2_isTriangle_44
  · refine lv_aload_n hx hb dX2_isTriangle_13 rfl (lv_at hl 0 rfl) ?_
    refine va_get (D := (dC, dI)) (ci := 2) (v := .ref (b 1)) (C := RX2) (T := TX2) (N := 11) hx hb hts hinX2 hown hK.1 hP 0 rfl rfl 0 (by decide) f_7 (fun _ h9 => h9) rfl dX2_isTriangle_14 ?_
    refine lv_iload_n hx hb dX2_isTriangle_17 rfl (lv_at hl 1 rfl) ?_
    refine lv_iload_n hx hb dX2_isTriangle_18 rfl (lv_at hl 3 rfl) ?_
    refine rd_callS (As := [.int (zI (A : Int)), .int (zI (C : Int))]) (rest := [.ref (b 1)]) ⟨hx, hb, hml, hown, hts⟩ (c_X2_cell l dC dI cI cZ cS A C) (va_cwS 2 hts gX2_isTriangle_X2_cell rfl rfl rfl (by decide +kernel) ⟨Nat.le_of_ble_eq_true rfl, Nat.le_of_ble_eq_true rfl⟩) va_P_nil hK rfl hl.1 rfl (Nat.le_of_ble_eq_true rfl) dX2_isTriangle_19 ⟨Nat.zero_le _, Nat.zero_le _⟩ ?_
    refine zr_iald hx hb hK.1 hP 1 0 rfl rfl (55 + (10 * A + C)) (g 6 (10 * A + C)) (by omega) (by omega) (Nat.le_of_ble_eq_true rfl) flat_6 dX2_isTriangle_22 ?_
    refine zr_if_le (tgt := 43) hx hb dX2_isTriangle_23 (by decide) (by omega) (fun c_23 => ?_) (fun c_23 => ?_)
    · refine zr_iconst hx hb dX2_isTriangle_43 ?_
      exact rd_zret hx hb hr hlocks (if_neg (by omega)).symm (by omega) dX2_isTriangle_44
    · refine lv_aload_n hx hb dX2_isTriangle_26 rfl (lv_at hl 0 rfl) ?_
      refine va_get (D := (dC, dI)) (ci := 2) (v := .ref (b 1)) (C := RX2) (T := TX2) (N := 11) hx hb hts hinX2 hown hK.1 hP 0 rfl rfl 0 (by decide) f_7 (fun _ h9 => h9) rfl dX2_isTriangle_27 ?_
      refine lv_iload_n hx hb dX2_isTriangle_30 rfl (lv_at hl 2 rfl) ?_
      refine lv_iload_n hx hb dX2_isTriangle_31 rfl (lv_at hl 3 rfl) ?_
      refine rd_callS (As := [.int (zI (B : Int)), .int (zI (C : Int))]) (rest := [.ref (b 1)]) ⟨hx, hb, hml, hown, hts⟩ (c_X2_cell l dC dI cI cZ cS B C) (va_cwS 2 hts gX2_isTriangle_X2_cell rfl rfl rfl (by decide +kernel) ⟨Nat.le_of_ble_eq_true rfl, Nat.le_of_ble_eq_true rfl⟩) va_P_nil hK rfl hl.1 rfl (Nat.le_of_ble_eq_true rfl) dX2_isTriangle_32 ⟨Nat.zero_le _, Nat.zero_le _⟩ ?_
      refine zr_iald hx hb hK.1 hP 1 0 rfl rfl (55 + (10 * B + C)) (g 6 (10 * B + C)) (by omega) (by omega) (Nat.le_of_ble_eq_true rfl) flat_6 dX2_isTriangle_35 ?_
      refine zr_if_le (tgt := 43) hx hb dX2_isTriangle_36 (by decide) (by omega) (fun c_36 => ?_) (fun c_36 => ?_)
      · refine zr_iconst hx hb dX2_isTriangle_43 ?_
        exact rd_zret hx hb hr hlocks (if_neg (by omega)).symm (by omega) dX2_isTriangle_44
      · refine zr_iconst hx hb dX2_isTriangle_39 ?_
        refine lv_goto (tgt := 44) hx hb dX2_isTriangle_40 (by decide) ?_
        exact rd_zret hx hb hr hlocks (if_pos (by omega)).symm (by omega) dX2_isTriangle_44
set_option maxHeartbeats 4000000 in
set_option maxRecDepth 100000 in
/-- excess -/
theorem c_X2_excess (l : Launch) (dC : Nat → ClassId) (dI : Nat → Nat → Nat) (cI cZ cS : ClassId) (b : Nat → Nat) (g : Nat → Nat → Int) (w S V o : Nat → Int) (r : Int) (hg : gB g r) (A B C : Nat) (hA : A < 10) (hB : B < 10) (hC : C < 10) : Met l yX2_excess wsX2_excess ({ frames := 1, cells := 0, slots := 0, locals := 21 } : Room) (rd_Pc dC dI cI cZ cS (mdw cI cZ b g w S V o) [.ref (b 0), .int (zI (A : Int)), .int (zI (B : Int)), .int (zI (C : Int))]) (rd_Qc (some (.int (zI (sOv g A B C))))) 0 0 nf := by
  refine rd_met (cc := cX2_excess) (maxL := 8) (ret := (some .int)) (by decide) rfl (Nat.le_of_ble_eq_true rfl) ?_
  intro p e s m below meth c ls hx hb hml hr hlocks hts hown hP hK hl
  have hl : lv_has ls 8 [(0, .ref (b 0)), (1, .int (zI (A : Int))), (2, .int (zI (B : Int))), (3, .int (zI (C : Int)))] := hl
  have hinX2 : ∀ w ∈ u_ws RX2 TX2 11, w ∈ wsX2_excess := by decide +kernel
  have f_7 := hts (.fieldLink RX2 7 "NetworkCoordinatesModel" "state" "[I") (by decide +kernel)
  have b0 := hg.1
  have bA := hg.2.1 A hA
  have bB := hg.2.1 B hB
  have bC := hg.2.1 C hC
  have kAB := hg.2.2 A B hA hB
  have kBC := hg.2.2 B C hB hC
  have kAC := hg.2.2 A C hA hC
  refine lv_aload_n hx hb dX2_excess_0 rfl (lv_at hl 0 rfl) ?_
  refine va_get (D := (dC, dI)) (ci := 2) (v := .ref (b 1)) (C := RX2) (T := TX2) (N := 11) hx hb hts hinX2 hown hK.1 hP 0 rfl rfl 0 (by decide) f_7 (fun _ h9 => h9) rfl dX2_excess_1 ?_
  refine lv_iload_n hx hb dX2_excess_4 rfl (lv_at hl 1 rfl) ?_
  refine lv_iload_n hx hb dX2_excess_5 rfl (lv_at hl 2 rfl) ?_
  refine rd_callS (As := [.int (zI (A : Int)), .int (zI (B : Int))]) (rest := [.ref (b 1)]) ⟨hx, hb, hml, hown, hts⟩ (c_X2_cell l dC dI cI cZ cS A B) (va_cwS 2 hts gX2_excess_X2_cell rfl rfl rfl (by decide +kernel) ⟨Nat.le_of_ble_eq_true rfl, Nat.le_of_ble_eq_true rfl⟩) va_P_nil hK rfl hl.1 rfl (Nat.le_of_ble_eq_true rfl) dX2_excess_6 ⟨Nat.zero_le _, Nat.zero_le _⟩ ?_
  refine zr_iald hx hb hK.1 hP 1 0 rfl rfl (55 + (10 * A + B)) (g 6 (10 * A + B)) (by omega) (by omega) (Nat.le_of_ble_eq_true rfl) flat_6 dX2_excess_9 ?_
  refine lv_istore (lv' := [(4, .int (zI (g 6 (10 * A + B)))), (0, .ref (b 0)), (1, .int (zI (A : Int))), (2, .int (zI (B : Int))), (3, .int (zI (C : Int)))]) hx hb dX2_excess_10 hl (by decide) rfl (fun ls hl => ?_)
  refine lv_aload_n hx hb dX2_excess_12 rfl (lv_at hl 1 rfl) ?_
  refine va_get (D := (dC, dI)) (ci := 2) (v := .ref (b 1)) (C := RX2) (T := TX2) (N := 11) hx hb hts hinX2 hown hK.1 hP 0 rfl rfl 0 (by decide) f_7 (fun _ h9 => h9) rfl dX2_excess_13 ?_
  refine lv_iload_n hx hb dX2_excess_16 rfl (lv_at hl 2 rfl) ?_
  refine lv_iload_n hx hb dX2_excess_17 rfl (lv_at hl 4 rfl) ?_
  refine rd_callS (As := [.int (zI (A : Int)), .int (zI (C : Int))]) (rest := [.ref (b 1)]) ⟨hx, hb, hml, hown, hts⟩ (c_X2_cell l dC dI cI cZ cS A C) (va_cwS 2 hts gX2_excess_X2_cell rfl rfl rfl (by decide +kernel) ⟨Nat.le_of_ble_eq_true rfl, Nat.le_of_ble_eq_true rfl⟩) va_P_nil hK rfl hl.1 rfl (Nat.le_of_ble_eq_true rfl) dX2_excess_18 ⟨Nat.zero_le _, Nat.zero_le _⟩ ?_
  refine zr_iald hx hb hK.1 hP 1 0 rfl rfl (55 + (10 * A + C)) (g 6 (10 * A + C)) (by omega) (by omega) (Nat.le_of_ble_eq_true rfl) flat_6 dX2_excess_21 ?_
  refine lv_istore (lv' := [(5, .int (zI (g 6 (10 * A + C)))), (4, .int (zI (g 6 (10 * A + B)))), (0, .ref (b 0)), (1, .int (zI (A : Int))), (2, .int (zI (B : Int))), (3, .int (zI (C : Int)))]) hx hb dX2_excess_22 hl (by decide) rfl (fun ls hl => ?_)
  refine lv_aload_n hx hb dX2_excess_24 rfl (lv_at hl 2 rfl) ?_
  refine va_get (D := (dC, dI)) (ci := 2) (v := .ref (b 1)) (C := RX2) (T := TX2) (N := 11) hx hb hts hinX2 hown hK.1 hP 0 rfl rfl 0 (by decide) f_7 (fun _ h9 => h9) rfl dX2_excess_25 ?_
  refine lv_iload_n hx hb dX2_excess_28 rfl (lv_at hl 4 rfl) ?_
  refine lv_iload_n hx hb dX2_excess_29 rfl (lv_at hl 5 rfl) ?_
  refine rd_callS (As := [.int (zI (B : Int)), .int (zI (C : Int))]) (rest := [.ref (b 1)]) ⟨hx, hb, hml, hown, hts⟩ (c_X2_cell l dC dI cI cZ cS B C) (va_cwS 2 hts gX2_excess_X2_cell rfl rfl rfl (by decide +kernel) ⟨Nat.le_of_ble_eq_true rfl, Nat.le_of_ble_eq_true rfl⟩) va_P_nil hK rfl hl.1 rfl (Nat.le_of_ble_eq_true rfl) dX2_excess_30 ⟨Nat.zero_le _, Nat.zero_le _⟩ ?_
  refine zr_iald hx hb hK.1 hP 1 0 rfl rfl (55 + (10 * B + C)) (g 6 (10 * B + C)) (by omega) (by omega) (Nat.le_of_ble_eq_true rfl) flat_6 dX2_excess_33 ?_
  refine lv_istore (lv' := [(6, .int (zI (g 6 (10 * B + C)))), (5, .int (zI (g 6 (10 * A + C)))), (4, .int (zI (g 6 (10 * A + B)))), (0, .ref (b 0)), (1, .int (zI (A : Int))), (2, .int (zI (B : Int))), (3, .int (zI (C : Int)))]) hx hb dX2_excess_34 hl (by decide) rfl (fun ls hl => ?_)
  refine lv_iload hx hb dX2_excess_36 (lv_at hl 2 rfl) ?_
  refine lv_iload hx hb dX2_excess_38 (lv_at hl 1 rfl) ?_
  refine zr_icmp_le (tgt := 48) hx hb dX2_excess_40 (by decide) (by omega) (by omega) (fun c_40 => ?_) (fun c_40 => ?_)
  · refine lv_iload hx hb dX2_excess_48 (lv_at hl 1 rfl) ?_
    refine lv_istore (lv' := [(7, .int (zI (g 6 (10 * A + C)))), (6, .int (zI (g 6 (10 * B + C)))), (5, .int (zI (g 6 (10 * A + C)))), (4, .int (zI (g 6 (10 * A + B)))), (0, .ref (b 0)), (1, .int (zI (A : Int))), (2, .int (zI (B : Int))), (3, .int (zI (C : Int)))]) hx hb dX2_excess_50 hl (by decide) rfl (fun ls hl => ?_)
    refine lv_iload hx hb dX2_excess_52 (lv_at hl 1 rfl) ?_
    refine lv_iload hx hb dX2_excess_54 (lv_at hl 0 rfl) ?_
    refine zr_icmp_le (tgt := 64) hx hb dX2_excess_56 (by decide) (by omega) (by omega) (fun c_56 => ?_) (fun c_56 => ?_)
    · refine lv_iload hx hb dX2_excess_64 (lv_at hl 0 rfl) ?_
      refine lv_istore (lv' := [(7, .int (zI (g 6 (10 * A + C)))), (6, .int (zI (g 6 (10 * B + C)))), (5, .int (zI (g 6 (10 * A + C)))), (4, .int (zI (g 6 (10 * A + B)))), (0, .ref (b 0)), (1, .int (zI (A : Int))), (2, .int (zI (B : Int))), (3, .int (zI (C : Int)))]) hx hb dX2_excess_66 hl (by decide) rfl (fun ls hl => ?_)
      refine zr_iconst hx hb dX2_excess_68 ?_
      refine lv_iload hx hb dX2_excess_69 (lv_at hl 0 rfl) ?_
      refine zr_imul hx hb dX2_excess_71 ?_
      refine lv_iload hx hb dX2_excess_72 (lv_at hl 3 rfl) ?_
      refine zr_isub hx hb dX2_excess_74 ?_
      refine lv_iload hx hb dX2_excess_75 (lv_at hl 2 rfl) ?_
      refine zr_isub hx hb dX2_excess_77 ?_
      refine lv_iload hx hb dX2_excess_78 (lv_at hl 1 rfl) ?_
      refine zr_isub hx hb dX2_excess_80 ?_
      exact rd_iret hx hb hr hlocks (by unfold sOv sG3 sMx; split <;> (try split) <;> omega) dX2_excess_81
    · refine lv_iload hx hb dX2_excess_59 (lv_at hl 1 rfl) ?_
      refine lv_goto (tgt := 66) hx hb dX2_excess_61 (by decide) ?_
      refine lv_istore (lv' := [(7, .int (zI (g 6 (10 * B + C)))), (6, .int (zI (g 6 (10 * B + C)))), (5, .int (zI (g 6 (10 * A + C)))), (4, .int (zI (g 6 (10 * A + B)))), (0, .ref (b 0)), (1, .int (zI (A : Int))), (2, .int (zI (B : Int))), (3, .int (zI (C : Int)))]) hx hb dX2_excess_66 hl (by decide) rfl (fun ls hl => ?_)
      refine zr_iconst hx hb dX2_excess_68 ?_
      refine lv_iload hx hb dX2_excess_69 (lv_at hl 0 rfl) ?_
      refine zr_imul hx hb dX2_excess_71 ?_
      refine lv_iload hx hb dX2_excess_72 (lv_at hl 3 rfl) ?_
      refine zr_isub hx hb dX2_excess_74 ?_
      refine lv_iload hx hb dX2_excess_75 (lv_at hl 2 rfl) ?_
      refine zr_isub hx hb dX2_excess_77 ?_
      refine lv_iload hx hb dX2_excess_78 (lv_at hl 1 rfl) ?_
      refine zr_isub hx hb dX2_excess_80 ?_
      exact rd_iret hx hb hr hlocks (by unfold sOv sG3 sMx; split <;> (try split) <;> omega) dX2_excess_81
  · refine lv_iload hx hb dX2_excess_43 (lv_at hl 2 rfl) ?_
    refine lv_goto (tgt := 50) hx hb dX2_excess_45 (by decide) ?_
    refine lv_istore (lv' := [(7, .int (zI (g 6 (10 * A + B)))), (6, .int (zI (g 6 (10 * B + C)))), (5, .int (zI (g 6 (10 * A + C)))), (4, .int (zI (g 6 (10 * A + B)))), (0, .ref (b 0)), (1, .int (zI (A : Int))), (2, .int (zI (B : Int))), (3, .int (zI (C : Int)))]) hx hb dX2_excess_50 hl (by decide) rfl (fun ls hl => ?_)
    refine lv_iload hx hb dX2_excess_52 (lv_at hl 1 rfl) ?_
    refine lv_iload hx hb dX2_excess_54 (lv_at hl 0 rfl) ?_
    refine zr_icmp_le (tgt := 64) hx hb dX2_excess_56 (by decide) (by omega) (by omega) (fun c_56 => ?_) (fun c_56 => ?_)
    · refine lv_iload hx hb dX2_excess_64 (lv_at hl 0 rfl) ?_
      refine lv_istore (lv' := [(7, .int (zI (g 6 (10 * A + B)))), (6, .int (zI (g 6 (10 * B + C)))), (5, .int (zI (g 6 (10 * A + C)))), (4, .int (zI (g 6 (10 * A + B)))), (0, .ref (b 0)), (1, .int (zI (A : Int))), (2, .int (zI (B : Int))), (3, .int (zI (C : Int)))]) hx hb dX2_excess_66 hl (by decide) rfl (fun ls hl => ?_)
      refine zr_iconst hx hb dX2_excess_68 ?_
      refine lv_iload hx hb dX2_excess_69 (lv_at hl 0 rfl) ?_
      refine zr_imul hx hb dX2_excess_71 ?_
      refine lv_iload hx hb dX2_excess_72 (lv_at hl 3 rfl) ?_
      refine zr_isub hx hb dX2_excess_74 ?_
      refine lv_iload hx hb dX2_excess_75 (lv_at hl 2 rfl) ?_
      refine zr_isub hx hb dX2_excess_77 ?_
      refine lv_iload hx hb dX2_excess_78 (lv_at hl 1 rfl) ?_
      refine zr_isub hx hb dX2_excess_80 ?_
      exact rd_iret hx hb hr hlocks (by unfold sOv sG3 sMx; split <;> (try split) <;> omega) dX2_excess_81
    · refine lv_iload hx hb dX2_excess_59 (lv_at hl 1 rfl) ?_
      refine lv_goto (tgt := 66) hx hb dX2_excess_61 (by decide) ?_
      refine lv_istore (lv' := [(7, .int (zI (g 6 (10 * B + C)))), (6, .int (zI (g 6 (10 * B + C)))), (5, .int (zI (g 6 (10 * A + C)))), (4, .int (zI (g 6 (10 * A + B)))), (0, .ref (b 0)), (1, .int (zI (A : Int))), (2, .int (zI (B : Int))), (3, .int (zI (C : Int)))]) hx hb dX2_excess_66 hl (by decide) rfl (fun ls hl => ?_)
      refine zr_iconst hx hb dX2_excess_68 ?_
      refine lv_iload hx hb dX2_excess_69 (lv_at hl 0 rfl) ?_
      refine zr_imul hx hb dX2_excess_71 ?_
      refine lv_iload hx hb dX2_excess_72 (lv_at hl 3 rfl) ?_
      refine zr_isub hx hb dX2_excess_74 ?_
      refine lv_iload hx hb dX2_excess_75 (lv_at hl 2 rfl) ?_
      refine zr_isub hx hb dX2_excess_77 ?_
      refine lv_iload hx hb dX2_excess_78 (lv_at hl 1 rfl) ?_
      refine zr_isub hx hb dX2_excess_80 ?_
      exact rd_iret hx hb hr hlocks (by unfold sOv sG3 sMx; split <;> (try split) <;> omega) dX2_excess_81
