/-! OWN ROWS: the readers of the class's state -/
def sMov (g : Nat → Nat → Int) (a b : Nat) : Int := sqr ((sX g a b (sStp g a b (sPrd g a b)) (sPrd g a b) - g 1 a) * (sX g a b (sStp g a b (sPrd g a b)) (sPrd g a b) - g 1 a) + (sY g a b (sStp g a b (sPrd g a b)) (sPrd g a b) - g 2 a) * (sY g a b (sStp g a b (sPrd g a b)) (sPrd g a b) - g 2 a))
set_option maxHeartbeats 4000000 in
set_option maxRecDepth 100000 in
/-- rttOf -/
theorem c_X0_rttOf (l : Launch) (dC : Nat → ClassId) (dI : Nat → Nat → Nat) (cI cZ cS : ClassId) (a : Nat → Nat) (g : Nat → Nat → Int) (r : Int) (hg : gB g r) (A B : Nat) (hA : A < 10) (hB : B < 10) : Met l yX0_rttOf wsX0_rttOf ({ frames := 0, cells := 0, slots := 0, locals := 0 } : Room) (rd_Pc dC dI cI cZ cS (stw cI a g) [.ref (a 0), .int (zI (A : Int)), .int (zI (B : Int))]) (rd_Qc (some (.int (zI (g 6 (10 * A + B)))))) 0 0 nf := by
  refine rd_met (cc := cX0_rttOf) (maxL := 3) (ret := (some .int)) (by decide) rfl (Nat.le_of_ble_eq_true rfl) ?_
  intro p e s m below meth c ls hx hb hml hr hlocks hts hown hP hK hl
  have hl : lv_has ls 3 [(0, .ref (a 0)), (1, .int (zI (A : Int))), (2, .int (zI (B : Int)))] := hl
  have hinX0 : ∀ w ∈ u_ws RX0 TX0 11, w ∈ wsX0_rttOf := by decide +kernel
  have f_37 := hts (.fieldLink RX0 37 "NetworkCoordinates$State" "rtts" "[I") (by decide +kernel)
  have b0 := hg.1
  have bA := hg.2.1 A hA
  have bB := hg.2.1 B hB
  refine lv_aload_n hx hb dX0_rttOf_0 rfl (lv_at hl 0 rfl) ?_
  refine va_get (D := (dC, dI)) (ci := 0) (v := .ref (a 6)) (C := RX0) (T := TX0) (N := 11) hx hb hts hinX0 hown hK.1 hP 0 rfl rfl 10 (by decide) f_37 (fun _ h9 => h9) rfl dX0_rttOf_1 ?_
  refine zr_bipush hx hb dX0_rttOf_4 (by decide) ?_
  refine lv_iload_n hx hb dX0_rttOf_6 rfl (lv_at hl 1 rfl) ?_
  refine zr_imul hx hb dX0_rttOf_7 ?_
  refine lv_iload_n hx hb dX0_rttOf_8 rfl (lv_at hl 2 rfl) ?_
  refine zr_iadd hx hb dX0_rttOf_9 ?_
  refine zr_iald hx hb hK.1 hP 6 0 rfl rfl ((10 * A) + B) (g 6 ((10 * A) + B)) (by omega) (by omega) (Nat.le_of_ble_eq_true rfl) rfl dX0_rttOf_10 ?_
  exact rd_iret hx hb hr hlocks rfl dX0_rttOf_11
set_option maxHeartbeats 4000000 in
set_option maxRecDepth 100000 in
/-- isKnown -/
theorem c_X0_isKnown (l : Launch) (dC : Nat → ClassId) (dI : Nat → Nat → Nat) (cI cZ cS : ClassId) (a : Nat → Nat) (g : Nat → Nat → Int) (r : Int) (hg : gB g r) (A B : Nat) (hA : A < 10) (hB : B < 10) : Met l yX0_isKnown wsX0_isKnown ({ frames := 1, cells := 0, slots := 0, locals := 22 } : Room) (rd_Pc dC dI cI cZ cS (stw cI a g) [.ref (a 0), .int (zI (A : Int)), .int (zI (B : Int))]) (rd_Qc (some (.int (zI (if 1 ≤ g 6 (10 * A + B) then 1 else 0))))) 0 0 nf := by
  refine rd_met (cc := cX0_isKnown) (maxL := 3) (ret := (some .boolean)) (by decide) rfl (Nat.le_of_ble_eq_true rfl) ?_
  intro p e s m below meth c ls hx hb hml hr hlocks hts hown hP hK hl
  have hl : lv_has ls 3 [(0, .ref (a 0)), (1, .int (zI (A : Int))), (2, .int (zI (B : Int)))] := hl
  have b0 := hg.1
  have bA := hg.2.1 A hA
  have bB := hg.2.1 B hB
  have kAB := hg.2.2 A B hA hB
  refine lv_aload_n hx hb dX0_isKnown_0 rfl (lv_at hl 0 rfl) ?_
  refine lv_iload_n hx hb dX0_isKnown_1 rfl (lv_at hl 1 rfl) ?_
  refine lv_iload_n hx hb dX0_isKnown_2 rfl (lv_at hl 2 rfl) ?_
  refine rd_callV (As := [.int (zI (A : Int)), .int (zI (B : Int))]) (rest := []) ⟨hx, hb, hml, hown, hts⟩ (c_X0_rttOf l dC dI cI cZ cS a g r hg A B (by omega) (by omega)) (cwV 2 hts gX0_isKnown_X0_rttOf rfl rfl rfl (by decide +kernel) ⟨Nat.le_of_ble_eq_true rfl, Nat.le_of_ble_eq_true rfl⟩) hP hK 0 rfl rfl rfl hl.1 rfl (Nat.le_of_ble_eq_true rfl) dX0_isKnown_3 ⟨Nat.zero_le _, Nat.zero_le _⟩ ?_
  refine zr_if_eq (tgt := 13) hx hb dX0_isKnown_6 (by decide) (by omega) (fun c_6 => ?_) (fun c_6 => ?_)
  · refine zr_iconst hx hb dX0_isKnown_13 ?_
    exact rd_zret hx hb hr hlocks (if_neg (by omega)).symm (by omega) dX0_isKnown_14
  · refine zr_iconst hx hb dX0_isKnown_9 ?_
    refine lv_goto (tgt := 14) hx hb dX0_isKnown_10 (by decide) ?_
    exact rd_zret hx hb hr hlocks (if_pos (by omega)).symm (by omega) dX0_isKnown_14
set_option maxHeartbeats 4000000 in
set_option maxRecDepth 100000 in
/-- sample -/
theorem c_X0_sample (l : Launch) (dC : Nat → ClassId) (dI : Nat → Nat → Nat) (cI cZ cS : ClassId) (a : Nat → Nat) (g : Nat → Nat → Int) (r : Int) (hg : gB g r) (A B : Nat) (hA : A < 10) (hB : B < 10) : Met l yX0_sample wsX0_sample ({ frames := 1, cells := 0, slots := 0, locals := 22 } : Room) (rd_Pc dC dI cI cZ cS (stw cI a g) [.ref (a 0), .int (zI (A : Int)), .int (zI (B : Int))]) (rd_Qc (some (.int (zI (sSmp g A B))))) 0 0 nf := by
  refine rd_met (cc := cX0_sample) (maxL := 3) (ret := (some .int)) (by decide) rfl (Nat.le_of_ble_eq_true rfl) ?_
  intro p e s m below meth c ls hx hb hml hr hlocks hts hown hP hK hl
  have hl : lv_has ls 3 [(0, .ref (a 0)), (1, .int (zI (A : Int))), (2, .int (zI (B : Int)))] := hl
  have hinX0 : ∀ w ∈ u_ws RX0 TX0 11, w ∈ wsX0_sample := by decide +kernel
  have f_34 := hts (.fieldLink RX0 34 "NetworkCoordinates$State" "lies" "[I") (by decide +kernel)
  have b0 := hg.1
  have bA := hg.2.1 A hA
  have bB := hg.2.1 B hB
  refine lv_aload_n hx hb dX0_sample_0 rfl (lv_at hl 0 rfl) ?_
  refine lv_iload_n hx hb dX0_sample_1 rfl (lv_at hl 1 rfl) ?_
  refine lv_iload_n hx hb dX0_sample_2 rfl (lv_at hl 2 rfl) ?_
  refine rd_callV (As := [.int (zI (A : Int)), .int (zI (B : Int))]) (rest := []) ⟨hx, hb, hml, hown, hts⟩ (c_X0_rttOf l dC dI cI cZ cS a g r hg A B (by omega) (by omega)) (cwV 2 hts gX0_sample_X0_rttOf rfl rfl rfl (by decide +kernel) ⟨Nat.le_of_ble_eq_true rfl, Nat.le_of_ble_eq_true rfl⟩) hP hK 0 rfl rfl rfl hl.1 rfl (Nat.le_of_ble_eq_true rfl) dX0_sample_3 ⟨Nat.zero_le _, Nat.zero_le _⟩ ?_
  refine lv_aload_n hx hb dX0_sample_6 rfl (lv_at hl 0 rfl) ?_
  refine va_get (D := (dC, dI)) (ci := 0) (v := .ref (a 5)) (C := RX0) (T := TX0) (N := 11) hx hb hts hinX0 hown hK.1 hP 0 rfl rfl 9 (by decide) f_34 (fun _ h9 => h9) rfl dX0_sample_7 ?_
  refine lv_iload_n hx hb dX0_sample_10 rfl (lv_at hl 2 rfl) ?_
  refine zr_iald hx hb hK.1 hP 5 0 rfl rfl B (g 5 B) (by omega) (by omega) (Nat.le_of_ble_eq_true rfl) rfl dX0_sample_11 ?_
  refine zr_iadd hx hb dX0_sample_12 ?_
  exact rd_iret hx hb hr hlocks rfl dX0_sample_13
set_option maxHeartbeats 4000000 in
set_option maxRecDepth 100000 in
/-- predicted -/
theorem c_X0_predicted (l : Launch) (dC : Nat → ClassId) (dI : Nat → Nat → Nat) (cI cZ cS : ClassId) (a : Nat → Nat) (g : Nat → Nat → Int) (r : Int) (hg : gB g r) (A B : Nat) (hA : A < 10) (hB : B < 10) : Met l yX0_predicted wsX0_predicted ({ frames := 2, cells := 0, slots := 0, locals := 49 } : Room) (rd_Pc dC dI cI cZ cS (stw cI a g) [.ref (a 0), .int (zI (A : Int)), .int (zI (B : Int))]) (rd_Qc (some (.int (zI (sPrd g A B))))) 0 0 nf := by
  refine rd_met (cc := cX0_predicted) (maxL := 3) (ret := (some .int)) (by decide) rfl (Nat.le_of_ble_eq_true rfl) ?_
  intro p e s m below meth c ls hx hb hml hr hlocks hts hown hP hK hl
  have hl : lv_has ls 3 [(0, .ref (a 0)), (1, .int (zI (A : Int))), (2, .int (zI (B : Int)))] := hl
  have hinX0 : ∀ w ∈ u_ws RX0 TX0 11, w ∈ wsX0_predicted := by decide +kernel
  have f_21 := hts (.fieldLink RX0 21 "NetworkCoordinates$State" "xs" "[I") (by decide +kernel)
  have f_25 := hts (.fieldLink RX0 25 "NetworkCoordinates$State" "ys" "[I") (by decide +kernel)
  have f_28 := hts (.fieldLink RX0 28 "NetworkCoordinates$State" "heights" "[I") (by decide +kernel)
  have b0 := hg.1
  have bA := hg.2.1 A hA
  have bB := hg.2.1 B hB
  refine lv_aload_n hx hb dX0_predicted_0 rfl (lv_at hl 0 rfl) ?_
  refine va_get (D := (dC, dI)) (ci := 0) (v := .ref (a 1)) (C := RX0) (T := TX0) (N := 11) hx hb hts hinX0 hown hK.1 hP 0 rfl rfl 5 (by decide) f_21 (fun _ h9 => h9) rfl dX0_predicted_1 ?_
  refine lv_iload_n hx hb dX0_predicted_4 rfl (lv_at hl 1 rfl) ?_
  refine zr_iald hx hb hK.1 hP 1 0 rfl rfl A (g 1 A) (by omega) (by omega) (Nat.le_of_ble_eq_true rfl) rfl dX0_predicted_5 ?_
  refine lv_aload_n hx hb dX0_predicted_6 rfl (lv_at hl 0 rfl) ?_
  refine va_get (D := (dC, dI)) (ci := 0) (v := .ref (a 1)) (C := RX0) (T := TX0) (N := 11) hx hb hts hinX0 hown hK.1 hP 0 rfl rfl 5 (by decide) f_21 (fun _ h9 => h9) rfl dX0_predicted_7 ?_
  refine lv_iload_n hx hb dX0_predicted_10 rfl (lv_at hl 2 rfl) ?_
  refine zr_iald hx hb hK.1 hP 1 0 rfl rfl B (g 1 B) (by omega) (by omega) (Nat.le_of_ble_eq_true rfl) rfl dX0_predicted_11 ?_
  refine zr_isub hx hb dX0_predicted_12 ?_
  refine zr_i2l hx hb (by omega) dX0_predicted_13 ?_
  refine lv_aload_n hx hb dX0_predicted_14 rfl (lv_at hl 0 rfl) ?_
  refine va_get (D := (dC, dI)) (ci := 0) (v := .ref (a 2)) (C := RX0) (T := TX0) (N := 11) hx hb hts hinX0 hown hK.1 hP 0 rfl rfl 6 (by decide) f_25 (fun _ h9 => h9) rfl dX0_predicted_15 ?_
  refine lv_iload_n hx hb dX0_predicted_18 rfl (lv_at hl 1 rfl) ?_
  refine zr_iald hx hb hK.1 hP 2 0 rfl rfl A (g 2 A) (by omega) (by omega) (Nat.le_of_ble_eq_true rfl) rfl dX0_predicted_19 ?_
  refine lv_aload_n hx hb dX0_predicted_20 rfl (lv_at hl 0 rfl) ?_
  refine va_get (D := (dC, dI)) (ci := 0) (v := .ref (a 2)) (C := RX0) (T := TX0) (N := 11) hx hb hts hinX0 hown hK.1 hP 0 rfl rfl 6 (by decide) f_25 (fun _ h9 => h9) rfl dX0_predicted_21 ?_
  refine lv_iload_n hx hb dX0_predicted_24 rfl (lv_at hl 2 rfl) ?_
  refine zr_iald hx hb hK.1 hP 2 0 rfl rfl B (g 2 B) (by omega) (by omega) (Nat.le_of_ble_eq_true rfl) rfl dX0_predicted_25 ?_
  refine zr_isub hx hb dX0_predicted_26 ?_
  refine zr_i2l hx hb (by omega) dX0_predicted_27 ?_
  refine rd_callN (host := RX1) (As := [.long (zL (g 1 A - g 1 B)), .long (zL (g 2 A - g 2 B))]) (rest := []) ⟨hx, hb, hml, hown, hts⟩ (c_X1_planarDistance l dC dI cI cZ cS (g 1 A - g 1 B) (g 2 A - g 2 B) (by omega) (by omega)) ⟨va_cnB 2 hts gX0_predicted_X1_planarDistance_n64 rfl rfl rfl (hK.2.1 _ (nw_at 10 rfl)) (hts (.initialized RX1) (by decide +kernel)) (by decide +kernel) ⟨Nat.le_of_ble_eq_true rfl, Nat.le_of_ble_eq_true rfl⟩, hts (.static yX1_planarDistance) (by decide +kernel), trivial⟩ va_P_nil hK rfl hl.1 rfl (Nat.le_of_ble_eq_true rfl) dX0_predicted_28 ⟨Nat.zero_le _, Nat.zero_le _⟩ ?_
  refine lv_aload_n hx hb dX0_predicted_31 rfl (lv_at hl 0 rfl) ?_
  refine va_get (D := (dC, dI)) (ci := 0) (v := .ref (a 3)) (C := RX0) (T := TX0) (N := 11) hx hb hts hinX0 hown hK.1 hP 0 rfl rfl 7 (by decide) f_28 (fun _ h9 => h9) rfl dX0_predicted_32 ?_
  refine lv_iload_n hx hb dX0_predicted_35 rfl (lv_at hl 1 rfl) ?_
  refine zr_iald hx hb hK.1 hP 3 0 rfl rfl A (g 3 A) (by omega) (by omega) (Nat.le_of_ble_eq_true rfl) rfl dX0_predicted_36 ?_
  refine zr_iadd hx hb dX0_predicted_37 ?_
  refine lv_aload_n hx hb dX0_predicted_38 rfl (lv_at hl 0 rfl) ?_
  refine va_get (D := (dC, dI)) (ci := 0) (v := .ref (a 3)) (C := RX0) (T := TX0) (N := 11) hx hb hts hinX0 hown hK.1 hP 0 rfl rfl 7 (by decide) f_28 (fun _ h9 => h9) rfl dX0_predicted_39 ?_
  refine lv_iload_n hx hb dX0_predicted_42 rfl (lv_at hl 2 rfl) ?_
  refine zr_iald hx hb hK.1 hP 3 0 rfl rfl B (g 3 B) (by omega) (by omega) (Nat.le_of_ble_eq_true rfl) rfl dX0_predicted_43 ?_
  refine zr_iadd hx hb dX0_predicted_44 ?_
  exact rd_iret hx hb hr hlocks rfl dX0_predicted_45
set_option maxHeartbeats 4000000 in
set_option maxRecDepth 100000 in
/-- weight -/
theorem c_X0_weight (l : Launch) (dC : Nat → ClassId) (dI : Nat → Nat → Nat) (cI cZ cS : ClassId) (a : Nat → Nat) (g : Nat → Nat → Int) (r : Int) (hg : gB g r) (A B : Nat) (hA : A < 10) (hB : B < 10) : Met l yX0_weight wsX0_weight ({ frames := 1, cells := 0, slots := 0, locals := 23 } : Room) (rd_Pc dC dI cI cZ cS (stw cI a g) [.ref (a 0), .int (zI (A : Int)), .int (zI (B : Int))]) (rd_Qc (some (.long (zL (sWgt g A B))))) 0 0 nf := by
  refine rd_met (cc := cX0_weight) (maxL := 3) (ret := (some .long)) (by decide) rfl (Nat.le_of_ble_eq_true rfl) ?_
  intro p e s m below meth c ls hx hb hml hr hlocks hts hown hP hK hl
  have hl : lv_has ls 3 [(0, .ref (a 0)), (1, .int (zI (A : Int))), (2, .int (zI (B : Int)))] := hl
  have hinX0 : ∀ w ∈ u_ws RX0 TX0 11, w ∈ wsX0_weight := by decide +kernel
  have k_101 := hts (.constantLong RX0 101 (1000)) (by decide +kernel)
  have f_31 := hts (.fieldLink RX0 31 "NetworkCoordinates$State" "errors" "[I") (by decide +kernel)
  have b0 := hg.1
  have bA := hg.2.1 A hA
  have bB := hg.2.1 B hB
  refine zr_ldc2 hx hb (1000) hown k_101 (by decide) dX0_weight_0 ?_
  refine lv_aload_n hx hb dX0_weight_3 rfl (lv_at hl 0 rfl) ?_
  refine va_get (D := (dC, dI)) (ci := 0) (v := .ref (a 4)) (C := RX0) (T := TX0) (N := 11) hx hb hts hinX0 hown hK.1 hP 0 rfl rfl 8 (by decide) f_31 (fun _ h9 => h9) rfl dX0_weight_4 ?_
  refine lv_iload_n hx hb dX0_weight_7 rfl (lv_at hl 1 rfl) ?_
  refine zr_iald hx hb hK.1 hP 4 0 rfl rfl A (g 4 A) (by omega) (by omega) (Nat.le_of_ble_eq_true rfl) rfl dX0_weight_8 ?_
  refine zr_i2l hx hb (by omega) dX0_weight_9 ?_
  refine zr_lmul hx hb dX0_weight_10 ?_
  refine lv_aload_n hx hb dX0_weight_11 rfl (lv_at hl 0 rfl) ?_
  refine va_get (D := (dC, dI)) (ci := 0) (v := .ref (a 4)) (C := RX0) (T := TX0) (N := 11) hx hb hts hinX0 hown hK.1 hP 0 rfl rfl 8 (by decide) f_31 (fun _ h9 => h9) rfl dX0_weight_12 ?_
  refine lv_iload_n hx hb dX0_weight_15 rfl (lv_at hl 1 rfl) ?_
  refine zr_iald hx hb hK.1 hP 4 0 rfl rfl A (g 4 A) (by omega) (by omega) (Nat.le_of_ble_eq_true rfl) rfl dX0_weight_16 ?_
  refine lv_aload_n hx hb dX0_weight_17 rfl (lv_at hl 0 rfl) ?_
  refine va_get (D := (dC, dI)) (ci := 0) (v := .ref (a 4)) (C := RX0) (T := TX0) (N := 11) hx hb hts hinX0 hown hK.1 hP 0 rfl rfl 8 (by decide) f_31 (fun _ h9 => h9) rfl dX0_weight_18 ?_
  refine lv_iload_n hx hb dX0_weight_21 rfl (lv_at hl 2 rfl) ?_
  refine zr_iald hx hb hK.1 hP 4 0 rfl rfl B (g 4 B) (by omega) (by omega) (Nat.le_of_ble_eq_true rfl) rfl dX0_weight_22 ?_
  refine zr_iadd hx hb dX0_weight_23 ?_
  refine zr_i2l hx hb (by omega) dX0_weight_24 ?_
  refine rd_callN (host := RX1) (As := [.long (zL (1000 * g 4 A)), .long (zL (g 4 A + g 4 B))]) (rest := []) ⟨hx, hb, hml, hown, hts⟩ (c_X1_quotient l dC dI cI cZ cS (1000 * g 4 A) (g 4 A + g 4 B) (by omega) (by omega)) ⟨va_cnB 2 hts gX0_weight_X1_quotient_n103 rfl rfl rfl (hK.2.1 _ (nw_at 11 rfl)) (hts (.initialized RX1) (by decide +kernel)) (by decide +kernel) ⟨Nat.le_of_ble_eq_true rfl, Nat.le_of_ble_eq_true rfl⟩, hts (.static yX1_quotient) (by decide +kernel), trivial⟩ va_P_nil hK rfl hl.1 rfl (Nat.le_of_ble_eq_true rfl) dX0_weight_25 ⟨Nat.zero_le _, Nat.zero_le _⟩ ?_
  exact rd_lret hx hb hr hlocks rfl dX0_weight_28
set_option maxHeartbeats 4000000 in
set_option maxRecDepth 100000 in
/-- errorAfter -/
theorem c_X0_errorAfter (l : Launch) (dC : Nat → ClassId) (dI : Nat → Nat → Nat) (cI cZ cS : ClassId) (a : Nat → Nat) (g : Nat → Nat → Int) (r : Int) (hg : gB g r) (A B : Nat) (hA : A < 10) (hB : B < 10) (d : Int) (hd : 0 ≤ d ∧ d ≤ 482842) (hk : 1 ≤ g 6 (10 * A + B)) : Met l yX0_errorAfter wsX0_errorAfter ({ frames := 2, cells := 0, slots := 0, locals := 45 } : Room) (rd_Pc dC dI cI cZ cS (stw cI a g) [.ref (a 0), .int (zI (A : Int)), .int (zI (B : Int)), .int (zI d)]) (rd_Qc (some (.int (zI (sErr g A B d))))) 0 0 nf := by
  refine rd_met (cc := cX0_errorAfter) (maxL := 11) (ret := (some .int)) (by decide) rfl (Nat.le_of_ble_eq_true rfl) ?_
  intro p e s m below meth c ls hx hb hml hr hlocks hts hown hP hK hl
  have hl : lv_has ls 11 [(0, .ref (a 0)), (1, .int (zI (A : Int))), (2, .int (zI (B : Int))), (3, .int (zI d))] := hl
  have hinX0 : ∀ w ∈ u_ws RX0 TX0 11, w ∈ wsX0_errorAfter := by decide +kernel
  have k_101 := hts (.constantLong RX0 101 (1000)) (by decide +kernel)
  have f_9 := hts (.fieldLink RX0 9 "NetworkCoordinates$State" "errorGain" "I") (by decide +kernel)
  have f_31 := hts (.fieldLink RX0 31 "NetworkCoordinates$State" "errors" "[I") (by decide +kernel)
  have b0 := hg.1
  have bA := hg.2.1 A hA
  have bB := hg.2.1 B hB
  have kAB := hg.2.2 A B hA hB
  have s1 := sSmp_bd hg hA hB
  have s2 := sAbs_bd (z := d - sSmp g A B) (A := 482842) (by omega)
  have s3 := sEs_bd hg hA hB hk hd
  have s4 := sErr_bd hg hA hB hk hd
  have s5 := sVe_bd hg hA hB
  have s6 := sWgt_bd hg hA hB
  have s7 := z_mul0 (a := g 0 2) (b := sWgt g A B) (A := 1000) (B := 1000) (by omega) s6
  refine lv_aload_n hx hb dX0_errorAfter_0 rfl (lv_at hl 0 rfl) ?_
  refine lv_iload_n hx hb dX0_errorAfter_1 rfl (lv_at hl 1 rfl) ?_
  refine lv_iload_n hx hb dX0_errorAfter_2 rfl (lv_at hl 2 rfl) ?_
  refine rd_callV (As := [.int (zI (A : Int)), .int (zI (B : Int))]) (rest := []) ⟨hx, hb, hml, hown, hts⟩ (c_X0_sample l dC dI cI cZ cS a g r hg A B (by omega) (by omega)) (cwV 2 hts gX0_errorAfter_X0_sample rfl rfl rfl (by decide +kernel) ⟨Nat.le_of_ble_eq_true rfl, Nat.le_of_ble_eq_true rfl⟩) hP hK 0 rfl rfl rfl hl.1 rfl (Nat.le_of_ble_eq_true rfl) dX0_errorAfter_3 ⟨Nat.zero_le _, Nat.zero_le _⟩ ?_
  refine lv_istore (lv' := [(4, .int (zI (sSmp g A B))), (0, .ref (a 0)), (1, .int (zI (A : Int))), (2, .int (zI (B : Int))), (3, .int (zI d))]) hx hb dX0_errorAfter_6 hl (by decide) rfl (fun ls hl => ?_)
  refine zr_ldc2 hx hb (1000) hown k_101 (by decide) dX0_errorAfter_8 ?_
  refine zr_ldc2 hx hb (1000) hown k_101 (by decide) dX0_errorAfter_11 ?_
  refine lv_iload_n hx hb dX0_errorAfter_14 rfl (lv_at hl 4 rfl) ?_
  refine lv_iload hx hb dX0_errorAfter_15 (lv_at hl 0 rfl) ?_
  refine zr_isub hx hb dX0_errorAfter_17 ?_
  refine va_mabs hx hb (hml.trans hl.1.symm) hown (hts (.methodLink RX0 110 Lib.Math.abs.name) (by decide +kernel)) (hts (.static Lib.Math.abs.name) (by decide +kernel)) (hts (.initialized "java/lang/Math") (by decide +kernel)) (hts (.code Lib.Math.abs.name Lib.Math.abs.code 1 (some .int)) (by decide +kernel)) (Nat.le_of_ble_eq_true rfl) (Nat.le_of_ble_eq_true rfl) (Nat.zero_le _) (Nat.zero_le _) dX0_errorAfter_18 ?_
  rw [zm_abs (by omega)]
  refine zr_i2l hx hb (by omega) dX0_errorAfter_21 ?_
  refine zr_lmul hx hb dX0_errorAfter_22 ?_
  refine lv_iload hx hb dX0_errorAfter_23 (lv_at hl 0 rfl) ?_
  refine zr_i2l hx hb (by omega) dX0_errorAfter_25 ?_
  refine rd_callN (host := RX1) (As := [.long (zL (1000 * (sAbs (d - (sSmp g A B))))), .long (zL (sSmp g A B))]) (rest := [.long (zL 1000)]) ⟨hx, hb, hml, hown, hts⟩ (c_X1_quotient l dC dI cI cZ cS (1000 * (sAbs (d - (sSmp g A B)))) (sSmp g A B) (by omega) (by omega)) ⟨va_cnB 2 hts gX0_errorAfter_X1_quotient_n103 rfl rfl rfl (hK.2.1 _ (nw_at 11 rfl)) (hts (.initialized RX1) (by decide +kernel)) (by decide +kernel) ⟨Nat.le_of_ble_eq_true rfl, Nat.le_of_ble_eq_true rfl⟩, hts (.static yX1_quotient) (by decide +kernel), trivial⟩ va_P_nil hK rfl hl.1 rfl (Nat.le_of_ble_eq_true rfl) dX0_errorAfter_26 ⟨Nat.zero_le _, Nat.zero_le _⟩ ?_
  refine va_mmin_long hx hb (hml.trans hl.1.symm) hown (hts (.methodLink RX0 114 Lib.MathLoose.min_long.x) (by decide +kernel)) (hts (.static Lib.MathLoose.min_long.x) (by decide +kernel)) (hts (.initialized "java/lang/Math") (by decide +kernel)) (hts (.code Lib.MathLoose.min_long.x Lib.MathLoose.min_long.code 4 (some .long)) (by decide +kernel)) (Nat.le_of_ble_eq_true rfl) (Nat.le_of_ble_eq_true rfl) (Nat.zero_le _) (Nat.zero_le _) dX0_errorAfter_29 ?_
  rw [zm_ite (by omega) (by omega)]
  refine zr_topL (sEs g A B d) (by unfold sEs; split <;> split <;> omega) ?_
  refine lv_lstore (lv' := [(5, .long (zL (sEs g A B d))), (4, .int (zI (sSmp g A B))), (0, .ref (a 0)), (1, .int (zI (A : Int))), (2, .int (zI (B : Int))), (3, .int (zI d))]) hx hb dX0_errorAfter_32 hl (by decide) rfl (fun ls hl => ?_)
  refine lv_aload_n hx hb dX0_errorAfter_34 rfl (lv_at hl 2 rfl) ?_
  refine va_get (D := (dC, dI)) (ci := 0) (v := .int (zI (g 0 2))) (C := RX0) (T := TX0) (N := 11) hx hb hts hinX0 hown hK.1 hP 0 rfl rfl 2 (by decide) f_9 (fun _ h9 => h9) rfl dX0_errorAfter_35 ?_
  refine zr_i2l hx hb (by omega) dX0_errorAfter_38 ?_
  refine lv_aload_n hx hb dX0_errorAfter_39 rfl (lv_at hl 2 rfl) ?_
  refine lv_iload_n hx hb dX0_errorAfter_40 rfl (lv_at hl 3 rfl) ?_
  refine lv_iload_n hx hb dX0_errorAfter_41 rfl (lv_at hl 4 rfl) ?_
  refine rd_callV (As := [.int (zI (A : Int)), .int (zI (B : Int))]) (rest := [.long (zL (g 0 2))]) ⟨hx, hb, hml, hown, hts⟩ (c_X0_weight l dC dI cI cZ cS a g r hg A B (by omega) (by omega)) (cwV 2 hts gX0_errorAfter_X0_weight rfl rfl rfl (by decide +kernel) ⟨Nat.le_of_ble_eq_true rfl, Nat.le_of_ble_eq_true rfl⟩) hP hK 0 rfl rfl rfl hl.1 rfl (Nat.le_of_ble_eq_true rfl) dX0_errorAfter_42 ⟨Nat.zero_le _, Nat.zero_le _⟩ ?_
  refine zr_lmul hx hb dX0_errorAfter_45 ?_
  refine zr_ldc2 hx hb (1000) hown k_101 (by decide) dX0_errorAfter_46 ?_
  refine zr_ldiv hx hb (by omega) (by omega) dX0_errorAfter_49 ?_
  refine zr_topL (sVe g A B) rfl ?_
  refine lv_lstore (lv' := [(7, .long (zL (sVe g A B))), (5, .long (zL (sEs g A B d))), (4, .int (zI (sSmp g A B))), (0, .ref (a 0)), (1, .int (zI (A : Int))), (2, .int (zI (B : Int))), (3, .int (zI d))]) hx hb dX0_errorAfter_50 hl (by decide) rfl (fun ls hl => ?_)
  refine lv_lload hx hb dX0_errorAfter_52 (lv_at hl 1 rfl) ?_
  refine lv_lload hx hb dX0_errorAfter_54 (lv_at hl 0 rfl) ?_
  refine zr_lmul hx hb dX0_errorAfter_56 ?_
  refine lv_aload_n hx hb dX0_errorAfter_57 rfl (lv_at hl 3 rfl) ?_
  refine va_get (D := (dC, dI)) (ci := 0) (v := .ref (a 4)) (C := RX0) (T := TX0) (N := 11) hx hb hts hinX0 hown hK.1 hP 0 rfl rfl 8 (by decide) f_31 (fun _ h9 => h9) rfl dX0_errorAfter_58 ?_
  refine lv_iload_n hx hb dX0_errorAfter_61 rfl (lv_at hl 4 rfl) ?_
  refine zr_iald hx hb hK.1 hP 4 0 rfl rfl A (g 4 A) (by omega) (by omega) (Nat.le_of_ble_eq_true rfl) rfl dX0_errorAfter_62 ?_
  refine zr_i2l hx hb (by omega) dX0_errorAfter_63 ?_
  refine zr_ldc2 hx hb (1000) hown k_101 (by decide) dX0_errorAfter_64 ?_
  refine lv_lload hx hb dX0_errorAfter_67 (lv_at hl 0 rfl) ?_
  refine zr_lsub hx hb dX0_errorAfter_69 ?_
  refine zr_lmul hx hb dX0_errorAfter_70 ?_
  refine zr_ladd hx hb dX0_errorAfter_71 ?_
  refine zr_ldc2 hx hb (1000) hown k_101 (by decide) dX0_errorAfter_72 ?_
  refine zr_ldiv hx hb (by omega) (by omega) dX0_errorAfter_75 ?_
  refine lv_lstore (lv' := [(9, .long (zL (((sEs g A B d * sVe g A B) + (g 4 A * (1000 - sVe g A B))).tdiv 1000))), (7, .long (zL (sVe g A B))), (5, .long (zL (sEs g A B d))), (4, .int (zI (sSmp g A B))), (0, .ref (a 0)), (1, .int (zI (A : Int))), (2, .int (zI (B : Int))), (3, .int (zI d))]) hx hb dX0_errorAfter_76 hl (by decide) rfl (fun ls hl => ?_)
  refine zr_lconst hx hb 1 (by decide) dX0_errorAfter_78 ?_
  refine lv_lload hx hb dX0_errorAfter_79 (lv_at hl 0 rfl) ?_
  refine va_mmax_long hx hb (hml.trans hl.1.symm) hown (hts (.methodLink RX0 121 Lib.MathLoose.max_long.x) (by decide +kernel)) (hts (.static Lib.MathLoose.max_long.x) (by decide +kernel)) (hts (.initialized "java/lang/Math") (by decide +kernel)) (hts (.code Lib.MathLoose.max_long.x Lib.MathLoose.max_long.code 4 (some .long)) (by decide +kernel)) (Nat.le_of_ble_eq_true rfl) (Nat.le_of_ble_eq_true rfl) (Nat.zero_le _) (Nat.zero_le _) dX0_errorAfter_81 ?_
  rw [zm_ite (by omega) (by omega)]
  refine zr_topL (sErr g A B d) rfl ?_
  refine zr_l2i hx hb dX0_errorAfter_84 ?_
  exact rd_iret hx hb hr hlocks rfl dX0_errorAfter_85
set_option maxHeartbeats 4000000 in
set_option maxRecDepth 100000 in
/-- stepOf -/
theorem c_X0_stepOf (l : Launch) (dC : Nat → ClassId) (dI : Nat → Nat → Nat) (cI cZ cS : ClassId) (a : Nat → Nat) (g : Nat → Nat → Int) (r : Int) (hg : gB g r) (A B : Nat) (hA : A < 10) (hB : B < 10) (d : Int) (hd : 0 ≤ d ∧ d ≤ 482842) : Met l yX0_stepOf wsX0_stepOf ({ frames := 2, cells := 0, slots := 0, locals := 63 } : Room) (rd_Pc dC dI cI cZ cS (stw cI a g) [.ref (a 0), .int (zI (A : Int)), .int (zI (B : Int)), .int (zI d)]) (rd_Qc (some (.int (zI (sStp g A B d))))) 0 0 nf := by
  refine rd_met (cc := cX0_stepOf) (maxL := 6) (ret := (some .int)) (by decide) rfl (Nat.le_of_ble_eq_true rfl) ?_
  intro p e s m below meth c ls hx hb hml hr hlocks hts hown hP hK hl
  have hl : lv_has ls 6 [(0, .ref (a 0)), (1, .int (zI (A : Int))), (2, .int (zI (B : Int))), (3, .int (zI d))] := hl
  have hinX0 : ∀ w ∈ u_ws RX0 TX0 11, w ∈ wsX0_stepOf := by decide +kernel
  have f_15 := hts (.fieldLink RX0 15 "NetworkCoordinates$State" "moveGain" "I") (by decide +kernel)
  have k_101 := hts (.constantLong RX0 101 (1000)) (by decide +kernel)
  have f_18 := hts (.fieldLink RX0 18 "NetworkCoordinates$State" "maxStep" "I") (by decide +kernel)
  have b0 := hg.1
  have bA := hg.2.1 A hA
  have bB := hg.2.1 B hB
  have kAB := hg.2.2 A B hA hB
  have s1 := sSmp_bd hg hA hB
  have s5 := sVm_bd hg hA hB
  have s6 := sWgt_bd hg hA hB
  have s7 := z_mul0 (a := g 0 3) (b := sWgt g A B) (A := 1000) (B := 1000) (by omega) s6
  have s8 := sStp_bd hg hA hB hd
  refine lv_aload_n hx hb dX0_stepOf_0 rfl (lv_at hl 0 rfl) ?_
  refine va_get (D := (dC, dI)) (ci := 0) (v := .int (zI (g 0 3))) (C := RX0) (T := TX0) (N := 11) hx hb hts hinX0 hown hK.1 hP 0 rfl rfl 3 (by decide) f_15 (fun _ h9 => h9) rfl dX0_stepOf_1 ?_
  refine zr_i2l hx hb (by omega) dX0_stepOf_4 ?_
  refine lv_aload_n hx hb dX0_stepOf_5 rfl (lv_at hl 0 rfl) ?_
  refine lv_iload_n hx hb dX0_stepOf_6 rfl (lv_at hl 1 rfl) ?_
  refine lv_iload_n hx hb dX0_stepOf_7 rfl (lv_at hl 2 rfl) ?_
  refine rd_callV (As := [.int (zI (A : Int)), .int (zI (B : Int))]) (rest := [.long (zL (g 0 3))]) ⟨hx, hb, hml, hown, hts⟩ (c_X0_weight l dC dI cI cZ cS a g r hg A B (by omega) (by omega)) (cwV 2 hts gX0_stepOf_X0_weight rfl rfl rfl (by decide +kernel) ⟨Nat.le_of_ble_eq_true rfl, Nat.le_of_ble_eq_true rfl⟩) hP hK 0 rfl rfl rfl hl.1 rfl (Nat.le_of_ble_eq_true rfl) dX0_stepOf_8 ⟨Nat.zero_le _, Nat.zero_le _⟩ ?_
  refine zr_lmul hx hb dX0_stepOf_11 ?_
  refine zr_ldc2 hx hb (1000) hown k_101 (by decide) dX0_stepOf_12 ?_
  refine zr_ldiv hx hb (by omega) (by omega) dX0_stepOf_15 ?_
  refine zr_topL (sVm g A B) rfl ?_
  refine lv_lstore (lv' := [(4, .long (zL (sVm g A B))), (0, .ref (a 0)), (1, .int (zI (A : Int))), (2, .int (zI (B : Int))), (3, .int (zI d))]) hx hb dX0_stepOf_16 hl (by decide) rfl (fun ls hl => ?_)
  refine lv_aload_n hx hb dX0_stepOf_18 rfl (lv_at hl 1 rfl) ?_
  refine lv_iload_n hx hb dX0_stepOf_19 rfl (lv_at hl 2 rfl) ?_
  refine lv_iload_n hx hb dX0_stepOf_20 rfl (lv_at hl 3 rfl) ?_
  refine rd_callV (As := [.int (zI (A : Int)), .int (zI (B : Int))]) (rest := []) ⟨hx, hb, hml, hown, hts⟩ (c_X0_sample l dC dI cI cZ cS a g r hg A B (by omega) (by omega)) (cwV 2 hts gX0_stepOf_X0_sample rfl rfl rfl (by decide +kernel) ⟨Nat.le_of_ble_eq_true rfl, Nat.le_of_ble_eq_true rfl⟩) hP hK 0 rfl rfl rfl hl.1 rfl (Nat.le_of_ble_eq_true rfl) dX0_stepOf_21 ⟨Nat.zero_le _, Nat.zero_le _⟩ ?_
  refine lv_iload_n hx hb dX0_stepOf_24 rfl (lv_at hl 4 rfl) ?_
  refine zr_isub hx hb dX0_stepOf_25 ?_
  refine zr_i2l hx hb (by omega) dX0_stepOf_26 ?_
  refine lv_lload hx hb dX0_stepOf_27 (lv_at hl 0 rfl) ?_
  refine zr_lmul hx hb dX0_stepOf_29 ?_
  refine zr_ldc2 hx hb (1000) hown k_101 (by decide) dX0_stepOf_30 ?_
  refine zr_ldiv hx hb (by omega) (by omega) dX0_stepOf_33 ?_
  refine lv_aload_n hx hb dX0_stepOf_34 rfl (lv_at hl 1 rfl) ?_
  refine va_get (D := (dC, dI)) (ci := 0) (v := .int (zI (g 0 4))) (C := RX0) (T := TX0) (N := 11) hx hb hts hinX0 hown hK.1 hP 0 rfl rfl 4 (by decide) f_18 (fun _ h9 => h9) rfl dX0_stepOf_35 ?_
  refine zr_ineg hx hb dX0_stepOf_38 ?_
  refine lv_aload_n hx hb dX0_stepOf_39 rfl (lv_at hl 1 rfl) ?_
  refine va_get (D := (dC, dI)) (ci := 0) (v := .int (zI (g 0 4))) (C := RX0) (T := TX0) (N := 11) hx hb hts hinX0 hown hK.1 hP 0 rfl rfl 4 (by decide) f_18 (fun _ h9 => h9) rfl dX0_stepOf_40 ?_
  refine rd_callN (host := RX1) (As := [.long (zL ((((sSmp g A B) - d) * sVm g A B).tdiv 1000)), .int (zI (-(g 0 4))), .int (zI (g 0 4))]) (rest := []) ⟨hx, hb, hml, hown, hts⟩ (c_X1_limited l dC dI cI cZ cS ((((sSmp g A B) - d) * sVm g A B).tdiv 1000) (-(g 0 4)) (g 0 4) (by omega) (by omega) (by omega) (by omega)) ⟨va_cnB 3 hts gX0_stepOf_X1_limited_n124 rfl rfl rfl (hK.2.1 _ (nw_at 12 rfl)) (hts (.initialized RX1) (by decide +kernel)) (by decide +kernel) ⟨Nat.le_of_ble_eq_true rfl, Nat.le_of_ble_eq_true rfl⟩, hts (.static yX1_limited) (by decide +kernel), trivial⟩ va_P_nil hK rfl hl.1 rfl (Nat.le_of_ble_eq_true rfl) dX0_stepOf_43 ⟨Nat.zero_le _, Nat.zero_le _⟩ ?_
  exact rd_iret hx hb hr hlocks rfl dX0_stepOf_46
set_option maxHeartbeats 4000000 in
set_option maxRecDepth 100000 in
/-- xAfter -/
theorem c_X0_xAfter (l : Launch) (dC : Nat → ClassId) (dI : Nat → Nat → Nat) (cI cZ cS : ClassId) (a : Nat → Nat) (g : Nat → Nat → Int) (r : Int) (hg : gB g r) (A B : Nat) (hA : A < 10) (hB : B < 10) (st d : Int) (hst : -20000 ≤ st ∧ st ≤ 20000) (hd : 0 ≤ d ∧ d ≤ 482842) : Met l yX0_xAfter wsX0_xAfter ({ frames := 2, cells := 0, slots := 0, locals := 63 } : Room) (rd_Pc dC dI cI cZ cS (stw cI a g) [.ref (a 0), .int (zI (A : Int)), .int (zI (B : Int)), .int (zI st), .int (zI d)]) (rd_Qc (some (.int (zI (sX g A B st d))))) 0 0 nf := by
  refine rd_met (cc := cX0_xAfter) (maxL := 7) (ret := (some .int)) (by decide) rfl (Nat.le_of_ble_eq_true rfl) ?_
  intro p e s m below meth c ls hx hb hml hr hlocks hts hown hP hK hl
  have hl : lv_has ls 7 [(0, .ref (a 0)), (1, .int (zI (A : Int))), (2, .int (zI (B : Int))), (3, .int (zI st)), (4, .int (zI d))] := hl
  have hinX0 : ∀ w ∈ u_ws RX0 TX0 11, w ∈ wsX0_xAfter := by decide +kernel
  have f_21 := hts (.fieldLink RX0 21 "NetworkCoordinates$State" "xs" "[I") (by decide +kernel)
  have k_132 := hts (.constant RX0 132 (-100000)) (by decide +kernel)
  have k_133 := hts (.constant RX0 133 (100000)) (by decide +kernel)
  have b0 := hg.1
  have bA := hg.2.1 A hA
  have bB := hg.2.1 B hB
  have m1 := z_mul (a := st) (b := g 1 A - g 1 B) (A := 20000) (B := 200000) hst (by omega)
  have m2 : ∀ x : Int, 1 ≤ x → -4000000000 ≤ (st * (g 1 A - g 1 B)).tdiv x ∧ (st * (g 1 A - g 1 B)).tdiv x ≤ 4000000000 := fun x hx => z_tdiv m1 hx
  have m3 : -4000000000 ≤ (if d = 0 then st else (st * (g 1 A - g 1 B)).tdiv d) ∧ (if d = 0 then st else (st * (g 1 A - g 1 B)).tdiv d) ≤ 4000000000 := by
    by_cases q : d = 0
    · rw [if_pos q]; omega
    · rw [if_neg q]; exact m2 d (by omega)
  refine lv_iload hx hb dX0_xAfter_0 (lv_at hl 4 rfl) ?_
  refine zr_if_ne (tgt := 10) hx hb dX0_xAfter_2 (by decide) (by omega) (fun c_2 => ?_) (fun c_2 => ?_)
  · refine lv_iload_n hx hb dX0_xAfter_10 rfl (lv_at hl 3 rfl) ?_
    refine lv_aload_n hx hb dX0_xAfter_11 rfl (lv_at hl 0 rfl) ?_
    refine va_get (D := (dC, dI)) (ci := 0) (v := .ref (a 1)) (C := RX0) (T := TX0) (N := 11) hx hb hts hinX0 hown hK.1 hP 0 rfl rfl 5 (by decide) f_21 (fun _ h9 => h9) rfl dX0_xAfter_12 ?_
    refine lv_iload_n hx hb dX0_xAfter_15 rfl (lv_at hl 1 rfl) ?_
    refine zr_iald hx hb hK.1 hP 1 0 rfl rfl A (g 1 A) (by omega) (by omega) (Nat.le_of_ble_eq_true rfl) rfl dX0_xAfter_16 ?_
    refine lv_aload_n hx hb dX0_xAfter_17 rfl (lv_at hl 0 rfl) ?_
    refine va_get (D := (dC, dI)) (ci := 0) (v := .ref (a 1)) (C := RX0) (T := TX0) (N := 11) hx hb hts hinX0 hown hK.1 hP 0 rfl rfl 5 (by decide) f_21 (fun _ h9 => h9) rfl dX0_xAfter_18 ?_
    refine lv_iload_n hx hb dX0_xAfter_21 rfl (lv_at hl 2 rfl) ?_
    refine zr_iald hx hb hK.1 hP 1 0 rfl rfl B (g 1 B) (by omega) (by omega) (Nat.le_of_ble_eq_true rfl) rfl dX0_xAfter_22 ?_
    refine zr_isub hx hb dX0_xAfter_23 ?_
    refine lv_iload hx hb dX0_xAfter_24 (lv_at hl 4 rfl) ?_
    refine rd_callN (host := RX1) (As := [.int (zI st), .int (zI (g 1 A - g 1 B)), .int (zI d)]) (rest := []) ⟨hx, hb, hml, hown, hts⟩ (c_X1_share l dC dI cI cZ cS st (g 1 A - g 1 B) d (by omega) (by omega) (by omega)) ⟨va_cnB 3 hts gX0_xAfter_X1_share_n128 rfl rfl rfl (hK.2.1 _ (nw_at 13 rfl)) (hts (.initialized RX1) (by decide +kernel)) (by decide +kernel) ⟨Nat.le_of_ble_eq_true rfl, Nat.le_of_ble_eq_true rfl⟩, hts (.static yX1_share) (by decide +kernel), trivial⟩ va_P_nil hK rfl hl.1 rfl (Nat.le_of_ble_eq_true rfl) dX0_xAfter_26 ⟨Nat.zero_le _, Nat.zero_le _⟩ ?_
    refine zr_topL (if d = 0 then st else (st * (g 1 A - g 1 B)).tdiv d) (by rw [if_neg c_2, if_neg c_2]) ?_
    refine lv_lstore (lv' := [(5, .long (zL (if d = 0 then st else (st * (g 1 A - g 1 B)).tdiv d))), (0, .ref (a 0)), (1, .int (zI (A : Int))), (2, .int (zI (B : Int))), (3, .int (zI st)), (4, .int (zI d))]) hx hb dX0_xAfter_29 hl (by decide) rfl (fun ls hl => ?_)
    refine lv_aload_n hx hb dX0_xAfter_31 rfl (lv_at hl 1 rfl) ?_
    refine va_get (D := (dC, dI)) (ci := 0) (v := .ref (a 1)) (C := RX0) (T := TX0) (N := 11) hx hb hts hinX0 hown hK.1 hP 0 rfl rfl 5 (by decide) f_21 (fun _ h9 => h9) rfl dX0_xAfter_32 ?_
    refine lv_iload_n hx hb dX0_xAfter_35 rfl (lv_at hl 2 rfl) ?_
    refine zr_iald hx hb hK.1 hP 1 0 rfl rfl A (g 1 A) (by omega) (by omega) (Nat.le_of_ble_eq_true rfl) rfl dX0_xAfter_36 ?_
    refine zr_i2l hx hb (by omega) dX0_xAfter_37 ?_
    refine lv_lload hx hb dX0_xAfter_38 (lv_at hl 0 rfl) ?_
    refine zr_ladd hx hb dX0_xAfter_40 ?_
    refine zr_ldc hx hb (-100000) hown k_132 (by decide) dX0_xAfter_41 ?_
    refine zr_ldc hx hb (100000) hown k_133 (by decide) dX0_xAfter_43 ?_
    refine rd_callN (host := RX1) (As := [.long (zL (g 1 A + if d = 0 then st else (st * (g 1 A - g 1 B)).tdiv d)), .int (zI (-100000)), .int (zI 100000)]) (rest := []) ⟨hx, hb, hml, hown, hts⟩ (c_X1_limited l dC dI cI cZ cS (g 1 A + if d = 0 then st else (st * (g 1 A - g 1 B)).tdiv d) (-100000) 100000 (by omega) (by omega) (by omega) (by omega)) ⟨va_cnB 3 hts gX0_xAfter_X1_limited_n124 rfl rfl rfl (hK.2.1 _ (nw_at 12 rfl)) (hts (.initialized RX1) (by decide +kernel)) (by decide +kernel) ⟨Nat.le_of_ble_eq_true rfl, Nat.le_of_ble_eq_true rfl⟩, hts (.static yX1_limited) (by decide +kernel), trivial⟩ va_P_nil hK rfl hl.1 rfl (Nat.le_of_ble_eq_true rfl) dX0_xAfter_45 ⟨Nat.zero_le _, Nat.zero_le _⟩ ?_
    exact rd_iret hx hb hr hlocks rfl dX0_xAfter_48
  · refine lv_iload_n hx hb dX0_xAfter_5 rfl (lv_at hl 3 rfl) ?_
    refine zr_i2l hx hb (by omega) dX0_xAfter_6 ?_
    refine zr_topL (if d = 0 then st else (st * (g 1 A - g 1 B)).tdiv d) (if_pos c_2).symm ?_
    refine lv_goto (tgt := 29) hx hb dX0_xAfter_7 (by decide) ?_
    refine lv_lstore (lv' := [(5, .long (zL (if d = 0 then st else (st * (g 1 A - g 1 B)).tdiv d))), (0, .ref (a 0)), (1, .int (zI (A : Int))), (2, .int (zI (B : Int))), (3, .int (zI st)), (4, .int (zI d))]) hx hb dX0_xAfter_29 hl (by decide) rfl (fun ls hl => ?_)
    refine lv_aload_n hx hb dX0_xAfter_31 rfl (lv_at hl 1 rfl) ?_
    refine va_get (D := (dC, dI)) (ci := 0) (v := .ref (a 1)) (C := RX0) (T := TX0) (N := 11) hx hb hts hinX0 hown hK.1 hP 0 rfl rfl 5 (by decide) f_21 (fun _ h9 => h9) rfl dX0_xAfter_32 ?_
    refine lv_iload_n hx hb dX0_xAfter_35 rfl (lv_at hl 2 rfl) ?_
    refine zr_iald hx hb hK.1 hP 1 0 rfl rfl A (g 1 A) (by omega) (by omega) (Nat.le_of_ble_eq_true rfl) rfl dX0_xAfter_36 ?_
    refine zr_i2l hx hb (by omega) dX0_xAfter_37 ?_
    refine lv_lload hx hb dX0_xAfter_38 (lv_at hl 0 rfl) ?_
    refine zr_ladd hx hb dX0_xAfter_40 ?_
    refine zr_ldc hx hb (-100000) hown k_132 (by decide) dX0_xAfter_41 ?_
    refine zr_ldc hx hb (100000) hown k_133 (by decide) dX0_xAfter_43 ?_
    refine rd_callN (host := RX1) (As := [.long (zL (g 1 A + if d = 0 then st else (st * (g 1 A - g 1 B)).tdiv d)), .int (zI (-100000)), .int (zI 100000)]) (rest := []) ⟨hx, hb, hml, hown, hts⟩ (c_X1_limited l dC dI cI cZ cS (g 1 A + if d = 0 then st else (st * (g 1 A - g 1 B)).tdiv d) (-100000) 100000 (by omega) (by omega) (by omega) (by omega)) ⟨va_cnB 3 hts gX0_xAfter_X1_limited_n124 rfl rfl rfl (hK.2.1 _ (nw_at 12 rfl)) (hts (.initialized RX1) (by decide +kernel)) (by decide +kernel) ⟨Nat.le_of_ble_eq_true rfl, Nat.le_of_ble_eq_true rfl⟩, hts (.static yX1_limited) (by decide +kernel), trivial⟩ va_P_nil hK rfl hl.1 rfl (Nat.le_of_ble_eq_true rfl) dX0_xAfter_45 ⟨Nat.zero_le _, Nat.zero_le _⟩ ?_
    exact rd_iret hx hb hr hlocks rfl dX0_xAfter_48
set_option maxHeartbeats 4000000 in
set_option maxRecDepth 100000 in
/-- yAfter -/
theorem c_X0_yAfter (l : Launch) (dC : Nat → ClassId) (dI : Nat → Nat → Nat) (cI cZ cS : ClassId) (a : Nat → Nat) (g : Nat → Nat → Int) (r : Int) (hg : gB g r) (A B : Nat) (hA : A < 10) (hB : B < 10) (st d : Int) (hst : -20000 ≤ st ∧ st ≤ 20000) (hd : 0 ≤ d ∧ d ≤ 482842) : Met l yX0_yAfter wsX0_yAfter ({ frames := 2, cells := 0, slots := 0, locals := 63 } : Room) (rd_Pc dC dI cI cZ cS (stw cI a g) [.ref (a 0), .int (zI (A : Int)), .int (zI (B : Int)), .int (zI st), .int (zI d)]) (rd_Qc (some (.int (zI (sY g A B st d))))) 0 0 nf := by
  refine rd_met (cc := cX0_yAfter) (maxL := 7) (ret := (some .int)) (by decide) rfl (Nat.le_of_ble_eq_true rfl) ?_
  intro p e s m below meth c ls hx hb hml hr hlocks hts hown hP hK hl
  have hl : lv_has ls 7 [(0, .ref (a 0)), (1, .int (zI (A : Int))), (2, .int (zI (B : Int))), (3, .int (zI st)), (4, .int (zI d))] := hl
  have hinX0 : ∀ w ∈ u_ws RX0 TX0 11, w ∈ wsX0_yAfter := by decide +kernel
  have f_25 := hts (.fieldLink RX0 25 "NetworkCoordinates$State" "ys" "[I") (by decide +kernel)
  have k_132 := hts (.constant RX0 132 (-100000)) (by decide +kernel)
  have k_133 := hts (.constant RX0 133 (100000)) (by decide +kernel)
  have b0 := hg.1
  have bA := hg.2.1 A hA
  have bB := hg.2.1 B hB
  have m1 := z_mul (a := st) (b := g 2 A - g 2 B) (A := 20000) (B := 200000) hst (by omega)
  have m2 : ∀ x : Int, 1 ≤ x → -4000000000 ≤ (st * (g 2 A - g 2 B)).tdiv x ∧ (st * (g 2 A - g 2 B)).tdiv x ≤ 4000000000 := fun x hx => z_tdiv m1 hx
  have m3 : -4000000000 ≤ (if d = 0 then 0 else (st * (g 2 A - g 2 B)).tdiv d) ∧ (if d = 0 then 0 else (st * (g 2 A - g 2 B)).tdiv d) ≤ 4000000000 := by
    by_cases q : d = 0
    · rw [if_pos q]; omega
    · rw [if_neg q]; exact m2 d (by omega)
  refine lv_iload_n hx hb dX0_yAfter_0 rfl (lv_at hl 3 rfl) ?_
  refine lv_aload_n hx hb dX0_yAfter_1 rfl (lv_at hl 0 rfl) ?_
  refine va_get (D := (dC, dI)) (ci := 0) (v := .ref (a 2)) (C := RX0) (T := TX0) (N := 11) hx hb hts hinX0 hown hK.1 hP 0 rfl rfl 6 (by decide) f_25 (fun _ h9 => h9) rfl dX0_yAfter_2 ?_
  refine lv_iload_n hx hb dX0_yAfter_5 rfl (lv_at hl 1 rfl) ?_
  refine zr_iald hx hb hK.1 hP 2 0 rfl rfl A (g 2 A) (by omega) (by omega) (Nat.le_of_ble_eq_true rfl) rfl dX0_yAfter_6 ?_
  refine lv_aload_n hx hb dX0_yAfter_7 rfl (lv_at hl 0 rfl) ?_
  refine va_get (D := (dC, dI)) (ci := 0) (v := .ref (a 2)) (C := RX0) (T := TX0) (N := 11) hx hb hts hinX0 hown hK.1 hP 0 rfl rfl 6 (by decide) f_25 (fun _ h9 => h9) rfl dX0_yAfter_8 ?_
  refine lv_iload_n hx hb dX0_yAfter_11 rfl (lv_at hl 2 rfl) ?_
  refine zr_iald hx hb hK.1 hP 2 0 rfl rfl B (g 2 B) (by omega) (by omega) (Nat.le_of_ble_eq_true rfl) rfl dX0_yAfter_12 ?_
  refine zr_isub hx hb dX0_yAfter_13 ?_
  refine lv_iload hx hb dX0_yAfter_14 (lv_at hl 4 rfl) ?_
  refine rd_callN (host := RX1) (As := [.int (zI st), .int (zI (g 2 A - g 2 B)), .int (zI d)]) (rest := []) ⟨hx, hb, hml, hown, hts⟩ (c_X1_share l dC dI cI cZ cS st (g 2 A - g 2 B) d (by omega) (by omega) (by omega)) ⟨va_cnB 3 hts gX0_yAfter_X1_share_n128 rfl rfl rfl (hK.2.1 _ (nw_at 13 rfl)) (hts (.initialized RX1) (by decide +kernel)) (by decide +kernel) ⟨Nat.le_of_ble_eq_true rfl, Nat.le_of_ble_eq_true rfl⟩, hts (.static yX1_share) (by decide +kernel), trivial⟩ va_P_nil hK rfl hl.1 rfl (Nat.le_of_ble_eq_true rfl) dX0_yAfter_16 ⟨Nat.zero_le _, Nat.zero_le _⟩ ?_
  refine lv_lstore (lv' := [(5, .long (zL (if d = 0 then 0 else (st * (g 2 A - g 2 B)).tdiv d))), (0, .ref (a 0)), (1, .int (zI (A : Int))), (2, .int (zI (B : Int))), (3, .int (zI st)), (4, .int (zI d))]) hx hb dX0_yAfter_19 hl (by decide) rfl (fun ls hl => ?_)
  refine lv_aload_n hx hb dX0_yAfter_21 rfl (lv_at hl 1 rfl) ?_
  refine va_get (D := (dC, dI)) (ci := 0) (v := .ref (a 2)) (C := RX0) (T := TX0) (N := 11) hx hb hts hinX0 hown hK.1 hP 0 rfl rfl 6 (by decide) f_25 (fun _ h9 => h9) rfl dX0_yAfter_22 ?_
  refine lv_iload_n hx hb dX0_yAfter_25 rfl (lv_at hl 2 rfl) ?_
  refine zr_iald hx hb hK.1 hP 2 0 rfl rfl A (g 2 A) (by omega) (by omega) (Nat.le_of_ble_eq_true rfl) rfl dX0_yAfter_26 ?_
  refine zr_i2l hx hb (by omega) dX0_yAfter_27 ?_
  refine lv_lload hx hb dX0_yAfter_28 (lv_at hl 0 rfl) ?_
  refine zr_ladd hx hb dX0_yAfter_30 ?_
  refine zr_ldc hx hb (-100000) hown k_132 (by decide) dX0_yAfter_31 ?_
  refine zr_ldc hx hb (100000) hown k_133 (by decide) dX0_yAfter_33 ?_
  refine rd_callN (host := RX1) (As := [.long (zL (g 2 A + (if d = 0 then 0 else (st * (g 2 A - g 2 B)).tdiv d))), .int (zI (-100000)), .int (zI 100000)]) (rest := []) ⟨hx, hb, hml, hown, hts⟩ (c_X1_limited l dC dI cI cZ cS (g 2 A + (if d = 0 then 0 else (st * (g 2 A - g 2 B)).tdiv d)) (-100000) 100000 (by omega) (by omega) (by omega) (by omega)) ⟨va_cnB 3 hts gX0_yAfter_X1_limited_n124 rfl rfl rfl (hK.2.1 _ (nw_at 12 rfl)) (hts (.initialized RX1) (by decide +kernel)) (by decide +kernel) ⟨Nat.le_of_ble_eq_true rfl, Nat.le_of_ble_eq_true rfl⟩, hts (.static yX1_limited) (by decide +kernel), trivial⟩ va_P_nil hK rfl hl.1 rfl (Nat.le_of_ble_eq_true rfl) dX0_yAfter_35 ⟨Nat.zero_le _, Nat.zero_le _⟩ ?_
  exact rd_iret hx hb hr hlocks rfl dX0_yAfter_38
set_option maxHeartbeats 4000000 in
set_option maxRecDepth 100000 in
/-- heightAfter -/
theorem c_X0_heightAfter (l : Launch) (dC : Nat → ClassId) (dI : Nat → Nat → Nat) (cI cZ cS : ClassId) (a : Nat → Nat) (g : Nat → Nat → Int) (r : Int) (hg : gB g r) (A B : Nat) (hA : A < 10) (hB : B < 10) (st d : Int) (hst : -20000 ≤ st ∧ st ≤ 20000) (hd : 0 ≤ d ∧ d ≤ 482842) : Met l yX0_heightAfter wsX0_heightAfter ({ frames := 2, cells := 0, slots := 0, locals := 63 } : Room) (rd_Pc dC dI cI cZ cS (stw cI a g) [.ref (a 0), .int (zI (A : Int)), .int (zI (B : Int)), .int (zI st), .int (zI d)]) (rd_Qc (some (.int (zI (sH g A B st d))))) 0 0 nf := by
  refine rd_met (cc := cX0_heightAfter) (maxL := 7) (ret := (some .int)) (by decide) rfl (Nat.le_of_ble_eq_true rfl) ?_
  intro p e s m below meth c ls hx hb hml hr hlocks hts hown hP hK hl
  have hl : lv_has ls 7 [(0, .ref (a 0)), (1, .int (zI (A : Int))), (2, .int (zI (B : Int))), (3, .int (zI st)), (4, .int (zI d))] := hl
  have hinX0 : ∀ w ∈ u_ws RX0 TX0 11, w ∈ wsX0_heightAfter := by decide +kernel
  have f_28 := hts (.fieldLink RX0 28 "NetworkCoordinates$State" "heights" "[I") (by decide +kernel)
  have k_133 := hts (.constant RX0 133 (100000)) (by decide +kernel)
  have b0 := hg.1
  have bA := hg.2.1 A hA
  have bB := hg.2.1 B hB
  have m1 := z_mul (a := st) (b := g 3 A + g 3 B) (A := 20000) (B := 200000) hst (by omega)
  have m2 : ∀ x : Int, 1 ≤ x → -4000000000 ≤ (st * (g 3 A + g 3 B)).tdiv x ∧ (st * (g 3 A + g 3 B)).tdiv x ≤ 4000000000 := fun x hx => z_tdiv m1 hx
  have m3 : -4000000000 ≤ (if d = 0 then 0 else (st * (g 3 A + g 3 B)).tdiv d) ∧ (if d = 0 then 0 else (st * (g 3 A + g 3 B)).tdiv d) ≤ 4000000000 := by
    by_cases q : d = 0
    · rw [if_pos q]; omega
    · rw [if_neg q]; exact m2 d (by omega)
  refine lv_iload_n hx hb dX0_heightAfter_0 rfl (lv_at hl 3 rfl) ?_
  refine lv_aload_n hx hb dX0_heightAfter_1 rfl (lv_at hl 0 rfl) ?_
  refine va_get (D := (dC, dI)) (ci := 0) (v := .ref (a 3)) (C := RX0) (T := TX0) (N := 11) hx hb hts hinX0 hown hK.1 hP 0 rfl rfl 7 (by decide) f_28 (fun _ h9 => h9) rfl dX0_heightAfter_2 ?_
  refine lv_iload_n hx hb dX0_heightAfter_5 rfl (lv_at hl 1 rfl) ?_
  refine zr_iald hx hb hK.1 hP 3 0 rfl rfl A (g 3 A) (by omega) (by omega) (Nat.le_of_ble_eq_true rfl) rfl dX0_heightAfter_6 ?_
  refine lv_aload_n hx hb dX0_heightAfter_7 rfl (lv_at hl 0 rfl) ?_
  refine va_get (D := (dC, dI)) (ci := 0) (v := .ref (a 3)) (C := RX0) (T := TX0) (N := 11) hx hb hts hinX0 hown hK.1 hP 0 rfl rfl 7 (by decide) f_28 (fun _ h9 => h9) rfl dX0_heightAfter_8 ?_
  refine lv_iload_n hx hb dX0_heightAfter_11 rfl (lv_at hl 2 rfl) ?_
  refine zr_iald hx hb hK.1 hP 3 0 rfl rfl B (g 3 B) (by omega) (by omega) (Nat.le_of_ble_eq_true rfl) rfl dX0_heightAfter_12 ?_
  refine zr_iadd hx hb dX0_heightAfter_13 ?_
  refine lv_iload hx hb dX0_heightAfter_14 (lv_at hl 4 rfl) ?_
  refine rd_callN (host := RX1) (As := [.int (zI st), .int (zI (g 3 A + g 3 B)), .int (zI d)]) (rest := []) ⟨hx, hb, hml, hown, hts⟩ (c_X1_share l dC dI cI cZ cS st (g 3 A + g 3 B) d (by omega) (by omega) (by omega)) ⟨va_cnB 3 hts gX0_heightAfter_X1_share_n128 rfl rfl rfl (hK.2.1 _ (nw_at 13 rfl)) (hts (.initialized RX1) (by decide +kernel)) (by decide +kernel) ⟨Nat.le_of_ble_eq_true rfl, Nat.le_of_ble_eq_true rfl⟩, hts (.static yX1_share) (by decide +kernel), trivial⟩ va_P_nil hK rfl hl.1 rfl (Nat.le_of_ble_eq_true rfl) dX0_heightAfter_16 ⟨Nat.zero_le _, Nat.zero_le _⟩ ?_
  refine lv_lstore (lv' := [(5, .long (zL (if d = 0 then 0 else (st * (g 3 A + g 3 B)).tdiv d))), (0, .ref (a 0)), (1, .int (zI (A : Int))), (2, .int (zI (B : Int))), (3, .int (zI st)), (4, .int (zI d))]) hx hb dX0_heightAfter_19 hl (by decide) rfl (fun ls hl => ?_)
  refine lv_aload_n hx hb dX0_heightAfter_21 rfl (lv_at hl 1 rfl) ?_
  refine va_get (D := (dC, dI)) (ci := 0) (v := .ref (a 3)) (C := RX0) (T := TX0) (N := 11) hx hb hts hinX0 hown hK.1 hP 0 rfl rfl 7 (by decide) f_28 (fun _ h9 => h9) rfl dX0_heightAfter_22 ?_
  refine lv_iload_n hx hb dX0_heightAfter_25 rfl (lv_at hl 2 rfl) ?_
  refine zr_iald hx hb hK.1 hP 3 0 rfl rfl A (g 3 A) (by omega) (by omega) (Nat.le_of_ble_eq_true rfl) rfl dX0_heightAfter_26 ?_
  refine zr_i2l hx hb (by omega) dX0_heightAfter_27 ?_
  refine lv_lload hx hb dX0_heightAfter_28 (lv_at hl 0 rfl) ?_
  refine zr_ladd hx hb dX0_heightAfter_30 ?_
  refine zr_iconst hx hb dX0_heightAfter_31 ?_
  refine zr_ldc hx hb (100000) hown k_133 (by decide) dX0_heightAfter_32 ?_
  refine rd_callN (host := RX1) (As := [.long (zL (g 3 A + (if d = 0 then 0 else (st * (g 3 A + g 3 B)).tdiv d))), .int (zI 0), .int (zI 100000)]) (rest := []) ⟨hx, hb, hml, hown, hts⟩ (c_X1_limited l dC dI cI cZ cS (g 3 A + (if d = 0 then 0 else (st * (g 3 A + g 3 B)).tdiv d)) 0 100000 (by omega) (by omega) (by omega) (by omega)) ⟨va_cnB 3 hts gX0_heightAfter_X1_limited_n124 rfl rfl rfl (hK.2.1 _ (nw_at 12 rfl)) (hts (.initialized RX1) (by decide +kernel)) (by decide +kernel) ⟨Nat.le_of_ble_eq_true rfl, Nat.le_of_ble_eq_true rfl⟩, hts (.static yX1_limited) (by decide +kernel), trivial⟩ va_P_nil hK rfl hl.1 rfl (Nat.le_of_ble_eq_true rfl) dX0_heightAfter_34 ⟨Nat.zero_le _, Nat.zero_le _⟩ ?_
  exact rd_iret hx hb hr hlocks rfl dX0_heightAfter_37
set_option maxHeartbeats 4000000 in
set_option maxRecDepth 100000 in
/-- distanceMoved -/
theorem c_X0_distanceMoved (l : Launch) (dC : Nat → ClassId) (dI : Nat → Nat → Nat) (cI cZ cS : ClassId) (a : Nat → Nat) (g : Nat → Nat → Int) (r : Int) (hg : gB g r) (A B : Nat) (hA : A < 10) (hB : B < 10) : Met l yX0_distanceMoved wsX0_distanceMoved ({ frames := 3, cells := 0, slots := 0, locals := 89 } : Room) (rd_Pc dC dI cI cZ cS (stw cI a g) [.ref (a 0), .int (zI (A : Int)), .int (zI (B : Int))]) (rd_Qc (some (.int (zI (sMov g A B))))) 0 0 nf := by
  refine rd_met (cc := cX0_distanceMoved) (maxL := 5) (ret := (some .int)) (by decide) rfl (Nat.le_of_ble_eq_true rfl) ?_
  intro p e s m below meth c ls hx hb hml hr hlocks hts hown hP hK hl
  have hl : lv_has ls 5 [(0, .ref (a 0)), (1, .int (zI (A : Int))), (2, .int (zI (B : Int)))] := hl
  have hinX0 : ∀ w ∈ u_ws RX0 TX0 11, w ∈ wsX0_distanceMoved := by decide +kernel
  have f_21 := hts (.fieldLink RX0 21 "NetworkCoordinates$State" "xs" "[I") (by decide +kernel)
  have f_25 := hts (.fieldLink RX0 25 "NetworkCoordinates$State" "ys" "[I") (by decide +kernel)
  have b0 := hg.1
  have bA := hg.2.1 A hA
  have bB := hg.2.1 B hB
  have s1 := sPrd_bd hg hA hB
  have s2 := sStp_bd hg hA hB s1
  have s3 := sLim_bd (v := g 1 A + (if sPrd g A B = 0 then sStp g A B (sPrd g A B) else (sStp g A B (sPrd g A B) * (g 1 A - g 1 B)).tdiv (sPrd g A B))) (lo := -100000) (hi := 100000) (by omega)
  have s3 : -100000 ≤ sX g A B (sStp g A B (sPrd g A B)) (sPrd g A B) ∧ sX g A B (sStp g A B (sPrd g A B)) (sPrd g A B) ≤ 100000 := s3
  have s4 := sLim_bd (v := g 2 A + (if sPrd g A B = 0 then 0 else (sStp g A B (sPrd g A B) * (g 2 A - g 2 B)).tdiv (sPrd g A B))) (lo := -100000) (hi := 100000) (by omega)
  have s4 : -100000 ≤ sY g A B (sStp g A B (sPrd g A B)) (sPrd g A B) ∧ sY g A B (sStp g A B (sPrd g A B)) (sPrd g A B) ≤ 100000 := s4
  refine lv_aload_n hx hb dX0_distanceMoved_0 rfl (lv_at hl 0 rfl) ?_
  refine lv_iload_n hx hb dX0_distanceMoved_1 rfl (lv_at hl 1 rfl) ?_
  refine lv_iload_n hx hb dX0_distanceMoved_2 rfl (lv_at hl 2 rfl) ?_
  refine rd_callV (As := [.int (zI (A : Int)), .int (zI (B : Int))]) (rest := []) ⟨hx, hb, hml, hown, hts⟩ (c_X0_predicted l dC dI cI cZ cS a g r hg A B (by omega) (by omega)) (cwV 2 hts gX0_distanceMoved_X0_predicted rfl rfl rfl (by decide +kernel) ⟨Nat.le_of_ble_eq_true rfl, Nat.le_of_ble_eq_true rfl⟩) hP hK 0 rfl rfl rfl hl.1 rfl (Nat.le_of_ble_eq_true rfl) dX0_distanceMoved_3 ⟨Nat.zero_le _, Nat.zero_le _⟩ ?_
  refine lv_istore_n (lv' := [(3, .int (zI (sPrd g A B))), (0, .ref (a 0)), (1, .int (zI (A : Int))), (2, .int (zI (B : Int)))]) hx hb dX0_distanceMoved_6 rfl hl (by decide) rfl (fun ls hl => ?_)
  refine lv_aload_n hx hb dX0_distanceMoved_7 rfl (lv_at hl 1 rfl) ?_
  refine lv_iload_n hx hb dX0_distanceMoved_8 rfl (lv_at hl 2 rfl) ?_
  refine lv_iload_n hx hb dX0_distanceMoved_9 rfl (lv_at hl 3 rfl) ?_
  refine lv_iload_n hx hb dX0_distanceMoved_10 rfl (lv_at hl 0 rfl) ?_
  refine rd_callV (As := [.int (zI (A : Int)), .int (zI (B : Int)), .int (zI (sPrd g A B))]) (rest := []) ⟨hx, hb, hml, hown, hts⟩ (c_X0_stepOf l dC dI cI cZ cS a g r hg A B (by omega) (by omega) (sPrd g A B) (by omega)) (cwV 3 hts gX0_distanceMoved_X0_stepOf rfl rfl rfl (by decide +kernel) ⟨Nat.le_of_ble_eq_true rfl, Nat.le_of_ble_eq_true rfl⟩) hP hK 0 rfl rfl rfl hl.1 rfl (Nat.le_of_ble_eq_true rfl) dX0_distanceMoved_11 ⟨Nat.zero_le _, Nat.zero_le _⟩ ?_
  refine lv_istore (lv' := [(4, .int (zI (sStp g A B (sPrd g A B)))), (3, .int (zI (sPrd g A B))), (0, .ref (a 0)), (1, .int (zI (A : Int))), (2, .int (zI (B : Int)))]) hx hb dX0_distanceMoved_14 hl (by decide) rfl (fun ls hl => ?_)
  refine lv_aload_n hx hb dX0_distanceMoved_16 rfl (lv_at hl 2 rfl) ?_
  refine lv_iload_n hx hb dX0_distanceMoved_17 rfl (lv_at hl 3 rfl) ?_
  refine lv_iload_n hx hb dX0_distanceMoved_18 rfl (lv_at hl 4 rfl) ?_
  refine lv_iload hx hb dX0_distanceMoved_19 (lv_at hl 0 rfl) ?_
  refine lv_iload_n hx hb dX0_distanceMoved_21 rfl (lv_at hl 1 rfl) ?_
  refine rd_callV (As := [.int (zI (A : Int)), .int (zI (B : Int)), .int (zI (sStp g A B (sPrd g A B))), .int (zI (sPrd g A B))]) (rest := []) ⟨hx, hb, hml, hown, hts⟩ (c_X0_xAfter l dC dI cI cZ cS a g r hg A B (by omega) (by omega) (sStp g A B (sPrd g A B)) (sPrd g A B) (by omega) (by omega)) (cwV 4 hts gX0_distanceMoved_X0_xAfter rfl rfl rfl (by decide +kernel) ⟨Nat.le_of_ble_eq_true rfl, Nat.le_of_ble_eq_true rfl⟩) hP hK 0 rfl rfl rfl hl.1 rfl (Nat.le_of_ble_eq_true rfl) dX0_distanceMoved_22 ⟨Nat.zero_le _, Nat.zero_le _⟩ ?_
  refine lv_aload_n hx hb dX0_distanceMoved_25 rfl (lv_at hl 2 rfl) ?_
  refine va_get (D := (dC, dI)) (ci := 0) (v := .ref (a 1)) (C := RX0) (T := TX0) (N := 11) hx hb hts hinX0 hown hK.1 hP 0 rfl rfl 5 (by decide) f_21 (fun _ h9 => h9) rfl dX0_distanceMoved_26 ?_
  refine lv_iload_n hx hb dX0_distanceMoved_29 rfl (lv_at hl 3 rfl) ?_
  refine zr_iald hx hb hK.1 hP 1 0 rfl rfl A (g 1 A) (by omega) (by omega) (Nat.le_of_ble_eq_true rfl) rfl dX0_distanceMoved_30 ?_
  refine zr_isub hx hb dX0_distanceMoved_31 ?_
  refine zr_i2l hx hb (by omega) dX0_distanceMoved_32 ?_
  refine lv_aload_n hx hb dX0_distanceMoved_33 rfl (lv_at hl 2 rfl) ?_
  refine lv_iload_n hx hb dX0_distanceMoved_34 rfl (lv_at hl 3 rfl) ?_
  refine lv_iload_n hx hb dX0_distanceMoved_35 rfl (lv_at hl 4 rfl) ?_
  refine lv_iload hx hb dX0_distanceMoved_36 (lv_at hl 0 rfl) ?_
  refine lv_iload_n hx hb dX0_distanceMoved_38 rfl (lv_at hl 1 rfl) ?_
  refine rd_callV (As := [.int (zI (A : Int)), .int (zI (B : Int)), .int (zI (sStp g A B (sPrd g A B))), .int (zI (sPrd g A B))]) (rest := [.long (zL ((sX g A B (sStp g A B (sPrd g A B)) (sPrd g A B)) - g 1 A))]) ⟨hx, hb, hml, hown, hts⟩ (c_X0_yAfter l dC dI cI cZ cS a g r hg A B (by omega) (by omega) (sStp g A B (sPrd g A B)) (sPrd g A B) (by omega) (by omega)) (cwV 4 hts gX0_distanceMoved_X0_yAfter rfl rfl rfl (by decide +kernel) ⟨Nat.le_of_ble_eq_true rfl, Nat.le_of_ble_eq_true rfl⟩) hP hK 0 rfl rfl rfl hl.1 rfl (Nat.le_of_ble_eq_true rfl) dX0_distanceMoved_39 ⟨Nat.zero_le _, Nat.zero_le _⟩ ?_
  refine lv_aload_n hx hb dX0_distanceMoved_42 rfl (lv_at hl 2 rfl) ?_
  refine va_get (D := (dC, dI)) (ci := 0) (v := .ref (a 2)) (C := RX0) (T := TX0) (N := 11) hx hb hts hinX0 hown hK.1 hP 0 rfl rfl 6 (by decide) f_25 (fun _ h9 => h9) rfl dX0_distanceMoved_43 ?_
  refine lv_iload_n hx hb dX0_distanceMoved_46 rfl (lv_at hl 3 rfl) ?_
  refine zr_iald hx hb hK.1 hP 2 0 rfl rfl A (g 2 A) (by omega) (by omega) (Nat.le_of_ble_eq_true rfl) rfl dX0_distanceMoved_47 ?_
  refine zr_isub hx hb dX0_distanceMoved_48 ?_
  refine zr_i2l hx hb (by omega) dX0_distanceMoved_49 ?_
  refine rd_callN (host := RX1) (As := [.long (zL ((sX g A B (sStp g A B (sPrd g A B)) (sPrd g A B)) - g 1 A)), .long (zL ((sY g A B (sStp g A B (sPrd g A B)) (sPrd g A B)) - g 2 A))]) (rest := []) ⟨hx, hb, hml, hown, hts⟩ (c_X1_planarDistance l dC dI cI cZ cS ((sX g A B (sStp g A B (sPrd g A B)) (sPrd g A B)) - g 1 A) ((sY g A B (sStp g A B (sPrd g A B)) (sPrd g A B)) - g 2 A) (by omega) (by omega)) ⟨va_cnB 2 hts gX0_distanceMoved_X1_planarDistance_n64 rfl rfl rfl (hK.2.1 _ (nw_at 10 rfl)) (hts (.initialized RX1) (by decide +kernel)) (by decide +kernel) ⟨Nat.le_of_ble_eq_true rfl, Nat.le_of_ble_eq_true rfl⟩, hts (.static yX1_planarDistance) (by decide +kernel), trivial⟩ va_P_nil hK rfl hl.1 rfl (Nat.le_of_ble_eq_true rfl) dX0_distanceMoved_50 ⟨Nat.zero_le _, Nat.zero_le _⟩ ?_
  exact rd_iret hx hb hr hlocks rfl dX0_distanceMoved_53
set_option maxHeartbeats 4000000 in
set_option maxRecDepth 100000 in
/-- relative -/
theorem c_X0_relative (l : Launch) (dC : Nat → ClassId) (dI : Nat → Nat → Nat) (cI cZ cS : ClassId) (a : Nat → Nat) (g : Nat → Nat → Int) (r : Int) (hg : gB g r) (A B : Nat) (hA : A < 10) (hB : B < 10) (hk : 1 ≤ g 6 (10 * A + B)) : Met l yX0_relative wsX0_relative ({ frames := 3, cells := 0, slots := 0, locals := 71 } : Room) (rd_Pc dC dI cI cZ cS (stw cI a g) [.ref (a 0), .int (zI (A : Int)), .int (zI (B : Int))]) (rd_Qc (some (.int (zI (sRel g A B))))) 0 0 nf := by
  refine rd_met (cc := cX0_relative) (maxL := 4) (ret := (some .int)) (by decide) rfl (Nat.le_of_ble_eq_true rfl) ?_
  intro p e s m below meth c ls hx hb hml hr hlocks hts hown hP hK hl
  have hl : lv_has ls 4 [(0, .ref (a 0)), (1, .int (zI (A : Int))), (2, .int (zI (B : Int)))] := hl
  have k_101 := hts (.constantLong RX0 101 (1000)) (by decide +kernel)
  have b0 := hg.1
  have bA := hg.2.1 A hA
  have bB := hg.2.1 B hB
  have kAB := hg.2.2 A B hA hB
  have s1 := sPrd_bd hg hA hB
  have s2 := sAbs_bd (z := sPrd g A B - g 6 (10 * A + B)) (A := 482842) (by omega)
  refine lv_aload_n hx hb dX0_relative_0 rfl (lv_at hl 0 rfl) ?_
  refine lv_iload_n hx hb dX0_relative_1 rfl (lv_at hl 1 rfl) ?_
  refine lv_iload_n hx hb dX0_relative_2 rfl (lv_at hl 2 rfl) ?_
  refine rd_callV (As := [.int (zI (A : Int)), .int (zI (B : Int))]) (rest := []) ⟨hx, hb, hml, hown, hts⟩ (c_X0_rttOf l dC dI cI cZ cS a g r hg A B (by omega) (by omega)) (cwV 2 hts gX0_relative_X0_rttOf rfl rfl rfl (by decide +kernel) ⟨Nat.le_of_ble_eq_true rfl, Nat.le_of_ble_eq_true rfl⟩) hP hK 0 rfl rfl rfl hl.1 rfl (Nat.le_of_ble_eq_true rfl) dX0_relative_3 ⟨Nat.zero_le _, Nat.zero_le _⟩ ?_
  refine lv_istore_n (lv' := [(3, .int (zI (g 6 (10 * A + B)))), (0, .ref (a 0)), (1, .int (zI (A : Int))), (2, .int (zI (B : Int)))]) hx hb dX0_relative_6 rfl hl (by decide) rfl (fun ls hl => ?_)
  refine zr_ldc2 hx hb (1000) hown k_101 (by decide) dX0_relative_7 ?_
  refine lv_aload_n hx hb dX0_relative_10 rfl (lv_at hl 1 rfl) ?_
  refine lv_iload_n hx hb dX0_relative_11 rfl (lv_at hl 2 rfl) ?_
  refine lv_iload_n hx hb dX0_relative_12 rfl (lv_at hl 3 rfl) ?_
  refine rd_callV (As := [.int (zI (A : Int)), .int (zI (B : Int))]) (rest := [.long (zL 1000)]) ⟨hx, hb, hml, hown, hts⟩ (c_X0_predicted l dC dI cI cZ cS a g r hg A B (by omega) (by omega)) (cwV 2 hts gX0_relative_X0_predicted rfl rfl rfl (by decide +kernel) ⟨Nat.le_of_ble_eq_true rfl, Nat.le_of_ble_eq_true rfl⟩) hP hK 0 rfl rfl rfl hl.1 rfl (Nat.le_of_ble_eq_true rfl) dX0_relative_13 ⟨Nat.zero_le _, Nat.zero_le _⟩ ?_
  refine lv_iload_n hx hb dX0_relative_16 rfl (lv_at hl 0 rfl) ?_
  refine zr_isub hx hb dX0_relative_17 ?_
  refine va_mabs hx hb (hml.trans hl.1.symm) hown (hts (.methodLink RX0 110 Lib.Math.abs.name) (by decide +kernel)) (hts (.static Lib.Math.abs.name) (by decide +kernel)) (hts (.initialized "java/lang/Math") (by decide +kernel)) (hts (.code Lib.Math.abs.name Lib.Math.abs.code 1 (some .int)) (by decide +kernel)) (Nat.le_of_ble_eq_true rfl) (Nat.le_of_ble_eq_true rfl) (Nat.zero_le _) (Nat.zero_le _) dX0_relative_18 ?_
  rw [zm_abs (by omega)]
  refine zr_i2l hx hb (by omega) dX0_relative_21 ?_
  refine zr_lmul hx hb dX0_relative_22 ?_
  refine lv_iload_n hx hb dX0_relative_23 rfl (lv_at hl 0 rfl) ?_
  refine zr_i2l hx hb (by omega) dX0_relative_24 ?_
  refine rd_callN (host := RX1) (As := [.long (zL (1000 * (sAbs ((sPrd g A B) - (g 6 (10 * A + B)))))), .long (zL (g 6 (10 * A + B)))]) (rest := []) ⟨hx, hb, hml, hown, hts⟩ (c_X1_quotient l dC dI cI cZ cS (1000 * (sAbs ((sPrd g A B) - (g 6 (10 * A + B))))) (g 6 (10 * A + B)) (by omega) (by omega)) ⟨va_cnB 2 hts gX0_relative_X1_quotient_n103 rfl rfl rfl (hK.2.1 _ (nw_at 11 rfl)) (hts (.initialized RX1) (by decide +kernel)) (by decide +kernel) ⟨Nat.le_of_ble_eq_true rfl, Nat.le_of_ble_eq_true rfl⟩, hts (.static yX1_quotient) (by decide +kernel), trivial⟩ va_P_nil hK rfl hl.1 rfl (Nat.le_of_ble_eq_true rfl) dX0_relative_25 ⟨Nat.zero_le _, Nat.zero_le _⟩ ?_
  refine zr_l2i hx hb dX0_relative_28 ?_
  exact rd_iret hx hb hr hlocks rfl dX0_relative_29
set_option maxHeartbeats 4000000 in
set_option maxRecDepth 100000 in
/-- rankOf -/
theorem c_X0_rankOf (l : Launch) (dC : Nat → ClassId) (dI : Nat → Nat → Nat) (cI cZ cS : ClassId) (a : Nat → Nat) (g : Nat → Nat → Int) (r : Int) (hg : gB g r) (A B : Nat) (hA : A < 10) (hB : B < 10) : Met l yX0_rankOf wsX0_rankOf ({ frames := 3, cells := 0, slots := 0, locals := 71 } : Room) (rd_Pc dC dI cI cZ cS (stw cI a g) [.ref (a 0), .int (zI (A : Int)), .int (zI (B : Int))]) (rd_Qc (some (.int (zI (sRk g A B (gN g)))))) 0 0 nf := by
  refine rd_met (cc := cX0_rankOf) (maxL := 7) (ret := (some .int)) (by decide) rfl (Nat.le_of_ble_eq_true rfl) ?_
  intro p e s m below meth c ls hx hb hml hr hlocks hts hown hP hK hl
  have hl : lv_has ls 7 [(0, .ref (a 0)), (1, .int (zI (A : Int))), (2, .int (zI (B : Int)))] := hl
  have hinX0 : ∀ w ∈ u_ws RX0 TX0 11, w ∈ wsX0_rankOf := by decide +kernel
  have f_44 := hts (.fieldLink RX0 44 "NetworkCoordinates$State" "nodes" "I") (by decide +kernel)
  have b0 := hg.1
  have bA := hg.2.1 A hA
  have bB := hg.2.1 B hB
  have hN := gN_eq hg
  have s1 := sPrd_bd hg hA hB
  refine lv_aload_n hx hb dX0_rankOf_0 rfl (lv_at hl 0 rfl) ?_
  refine lv_iload_n hx hb dX0_rankOf_1 rfl (lv_at hl 1 rfl) ?_
  refine lv_iload_n hx hb dX0_rankOf_2 rfl (lv_at hl 2 rfl) ?_
  refine rd_callV (As := [.int (zI (A : Int)), .int (zI (B : Int))]) (rest := []) ⟨hx, hb, hml, hown, hts⟩ (c_X0_predicted l dC dI cI cZ cS a g r hg A B (by omega) (by omega)) (cwV 2 hts gX0_rankOf_X0_predicted rfl rfl rfl (by decide +kernel) ⟨Nat.le_of_ble_eq_true rfl, Nat.le_of_ble_eq_true rfl⟩) hP hK 0 rfl rfl rfl hl.1 rfl (Nat.le_of_ble_eq_true rfl) dX0_rankOf_3 ⟨Nat.zero_le _, Nat.zero_le _⟩ ?_
  refine lv_istore_n (lv' := [(3, .int (zI (sPrd g A B))), (0, .ref (a 0)), (1, .int (zI (A : Int))), (2, .int (zI (B : Int)))]) hx hb dX0_rankOf_6 rfl hl (by decide) rfl (fun ls hl => ?_)
  refine zr_iconst hx hb dX0_rankOf_7 ?_
  refine lv_istore (lv' := [(4, .int (zI 0)), (3, .int (zI (sPrd g A B))), (0, .ref (a 0)), (1, .int (zI (A : Int))), (2, .int (zI (B : Int)))]) hx hb dX0_rankOf_8 hl (by decide) rfl (fun ls hl => ?_)
  refine zr_iconst hx hb dX0_rankOf_10 ?_
  refine lv_istore (lv' := [(5, .int (zI 0)), (4, .int (zI 0)), (3, .int (zI (sPrd g A B))), (0, .ref (a 0)), (1, .int (zI (A : Int))), (2, .int (zI (B : Int)))]) hx hb dX0_rankOf_11 hl (by decide) rfl (fun ls hl => ?_)
  have loop : ∀ (k_loop i : Nat), i + k_loop = gN g → ∀ ls : Array Slot, lv_has ls 7 [(5, .int (zI (i : Int))), (4, .int (zI (sRk g A B i))), (3, .int (zI (sPrd g A B))), (0, .ref (a 0)), (1, .int (zI (A : Int))), (2, .int (zI (B : Int)))] → W p l e ({ frames := 3, cells := 0, slots := 0, locals := 71 } : Room) s m [.ref (a 0), .int (zI (A : Int)), .int (zI (B : Int))].toArray below meth c s.heap [] 0 0 (MQ below (rd_Qc (some (.int (zI (sRk g A B (gN g)))))) [.ref (a 0), .int (zI (A : Int)), .int (zI (B : Int))].toArray s 0 0 nf) (F0 m 13 ls []) := by
    intro k_loop
    induction k_loop with
    | zero =>
      intro i hi ls hl
      refine lv_iload hx hb dX0_rankOf_13 (lv_at hl 0 rfl) ?_
      refine lv_aload_n hx hb dX0_rankOf_15 rfl (lv_at hl 3 rfl) ?_
      refine va_get (D := (dC, dI)) (ci := 0) (v := .int (zI (g 0 0))) (C := RX0) (T := TX0) (N := 11) hx hb hts hinX0 hown hK.1 hP 0 rfl rfl 0 (by decide) f_44 (fun _ h9 => h9) rfl dX0_rankOf_16 ?_
      refine zr_icmp_ge (tgt := 70) hx hb dX0_rankOf_19 (by decide) (by omega) (by omega) (fun c_19 => ?_) (fun c_19 => absurd c_19 (by omega))
      refine lv_iload hx hb dX0_rankOf_70 (lv_at hl 1 rfl) ?_
      exact rd_iret hx hb hr hlocks (by rw [show i = gN g by omega]) dX0_rankOf_72
    | succ k_loop ih_loop =>
      intro i hi ls hl
      have s2 := sPrd_bd (b := i) hg hA (by omega)
      refine lv_iload hx hb dX0_rankOf_13 (lv_at hl 0 rfl) ?_
      refine lv_aload_n hx hb dX0_rankOf_15 rfl (lv_at hl 3 rfl) ?_
      refine va_get (D := (dC, dI)) (ci := 0) (v := .int (zI (g 0 0))) (C := RX0) (T := TX0) (N := 11) hx hb hts hinX0 hown hK.1 hP 0 rfl rfl 0 (by decide) f_44 (fun _ h9 => h9) rfl dX0_rankOf_16 ?_
      refine zr_icmp_ge (tgt := 70) hx hb dX0_rankOf_19 (by decide) (by omega) (by omega) (fun c_19 => absurd c_19 (by omega)) (fun c_19 => ?_)
      refine lv_iload hx hb dX0_rankOf_22 (lv_at hl 0 rfl) ?_
      refine lv_iload_n hx hb dX0_rankOf_24 rfl (lv_at hl 4 rfl) ?_
      refine zr_icmp_eq (tgt := 64) hx hb dX0_rankOf_25 (by decide) (by omega) (by omega) (fun c_25 => ?_) (fun c_25 => ?_)
      · have hl : lv_has ls 7 [(5, .int (zI (i : Int))), (4, .int (zI (sRk g A B (i + 1)))), (3, .int (zI (sPrd g A B))), (0, .ref (a 0)), (1, .int (zI (A : Int))), (2, .int (zI (B : Int)))] := by rw [show sRk g A B (i + 1) = sRk g A B i from (by unfold sRk; rw [sm_succ, if_neg (by omega)]; omega)]; exact hl
        refine zr_iinc (b := ((i + 1 : Nat) : Int)) (lv' := [(5, .int (zI ((i + 1 : Nat) : Int))), (4, .int (zI (sRk g A B (i + 1)))), (3, .int (zI (sPrd g A B))), (0, .ref (a 0)), (1, .int (zI (A : Int))), (2, .int (zI (B : Int)))]) hx hb dX0_rankOf_64 hl (k := 0) rfl (by omega) (by decide) rfl (fun ls hl => ?_)
        refine lv_goto (tgt := 13) hx hb dX0_rankOf_67 (by decide) ?_
        exact ih_loop (i + 1) (by omega) ls (lv_sub hl [0, 1, 2, 3, 4, 5] rfl)
      · refine lv_iload hx hb dX0_rankOf_28 (lv_at hl 0 rfl) ?_
        refine lv_iload_n hx hb dX0_rankOf_30 rfl (lv_at hl 5 rfl) ?_
        refine zr_icmp_eq (tgt := 64) hx hb dX0_rankOf_31 (by decide) (by omega) (by omega) (fun c_31 => ?_) (fun c_31 => ?_)
        · have hl : lv_has ls 7 [(5, .int (zI (i : Int))), (4, .int (zI (sRk g A B (i + 1)))), (3, .int (zI (sPrd g A B))), (0, .ref (a 0)), (1, .int (zI (A : Int))), (2, .int (zI (B : Int)))] := by rw [show sRk g A B (i + 1) = sRk g A B i from (by unfold sRk; rw [sm_succ, if_neg (by omega)]; omega)]; exact hl
          refine zr_iinc (b := ((i + 1 : Nat) : Int)) (lv' := [(5, .int (zI ((i + 1 : Nat) : Int))), (4, .int (zI (sRk g A B (i + 1)))), (3, .int (zI (sPrd g A B))), (0, .ref (a 0)), (1, .int (zI (A : Int))), (2, .int (zI (B : Int)))]) hx hb dX0_rankOf_64 hl (k := 0) rfl (by omega) (by decide) rfl (fun ls hl => ?_)
          refine lv_goto (tgt := 13) hx hb dX0_rankOf_67 (by decide) ?_
          exact ih_loop (i + 1) (by omega) ls (lv_sub hl [0, 1, 2, 3, 4, 5] rfl)
        · refine lv_aload_n hx hb dX0_rankOf_34 rfl (lv_at hl 3 rfl) ?_
          refine lv_iload_n hx hb dX0_rankOf_35 rfl (lv_at hl 4 rfl) ?_
          refine lv_iload hx hb dX0_rankOf_36 (lv_at hl 0 rfl) ?_
          refine rd_callV (As := [.int (zI (A : Int)), .int (zI (i : Int))]) (rest := []) ⟨hx, hb, hml, hown, hts⟩ (c_X0_predicted l dC dI cI cZ cS a g r hg A i (by omega) (by omega)) (cwV 2 hts gX0_rankOf_X0_predicted rfl rfl rfl (by decide +kernel) ⟨Nat.le_of_ble_eq_true rfl, Nat.le_of_ble_eq_true rfl⟩) hP hK 0 rfl rfl rfl hl.1 rfl (Nat.le_of_ble_eq_true rfl) dX0_rankOf_38 ⟨Nat.zero_le _, Nat.zero_le _⟩ ?_
          refine lv_istore (lv' := [(6, .int (zI (sPrd g A i))), (5, .int (zI (i : Int))), (4, .int (zI (sRk g A B i))), (3, .int (zI (sPrd g A B))), (0, .ref (a 0)), (1, .int (zI (A : Int))), (2, .int (zI (B : Int)))]) hx hb dX0_rankOf_41 hl (by decide) rfl (fun ls hl => ?_)
          refine lv_iload hx hb dX0_rankOf_43 (lv_at hl 0 rfl) ?_
          refine lv_iload_n hx hb dX0_rankOf_45 rfl (lv_at hl 3 rfl) ?_
          refine zr_icmp_lt (tgt := 61) hx hb dX0_rankOf_46 (by decide) (by omega) (by omega) (fun c_46 => ?_) (fun c_46 => ?_)
          · refine zr_iinc (b := (sRk g A B (i + 1))) (lv' := [(4, .int (zI (sRk g A B (i + 1)))), (6, .int (zI (sPrd g A i))), (5, .int (zI (i : Int))), (3, .int (zI (sPrd g A B))), (0, .ref (a 0)), (1, .int (zI (A : Int))), (2, .int (zI (B : Int)))]) hx hb dX0_rankOf_61 hl (k := 2) rfl (by unfold sRk; rw [sm_succ, if_pos (by omega)]) (by decide) rfl (fun ls hl => ?_)
            refine zr_iinc (b := ((i + 1 : Nat) : Int)) (lv' := [(5, .int (zI ((i + 1 : Nat) : Int))), (4, .int (zI (sRk g A B (i + 1)))), (6, .int (zI (sPrd g A i))), (3, .int (zI (sPrd g A B))), (0, .ref (a 0)), (1, .int (zI (A : Int))), (2, .int (zI (B : Int)))]) hx hb dX0_rankOf_64 hl (k := 2) rfl (by omega) (by decide) rfl (fun ls hl => ?_)
            refine lv_goto (tgt := 13) hx hb dX0_rankOf_67 (by decide) ?_
            exact ih_loop (i + 1) (by omega) ls (lv_sub hl [0, 1, 3, 4, 5, 6] rfl)
          · refine lv_iload hx hb dX0_rankOf_49 (lv_at hl 0 rfl) ?_
            refine lv_iload_n hx hb dX0_rankOf_51 rfl (lv_at hl 3 rfl) ?_
            refine zr_icmp_ne (tgt := 64) hx hb dX0_rankOf_52 (by decide) (by omega) (by omega) (fun c_52 => ?_) (fun c_52 => ?_)
            · have hl : lv_has ls 7 [(6, .int (zI (sPrd g A i))), (5, .int (zI (i : Int))), (4, .int (zI (sRk g A B (i + 1)))), (3, .int (zI (sPrd g A B))), (0, .ref (a 0)), (1, .int (zI (A : Int))), (2, .int (zI (B : Int)))] := by rw [show sRk g A B (i + 1) = sRk g A B i from (by unfold sRk; rw [sm_succ, if_neg (by omega)]; omega)]; exact hl
              refine zr_iinc (b := ((i + 1 : Nat) : Int)) (lv' := [(5, .int (zI ((i + 1 : Nat) : Int))), (6, .int (zI (sPrd g A i))), (4, .int (zI (sRk g A B (i + 1)))), (3, .int (zI (sPrd g A B))), (0, .ref (a 0)), (1, .int (zI (A : Int))), (2, .int (zI (B : Int)))]) hx hb dX0_rankOf_64 hl (k := 1) rfl (by omega) (by decide) rfl (fun ls hl => ?_)
              refine lv_goto (tgt := 13) hx hb dX0_rankOf_67 (by decide) ?_
              exact ih_loop (i + 1) (by omega) ls (lv_sub hl [0, 2, 3, 4, 5, 6] rfl)
            · refine lv_iload hx hb dX0_rankOf_55 (lv_at hl 1 rfl) ?_
              refine lv_iload_n hx hb dX0_rankOf_57 rfl (lv_at hl 6 rfl) ?_
              refine zr_icmp_ge (tgt := 64) hx hb dX0_rankOf_58 (by decide) (by omega) (by omega) (fun c_58 => ?_) (fun c_58 => ?_)
              · have hl : lv_has ls 7 [(6, .int (zI (sPrd g A i))), (5, .int (zI (i : Int))), (4, .int (zI (sRk g A B (i + 1)))), (3, .int (zI (sPrd g A B))), (0, .ref (a 0)), (1, .int (zI (A : Int))), (2, .int (zI (B : Int)))] := by rw [show sRk g A B (i + 1) = sRk g A B i from (by unfold sRk; rw [sm_succ, if_neg (by omega)]; omega)]; exact hl
                refine zr_iinc (b := ((i + 1 : Nat) : Int)) (lv' := [(5, .int (zI ((i + 1 : Nat) : Int))), (6, .int (zI (sPrd g A i))), (4, .int (zI (sRk g A B (i + 1)))), (3, .int (zI (sPrd g A B))), (0, .ref (a 0)), (1, .int (zI (A : Int))), (2, .int (zI (B : Int)))]) hx hb dX0_rankOf_64 hl (k := 1) rfl (by omega) (by decide) rfl (fun ls hl => ?_)
                refine lv_goto (tgt := 13) hx hb dX0_rankOf_67 (by decide) ?_
                exact ih_loop (i + 1) (by omega) ls (lv_sub hl [0, 2, 3, 4, 5, 6] rfl)
              · refine zr_iinc (b := (sRk g A B (i + 1))) (lv' := [(4, .int (zI (sRk g A B (i + 1)))), (6, .int (zI (sPrd g A i))), (5, .int (zI (i : Int))), (3, .int (zI (sPrd g A B))), (0, .ref (a 0)), (1, .int (zI (A : Int))), (2, .int (zI (B : Int)))]) hx hb dX0_rankOf_61 hl (k := 2) rfl (by unfold sRk; rw [sm_succ, if_pos (by omega)]) (by decide) rfl (fun ls hl => ?_)
                refine zr_iinc (b := ((i + 1 : Nat) : Int)) (lv' := [(5, .int (zI ((i + 1 : Nat) : Int))), (4, .int (zI (sRk g A B (i + 1)))), (6, .int (zI (sPrd g A i))), (3, .int (zI (sPrd g A B))), (0, .ref (a 0)), (1, .int (zI (A : Int))), (2, .int (zI (B : Int)))]) hx hb dX0_rankOf_64 hl (k := 2) rfl (by omega) (by decide) rfl (fun ls hl => ?_)
                refine lv_goto (tgt := 13) hx hb dX0_rankOf_67 (by decide) ?_
                exact ih_loop (i + 1) (by omega) ls (lv_sub hl [0, 1, 3, 4, 5, 6] rfl)
  exact loop (gN g) 0 (by omega) ls (lv_sub hl [0, 1, 2, 3, 4, 5] rfl)
set_option maxHeartbeats 4000000 in
set_option maxRecDepth 100000 in
/-- isTriangle -/
theorem c_X0_isTriangle (l : Launch) (dC : Nat → ClassId) (dI : Nat → Nat → Nat) (cI cZ cS : ClassId) (a : Nat → Nat) (g : Nat → Nat → Int) (r : Int) (hg : gB g r) (A B C : Nat) (hA : A < 10) (hB : B < 10) (hC : C < 10) : Met l yX0_isTriangle wsX0_isTriangle ({ frames := 2, cells := 0, slots := 0, locals := 44 } : Room) (rd_Pc dC dI cI cZ cS (stw cI a g) [.ref (a 0), .int (zI (A : Int)), .int (zI (B : Int)), .int (zI (C : Int))]) (rd_Qc (some (.int (zI (if 1 ≤ g 6 (10 * A + B) ∧ 1 ≤ g 6 (10 * B + C) ∧ 1 ≤ g 6 (10 * A + C) then 1 else 0))))) 0 0 nf := by
  refine rd_met (cc := cX0_isTriangle) (maxL := 4) (ret := (some .boolean)) (by decide) rfl (Nat.le_of_ble_eq_true rfl) ?_
  intro p e s m below meth c ls hx hb hml hr hlocks hts hown hP hK hl
  have hl : lv_has ls 4 [(0, .ref (a 0)), (1, .int (zI (A : Int))), (2, .int (zI (B : Int))), (3, .int (zI (C : Int)))] := hl
  have b0 := hg.1
  have bA := hg.2.1 A hA
  have bB := hg.2.1 B hB
  have bC := hg.2.1 C hC
  refine lv_aload_n hx hb dX0_isTriangle_0 rfl (lv_at hl 0 rfl) ?_
  refine lv_iload_n hx hb dX0_isTriangle_1 rfl (lv_at hl 1 rfl) ?_
  refine lv_iload_n hx hb dX0_isTriangle_2 rfl (lv_at hl 2 rfl) ?_
  refine rd_callV (As := [.int (zI (A : Int)), .int (zI (B : Int))]) (rest := []) ⟨hx, hb, hml, hown, hts⟩ (c_X0_isKnown l dC dI cI cZ cS a g r hg A B (by omega) (by omega)) (cwV 2 hts gX0_isTriangle_X0_isKnown rfl rfl rfl (by decide +kernel) ⟨Nat.le_of_ble_eq_true rfl, Nat.le_of_ble_eq_true rfl⟩) hP hK 0 rfl rfl rfl hl.1 rfl (Nat.le_of_ble_eq_true rfl) dX0_isTriangle_3 ⟨Nat.zero_le _, Nat.zero_le _⟩ ?_
  refine zr_bif_eq (tgt := 31) hx hb dX0_isTriangle_6 (by decide) (fun c_6 => ?_) (fun c_6 => ?_)
  · refine zr_iconst hx hb dX0_isTriangle_31 ?_
    exact rd_zret hx hb hr hlocks (if_neg (by omega)).symm (by omega) dX0_isTriangle_32
  · refine lv_aload_n hx hb dX0_isTriangle_9 rfl (lv_at hl 0 rfl) ?_
    refine lv_iload_n hx hb dX0_isTriangle_10 rfl (lv_at hl 2 rfl) ?_
    refine lv_iload_n hx hb dX0_isTriangle_11 rfl (lv_at hl 3 rfl) ?_
    refine rd_callV (As := [.int (zI (B : Int)), .int (zI (C : Int))]) (rest := []) ⟨hx, hb, hml, hown, hts⟩ (c_X0_isKnown l dC dI cI cZ cS a g r hg B C (by omega) (by omega)) (cwV 2 hts gX0_isTriangle_X0_isKnown rfl rfl rfl (by decide +kernel) ⟨Nat.le_of_ble_eq_true rfl, Nat.le_of_ble_eq_true rfl⟩) hP hK 0 rfl rfl rfl hl.1 rfl (Nat.le_of_ble_eq_true rfl) dX0_isTriangle_12 ⟨Nat.zero_le _, Nat.zero_le _⟩ ?_
    refine zr_bif_eq (tgt := 31) hx hb dX0_isTriangle_15 (by decide) (fun c_15 => ?_) (fun c_15 => ?_)
    · refine zr_iconst hx hb dX0_isTriangle_31 ?_
      exact rd_zret hx hb hr hlocks (if_neg (by omega)).symm (by omega) dX0_isTriangle_32
    · refine lv_aload_n hx hb dX0_isTriangle_18 rfl (lv_at hl 0 rfl) ?_
      refine lv_iload_n hx hb dX0_isTriangle_19 rfl (lv_at hl 1 rfl) ?_
      refine lv_iload_n hx hb dX0_isTriangle_20 rfl (lv_at hl 3 rfl) ?_
      refine rd_callV (As := [.int (zI (A : Int)), .int (zI (C : Int))]) (rest := []) ⟨hx, hb, hml, hown, hts⟩ (c_X0_isKnown l dC dI cI cZ cS a g r hg A C (by omega) (by omega)) (cwV 2 hts gX0_isTriangle_X0_isKnown rfl rfl rfl (by decide +kernel) ⟨Nat.le_of_ble_eq_true rfl, Nat.le_of_ble_eq_true rfl⟩) hP hK 0 rfl rfl rfl hl.1 rfl (Nat.le_of_ble_eq_true rfl) dX0_isTriangle_21 ⟨Nat.zero_le _, Nat.zero_le _⟩ ?_
      refine zr_bif_eq (tgt := 31) hx hb dX0_isTriangle_24 (by decide) (fun c_24 => ?_) (fun c_24 => ?_)
      · refine zr_iconst hx hb dX0_isTriangle_31 ?_
        exact rd_zret hx hb hr hlocks (if_neg (by omega)).symm (by omega) dX0_isTriangle_32
      · refine zr_iconst hx hb dX0_isTriangle_27 ?_
        refine lv_goto (tgt := 32) hx hb dX0_isTriangle_28 (by decide) ?_
        exact rd_zret hx hb hr hlocks (if_pos (by omega)).symm (by omega) dX0_isTriangle_32
set_option maxHeartbeats 4000000 in
set_option maxRecDepth 100000 in
/-- excess -/
theorem c_X0_excess (l : Launch) (dC : Nat → ClassId) (dI : Nat → Nat → Nat) (cI cZ cS : ClassId) (a : Nat → Nat) (g : Nat → Nat → Int) (r : Int) (hg : gB g r) (A B C : Nat) (hA : A < 10) (hB : B < 10) (hC : C < 10) : Met l yX0_excess wsX0_excess ({ frames := 3, cells := 0, slots := 0, locals := 67 } : Room) (rd_Pc dC dI cI cZ cS (stw cI a g) [.ref (a 0), .int (zI (A : Int)), .int (zI (B : Int)), .int (zI (C : Int))]) (rd_Qc (some (.int (zI (sExc g A B C))))) 0 0 nf := by
  refine rd_met (cc := cX0_excess) (maxL := 8) (ret := (some .int)) (by decide) rfl (Nat.le_of_ble_eq_true rfl) ?_
  intro p e s m below meth c ls hx hb hml hr hlocks hts hown hP hK hl
  have hl : lv_has ls 8 [(0, .ref (a 0)), (1, .int (zI (A : Int))), (2, .int (zI (B : Int))), (3, .int (zI (C : Int)))] := hl
  have b0 := hg.1
  have bA := hg.2.1 A hA
  have bB := hg.2.1 B hB
  have bC := hg.2.1 C hC
  have kAB := hg.2.2 A B hA hB
  have kBC := hg.2.2 B C hB hC
  have kAC := hg.2.2 A C hA hC
  have s1 := sExc_bd hg hA hB hC
  refine lv_aload_n hx hb dX0_excess_0 rfl (lv_at hl 0 rfl) ?_
  refine lv_iload_n hx hb dX0_excess_1 rfl (lv_at hl 1 rfl) ?_
  refine lv_iload_n hx hb dX0_excess_2 rfl (lv_at hl 2 rfl) ?_
  refine lv_iload_n hx hb dX0_excess_3 rfl (lv_at hl 3 rfl) ?_
  refine rd_callV (As := [.int (zI (A : Int)), .int (zI (B : Int)), .int (zI (C : Int))]) (rest := []) ⟨hx, hb, hml, hown, hts⟩ (c_X0_isTriangle l dC dI cI cZ cS a g r hg A B C (by omega) (by omega) (by omega)) (cwV 3 hts gX0_excess_X0_isTriangle rfl rfl rfl (by decide +kernel) ⟨Nat.le_of_ble_eq_true rfl, Nat.le_of_ble_eq_true rfl⟩) hP hK 0 rfl rfl rfl hl.1 rfl (Nat.le_of_ble_eq_true rfl) dX0_excess_4 ⟨Nat.zero_le _, Nat.zero_le _⟩ ?_
  refine zr_bif_ne (tgt := 12) hx hb dX0_excess_7 (by decide) (fun c_7 => ?_) (fun c_7 => ?_)
  · refine lv_aload_n hx hb dX0_excess_12 rfl (lv_at hl 0 rfl) ?_
    refine lv_iload_n hx hb dX0_excess_13 rfl (lv_at hl 1 rfl) ?_
    refine lv_iload_n hx hb dX0_excess_14 rfl (lv_at hl 2 rfl) ?_
    refine rd_callV (As := [.int (zI (A : Int)), .int (zI (B : Int))]) (rest := []) ⟨hx, hb, hml, hown, hts⟩ (c_X0_rttOf l dC dI cI cZ cS a g r hg A B (by omega) (by omega)) (cwV 2 hts gX0_excess_X0_rttOf rfl rfl rfl (by decide +kernel) ⟨Nat.le_of_ble_eq_true rfl, Nat.le_of_ble_eq_true rfl⟩) hP hK 0 rfl rfl rfl hl.1 rfl (Nat.le_of_ble_eq_true rfl) dX0_excess_15 ⟨Nat.zero_le _, Nat.zero_le _⟩ ?_
    refine lv_istore (lv' := [(4, .int (zI (g 6 (10 * A + B)))), (0, .ref (a 0)), (1, .int (zI (A : Int))), (2, .int (zI (B : Int))), (3, .int (zI (C : Int)))]) hx hb dX0_excess_18 hl (by decide) rfl (fun ls hl => ?_)
    refine lv_aload_n hx hb dX0_excess_20 rfl (lv_at hl 1 rfl) ?_
    refine lv_iload_n hx hb dX0_excess_21 rfl (lv_at hl 3 rfl) ?_
    refine lv_iload_n hx hb dX0_excess_22 rfl (lv_at hl 4 rfl) ?_
    refine rd_callV (As := [.int (zI (B : Int)), .int (zI (C : Int))]) (rest := []) ⟨hx, hb, hml, hown, hts⟩ (c_X0_rttOf l dC dI cI cZ cS a g r hg B C (by omega) (by omega)) (cwV 2 hts gX0_excess_X0_rttOf rfl rfl rfl (by decide +kernel) ⟨Nat.le_of_ble_eq_true rfl, Nat.le_of_ble_eq_true rfl⟩) hP hK 0 rfl rfl rfl hl.1 rfl (Nat.le_of_ble_eq_true rfl) dX0_excess_23 ⟨Nat.zero_le _, Nat.zero_le _⟩ ?_
    refine lv_istore (lv' := [(5, .int (zI (g 6 (10 * B + C)))), (4, .int (zI (g 6 (10 * A + B)))), (0, .ref (a 0)), (1, .int (zI (A : Int))), (2, .int (zI (B : Int))), (3, .int (zI (C : Int)))]) hx hb dX0_excess_26 hl (by decide) rfl (fun ls hl => ?_)
    refine lv_aload_n hx hb dX0_excess_28 rfl (lv_at hl 2 rfl) ?_
    refine lv_iload_n hx hb dX0_excess_29 rfl (lv_at hl 3 rfl) ?_
    refine lv_iload_n hx hb dX0_excess_30 rfl (lv_at hl 5 rfl) ?_
    refine rd_callV (As := [.int (zI (A : Int)), .int (zI (C : Int))]) (rest := []) ⟨hx, hb, hml, hown, hts⟩ (c_X0_rttOf l dC dI cI cZ cS a g r hg A C (by omega) (by omega)) (cwV 2 hts gX0_excess_X0_rttOf rfl rfl rfl (by decide +kernel) ⟨Nat.le_of_ble_eq_true rfl, Nat.le_of_ble_eq_true rfl⟩) hP hK 0 rfl rfl rfl hl.1 rfl (Nat.le_of_ble_eq_true rfl) dX0_excess_31 ⟨Nat.zero_le _, Nat.zero_le _⟩ ?_
    refine lv_istore (lv' := [(6, .int (zI (g 6 (10 * A + C)))), (5, .int (zI (g 6 (10 * B + C)))), (4, .int (zI (g 6 (10 * A + B)))), (0, .ref (a 0)), (1, .int (zI (A : Int))), (2, .int (zI (B : Int))), (3, .int (zI (C : Int)))]) hx hb dX0_excess_34 hl (by decide) rfl (fun ls hl => ?_)
    refine lv_iload hx hb dX0_excess_36 (lv_at hl 2 rfl) ?_
    refine lv_iload hx hb dX0_excess_38 (lv_at hl 1 rfl) ?_
    refine lv_iload hx hb dX0_excess_40 (lv_at hl 0 rfl) ?_
    refine va_mmax hx hb (hml.trans hl.1.symm) hown (hts (.methodLink RX0 138 Lib.Math.max.name) (by decide +kernel)) (hts (.static Lib.Math.max.name) (by decide +kernel)) (hts (.initialized "java/lang/Math") (by decide +kernel)) (hts (.code Lib.Math.max.name Lib.Math.max.code 2 (some .int)) (by decide +kernel)) (Nat.le_of_ble_eq_true rfl) (Nat.le_of_ble_eq_true rfl) (Nat.zero_le _) (Nat.zero_le _) dX0_excess_42 ?_
    rw [zm_iteI (by omega) (by omega)]
    refine zr_topI (sMx (g 6 (10 * B + C)) (g 6 (10 * A + C))) rfl ?_
    have s2 : 0 ≤ sMx (g 6 (10 * B + C)) (g 6 (10 * A + C)) ∧ sMx (g 6 (10 * B + C)) (g 6 (10 * A + C)) ≤ 20000 := sMx_bd (by omega) (by omega)
    refine va_mmax hx hb (hml.trans hl.1.symm) hown (hts (.methodLink RX0 138 Lib.Math.max.name) (by decide +kernel)) (hts (.static Lib.Math.max.name) (by decide +kernel)) (hts (.initialized "java/lang/Math") (by decide +kernel)) (hts (.code Lib.Math.max.name Lib.Math.max.code 2 (some .int)) (by decide +kernel)) (Nat.le_of_ble_eq_true rfl) (Nat.le_of_ble_eq_true rfl) (Nat.zero_le _) (Nat.zero_le _) dX0_excess_45 ?_
    rw [zm_iteI (by omega) (by omega)]
    refine zr_topI (sG3 g A B C) rfl ?_
    refine lv_istore (lv' := [(7, .int (zI (sG3 g A B C))), (6, .int (zI (g 6 (10 * A + C)))), (5, .int (zI (g 6 (10 * B + C)))), (4, .int (zI (g 6 (10 * A + B)))), (0, .ref (a 0)), (1, .int (zI (A : Int))), (2, .int (zI (B : Int))), (3, .int (zI (C : Int)))]) hx hb dX0_excess_48 hl (by decide) rfl (fun ls hl => ?_)
    refine zr_iconst hx hb dX0_excess_50 ?_
    refine lv_iload hx hb dX0_excess_51 (lv_at hl 0 rfl) ?_
    refine lv_iload hx hb dX0_excess_53 (lv_at hl 3 rfl) ?_
    refine lv_iload hx hb dX0_excess_55 (lv_at hl 2 rfl) ?_
    refine zr_iadd hx hb dX0_excess_57 ?_
    refine lv_iload hx hb dX0_excess_58 (lv_at hl 1 rfl) ?_
    refine zr_iadd hx hb dX0_excess_60 ?_
    refine lv_iload hx hb dX0_excess_61 (lv_at hl 0 rfl) ?_
    refine zr_isub hx hb dX0_excess_63 ?_
    refine zr_isub hx hb dX0_excess_64 ?_
    refine zr_topI (sOv g A B C) rfl ?_
    refine va_mmax hx hb (hml.trans hl.1.symm) hown (hts (.methodLink RX0 138 Lib.Math.max.name) (by decide +kernel)) (hts (.static Lib.Math.max.name) (by decide +kernel)) (hts (.initialized "java/lang/Math") (by decide +kernel)) (hts (.code Lib.Math.max.name Lib.Math.max.code 2 (some .int)) (by decide +kernel)) (Nat.le_of_ble_eq_true rfl) (Nat.le_of_ble_eq_true rfl) (Nat.zero_le _) (Nat.zero_le _) dX0_excess_65 ?_
    rw [zm_iteI (by omega) (by omega)]
    exact rd_iret hx hb hr hlocks (by unfold sExc; rw [if_pos c_7]; rfl) dX0_excess_68
  · refine zr_iconst hx hb dX0_excess_10 ?_
    exact rd_iret hx hb hr hlocks (by unfold sExc; rw [if_neg c_7]) dX0_excess_11
set_option maxHeartbeats 4000000 in
set_option maxRecDepth 100000 in
/-- violationsAt -/
theorem c_X0_violationsAt (l : Launch) (dC : Nat → ClassId) (dI : Nat → Nat → Nat) (cI cZ cS : ClassId) (a : Nat → Nat) (g : Nat → Nat → Int) (r : Int) (hg : gB g r) (A : Nat) (hA : A < 10) : Met l yX0_violationsAt wsX0_violationsAt ({ frames := 4, cells := 0, slots := 0, locals := 94 } : Room) (rd_Pc dC dI cI cZ cS (stw cI a g) [.ref (a 0), .int (zI (A : Int))]) (rd_Qc (some (.int (zI (sVa g A (gN g) (gN g)))))) 0 0 nf := by
  refine rd_met (cc := cX0_violationsAt) (maxL := 5) (ret := (some .int)) (by decide) rfl (Nat.le_of_ble_eq_true rfl) ?_
  intro p e s m below meth c ls hx hb hml hr hlocks hts hown hP hK hl
  have hl : lv_has ls 5 [(0, .ref (a 0)), (1, .int (zI (A : Int)))] := hl
  have hinX0 : ∀ w ∈ u_ws RX0 TX0 11, w ∈ wsX0_violationsAt := by decide +kernel
  have f_44 := hts (.fieldLink RX0 44 "NetworkCoordinates$State" "nodes" "I") (by decide +kernel)
  have b0 := hg.1
  have bA := hg.2.1 A hA
  have hN := gN_eq hg
  refine zr_iconst hx hb dX0_violationsAt_0 ?_
  refine lv_istore_n (lv' := [(2, .int (zI 0)), (0, .ref (a 0)), (1, .int (zI (A : Int)))]) hx hb dX0_violationsAt_1 rfl hl (by decide) rfl (fun ls hl => ?_)
  refine zr_iconst hx hb dX0_violationsAt_2 ?_
  refine lv_istore_n (lv' := [(3, .int (zI 0)), (2, .int (zI 0)), (0, .ref (a 0)), (1, .int (zI (A : Int)))]) hx hb dX0_violationsAt_3 rfl hl (by decide) rfl (fun ls hl => ?_)
  have loop : ∀ (k_loop i : Nat), i + k_loop = gN g → ∀ ls : Array Slot, lv_has ls 5 [(3, .int (zI (i : Int))), (2, .int (zI (sVa g A (gN g) i))), (0, .ref (a 0)), (1, .int (zI (A : Int)))] → W p l e ({ frames := 4, cells := 0, slots := 0, locals := 94 } : Room) s m [.ref (a 0), .int (zI (A : Int))].toArray below meth c s.heap [] 0 0 (MQ below (rd_Qc (some (.int (zI (sVa g A (gN g) (gN g)))))) [.ref (a 0), .int (zI (A : Int))].toArray s 0 0 nf) (F0 m 4 ls []) := by
    intro k_loop
    induction k_loop with
    | zero =>
      intro i hi ls hl
      refine lv_iload_n hx hb dX0_violationsAt_4 rfl (lv_at hl 0 rfl) ?_
      refine lv_aload_n hx hb dX0_violationsAt_5 rfl (lv_at hl 2 rfl) ?_
      refine va_get (D := (dC, dI)) (ci := 0) (v := .int (zI (g 0 0))) (C := RX0) (T := TX0) (N := 11) hx hb hts hinX0 hown hK.1 hP 0 rfl rfl 0 (by decide) f_44 (fun _ h9 => h9) rfl dX0_violationsAt_6 ?_
      refine zr_icmp_ge (tgt := 63) hx hb dX0_violationsAt_9 (by decide) (by omega) (by omega) (fun c_9 => ?_) (fun c_9 => absurd c_9 (by omega))
      refine lv_iload_n hx hb dX0_violationsAt_63 rfl (lv_at hl 1 rfl) ?_
      exact rd_iret hx hb hr hlocks (by rw [show i = gN g by omega]) dX0_violationsAt_64
    | succ k_loop ih_loop =>
      intro i hi ls hl
      refine lv_iload_n hx hb dX0_violationsAt_4 rfl (lv_at hl 0 rfl) ?_
      refine lv_aload_n hx hb dX0_violationsAt_5 rfl (lv_at hl 2 rfl) ?_
      refine va_get (D := (dC, dI)) (ci := 0) (v := .int (zI (g 0 0))) (C := RX0) (T := TX0) (N := 11) hx hb hts hinX0 hown hK.1 hP 0 rfl rfl 0 (by decide) f_44 (fun _ h9 => h9) rfl dX0_violationsAt_6 ?_
      refine zr_icmp_ge (tgt := 63) hx hb dX0_violationsAt_9 (by decide) (by omega) (by omega) (fun c_9 => absurd c_9 (by omega)) (fun c_9 => ?_)
      refine lv_iload_n hx hb dX0_violationsAt_12 rfl (lv_at hl 0 rfl) ?_
      refine zr_iconst hx hb dX0_violationsAt_13 ?_
      refine zr_iadd hx hb dX0_violationsAt_14 ?_
      refine zr_topI ((i + 1 : Nat) : Int) (by omega) ?_
      refine lv_istore (lv' := [(4, .int (zI ((i + 1 : Nat) : Int))), (3, .int (zI (i : Int))), (2, .int (zI (sVa g A (gN g) i))), (0, .ref (a 0)), (1, .int (zI (A : Int)))]) hx hb dX0_violationsAt_15 hl (by decide) rfl (fun ls hl => ?_)
      have inner : ∀ (k_inner j : Nat), j + k_inner = gN g → i < j → ∀ ls : Array Slot, lv_has ls 5 [(4, .int (zI (j : Int))), (3, .int (zI (i : Int))), (2, .int (zI (sVa g A (gN g) i + sVb g A i j))), (0, .ref (a 0)), (1, .int (zI (A : Int)))] → W p l e ({ frames := 4, cells := 0, slots := 0, locals := 94 } : Room) s m [.ref (a 0), .int (zI (A : Int))].toArray below meth c s.heap [] 0 0 (MQ below (rd_Qc (some (.int (zI (sVa g A (gN g) (gN g)))))) [.ref (a 0), .int (zI (A : Int))].toArray s 0 0 nf) (F0 m 17 ls []) := by
        intro k_inner
        induction k_inner with
        | zero =>
          intro j hj hij ls hl
          refine lv_iload hx hb dX0_violationsAt_17 (lv_at hl 0 rfl) ?_
          refine lv_aload_n hx hb dX0_violationsAt_19 rfl (lv_at hl 3 rfl) ?_
          refine va_get (D := (dC, dI)) (ci := 0) (v := .int (zI (g 0 0))) (C := RX0) (T := TX0) (N := 11) hx hb hts hinX0 hown hK.1 hP 0 rfl rfl 0 (by decide) f_44 (fun _ h9 => h9) rfl dX0_violationsAt_20 ?_
          refine zr_icmp_ge (tgt := 57) hx hb dX0_violationsAt_23 (by decide) (by omega) (by omega) (fun c_23 => ?_) (fun c_23 => absurd c_23 (by omega))
          have hl : lv_has ls 5 [(4, .int (zI (j : Int))), (3, .int (zI (i : Int))), (2, .int (zI (sVa g A (gN g) (i + 1)))), (0, .ref (a 0)), (1, .int (zI (A : Int)))] := by rw [show sVa g A (gN g) (i + 1) = sVa g A (gN g) i + sVb g A i j from by unfold sVa; rw [sm_succ, show j = gN g by omega]]; exact hl
          refine zr_iinc (b := ((i + 1 : Nat) : Int)) (lv' := [(3, .int (zI ((i + 1 : Nat) : Int))), (4, .int (zI (j : Int))), (2, .int (zI (sVa g A (gN g) (i + 1)))), (0, .ref (a 0)), (1, .int (zI (A : Int)))]) hx hb dX0_violationsAt_57 hl (k := 1) rfl (by omega) (by decide) rfl (fun ls hl => ?_)
          refine lv_goto (tgt := 4) hx hb dX0_violationsAt_60 (by decide) ?_
          exact ih_loop (i + 1) (by omega) ls (lv_sub hl [0, 2, 3, 4] rfl)
        | succ k_inner ih_inner =>
          intro j hj hij ls hl
          have s1 := sExc_bd (b := i) (c := j) hg hA (by omega) (by omega)
          refine lv_iload hx hb dX0_violationsAt_17 (lv_at hl 0 rfl) ?_
          refine lv_aload_n hx hb dX0_violationsAt_19 rfl (lv_at hl 3 rfl) ?_
          refine va_get (D := (dC, dI)) (ci := 0) (v := .int (zI (g 0 0))) (C := RX0) (T := TX0) (N := 11) hx hb hts hinX0 hown hK.1 hP 0 rfl rfl 0 (by decide) f_44 (fun _ h9 => h9) rfl dX0_violationsAt_20 ?_
          refine zr_icmp_ge (tgt := 57) hx hb dX0_violationsAt_23 (by decide) (by omega) (by omega) (fun c_23 => absurd c_23 (by omega)) (fun c_23 => ?_)
          refine lv_iload_n hx hb dX0_violationsAt_26 rfl (lv_at hl 1 rfl) ?_
          refine lv_iload_n hx hb dX0_violationsAt_27 rfl (lv_at hl 4 rfl) ?_
          refine zr_icmp_eq (tgt := 51) hx hb dX0_violationsAt_28 (by decide) (by omega) (by omega) (fun c_28 => ?_) (fun c_28 => ?_)
          · have hl : lv_has ls 5 [(4, .int (zI (j : Int))), (3, .int (zI (i : Int))), (2, .int (zI (sVa g A (gN g) i + sVb g A i (j + 1)))), (0, .ref (a 0)), (1, .int (zI (A : Int)))] := by rw [show sVb g A i (j + 1) = sVb g A i j from by unfold sVb; rw [sm_succ]; unfold sVc; rw [if_neg (by omega)]; omega]; exact hl
            refine zr_iinc (b := ((j + 1 : Nat) : Int)) (lv' := [(4, .int (zI ((j + 1 : Nat) : Int))), (3, .int (zI (i : Int))), (2, .int (zI (sVa g A (gN g) i + sVb g A i (j + 1)))), (0, .ref (a 0)), (1, .int (zI (A : Int)))]) hx hb dX0_violationsAt_51 hl (k := 0) rfl (by omega) (by decide) rfl (fun ls hl => ?_)
            refine lv_goto (tgt := 17) hx hb dX0_violationsAt_54 (by decide) ?_
            exact ih_inner (j + 1) (by omega) (by omega) ls (lv_sub hl [0, 1, 2, 3, 4] rfl)
          · refine lv_iload hx hb dX0_violationsAt_31 (lv_at hl 0 rfl) ?_
            refine lv_iload_n hx hb dX0_violationsAt_33 rfl (lv_at hl 4 rfl) ?_
            refine zr_icmp_eq (tgt := 51) hx hb dX0_violationsAt_34 (by decide) (by omega) (by omega) (fun c_34 => ?_) (fun c_34 => ?_)
            · have hl : lv_has ls 5 [(4, .int (zI (j : Int))), (3, .int (zI (i : Int))), (2, .int (zI (sVa g A (gN g) i + sVb g A i (j + 1)))), (0, .ref (a 0)), (1, .int (zI (A : Int)))] := by rw [show sVb g A i (j + 1) = sVb g A i j from by unfold sVb; rw [sm_succ]; unfold sVc; rw [if_neg (by omega)]; omega]; exact hl
              refine zr_iinc (b := ((j + 1 : Nat) : Int)) (lv' := [(4, .int (zI ((j + 1 : Nat) : Int))), (3, .int (zI (i : Int))), (2, .int (zI (sVa g A (gN g) i + sVb g A i (j + 1)))), (0, .ref (a 0)), (1, .int (zI (A : Int)))]) hx hb dX0_violationsAt_51 hl (k := 0) rfl (by omega) (by decide) rfl (fun ls hl => ?_)
              refine lv_goto (tgt := 17) hx hb dX0_violationsAt_54 (by decide) ?_
              exact ih_inner (j + 1) (by omega) (by omega) ls (lv_sub hl [0, 1, 2, 3, 4] rfl)
            · refine lv_aload_n hx hb dX0_violationsAt_37 rfl (lv_at hl 3 rfl) ?_
              refine lv_iload_n hx hb dX0_violationsAt_38 rfl (lv_at hl 4 rfl) ?_
              refine lv_iload_n hx hb dX0_violationsAt_39 rfl (lv_at hl 1 rfl) ?_
              refine lv_iload hx hb dX0_violationsAt_40 (lv_at hl 0 rfl) ?_
              refine rd_callV (As := [.int (zI (A : Int)), .int (zI (i : Int)), .int (zI (j : Int))]) (rest := []) ⟨hx, hb, hml, hown, hts⟩ (c_X0_excess l dC dI cI cZ cS a g r hg A i j (by omega) (by omega) (by omega)) (cwV 3 hts gX0_violationsAt_X0_excess rfl rfl rfl (by decide +kernel) ⟨Nat.le_of_ble_eq_true rfl, Nat.le_of_ble_eq_true rfl⟩) hP hK 0 rfl rfl rfl hl.1 rfl (Nat.le_of_ble_eq_true rfl) dX0_violationsAt_42 ⟨Nat.zero_le _, Nat.zero_le _⟩ ?_
              refine zr_if_le (tgt := 51) hx hb dX0_violationsAt_45 (by decide) (by omega) (fun c_45 => ?_) (fun c_45 => ?_)
              · have hl : lv_has ls 5 [(4, .int (zI (j : Int))), (3, .int (zI (i : Int))), (2, .int (zI (sVa g A (gN g) i + sVb g A i (j + 1)))), (0, .ref (a 0)), (1, .int (zI (A : Int)))] := by rw [show sVb g A i (j + 1) = sVb g A i j from by unfold sVb; rw [sm_succ]; unfold sVc; rw [if_neg (by omega)]; omega]; exact hl
                refine zr_iinc (b := ((j + 1 : Nat) : Int)) (lv' := [(4, .int (zI ((j + 1 : Nat) : Int))), (3, .int (zI (i : Int))), (2, .int (zI (sVa g A (gN g) i + sVb g A i (j + 1)))), (0, .ref (a 0)), (1, .int (zI (A : Int)))]) hx hb dX0_violationsAt_51 hl (k := 0) rfl (by omega) (by decide) rfl (fun ls hl => ?_)
                refine lv_goto (tgt := 17) hx hb dX0_violationsAt_54 (by decide) ?_
                exact ih_inner (j + 1) (by omega) (by omega) ls (lv_sub hl [0, 1, 2, 3, 4] rfl)
              · refine zr_iinc (b := (sVa g A (gN g) i + sVb g A i (j + 1))) (lv' := [(2, .int (zI (sVa g A (gN g) i + sVb g A i (j + 1)))), (4, .int (zI (j : Int))), (3, .int (zI (i : Int))), (0, .ref (a 0)), (1, .int (zI (A : Int)))]) hx hb dX0_violationsAt_48 hl (k := 2) rfl (by unfold sVb; rw [sm_succ]; unfold sVc; rw [if_pos (by omega)]; omega) (by decide) rfl (fun ls hl => ?_)
                refine zr_iinc (b := ((j + 1 : Nat) : Int)) (lv' := [(4, .int (zI ((j + 1 : Nat) : Int))), (2, .int (zI (sVa g A (gN g) i + sVb g A i (j + 1)))), (3, .int (zI (i : Int))), (0, .ref (a 0)), (1, .int (zI (A : Int)))]) hx hb dX0_violationsAt_51 hl (k := 1) rfl (by omega) (by decide) rfl (fun ls hl => ?_)
                refine lv_goto (tgt := 17) hx hb dX0_violationsAt_54 (by decide) ?_
                exact ih_inner (j + 1) (by omega) (by omega) ls (lv_sub hl [0, 2, 1, 3, 4] rfl)
      have hl : lv_has ls 5 [(4, .int (zI ((i + 1 : Nat) : Int))), (3, .int (zI (i : Int))), (2, .int (zI (sVa g A (gN g) i + sVb g A i (i + 1)))), (0, .ref (a 0)), (1, .int (zI (A : Int)))] := by rw [sVb_0, Int.add_zero]; exact hl
      exact inner (gN g - (i + 1)) (i + 1) (by omega) (by omega) ls (lv_sub hl [0, 1, 2, 3, 4] rfl)
  exact loop (gN g) 0 (by omega) ls (lv_sub hl [0, 1, 2, 3] rfl)
