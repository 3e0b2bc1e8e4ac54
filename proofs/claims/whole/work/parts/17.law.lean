/-! OWN ROWS: the law -/
/-- between two calls: the class's cells and the reference's hold the same state, and the same slots -/
def lwI (s : State) (dC : Nat → ClassId) (dI : Nat → Nat → Nat) (cI cZ cS : ClassId) (z : Int) (h q0 : Nat) (H : Heap) : Prop :=
  ∃ (a : Nat → Nat) (hs : Nat) (q : Nat → Nat) (g : Nat → Nat → Int) (w S V o : Nat → Int) (sf : Nat → Option Nat) (T0 T1 : va_W), q 0 = q0 ∧ gB g z ∧ slR cI z sf S V 0 T0 ∧ slR cI z sf S V 1 T1 ∧ va_P (dC, dI) vwCl (stw cI a g ++ mnw a h hs ++ slw cS hs sf ++ T0 ++ (T1 ++ mdw cI cZ q g w S V o)) H ∧ va_D (fun q : Nat => s.heap.size ≤ q) (stw cI a g ++ mnw a h hs ++ slw cS hs sf ++ T0 ++ (T1 ++ mdw cI cZ q g w S V o))
section ZLW
variable {A : Nat → Prop} {D : va_G} {cl : List vw_C} {H H1 : Heap} {x t r w w2 : va_W}
theorem n_3P (h : va_P D cl ((x ++ t) ++ r) H) : va_P D cl (x ++ (t ++ r)) H := by rw [← List.append_assoc]; exact h
theorem n_3D (h : va_D A ((x ++ t) ++ r)) : va_D A (x ++ (t ++ r)) := by rw [← List.append_assoc]; exact h
theorem n_tD (h : va_D A (w ++ x)) (he : w2.map Prod.fst = w.map Prod.fst) : va_D A (w2 ++ x) := va_D_adr h (by simp only [List.map_append, he])
theorem nS_A {S : Nat → Int} {g : Nat → Nat → Int} {k : Nat} (h : k < 2) : nS S g (k : Int) = sSv S (flat g) k 155 := if_pos ⟨by omega, by omega⟩
theorem nV_A {V : Nat → Int} {k : Nat} (h : k < 2) : nV V (k : Int) = zset V k 1 := if_pos ⟨by omega, by omega⟩
theorem aSave_A {k : Nat} (h : k < 2) : aSave (k : Int) = 1 := if_pos ⟨by omega, by omega⟩
theorem aRest_0 {V : Nat → Int} {k : Nat} (h : k < 2) (h0 : V k = 0) : aRest V (k : Int) = -1000006 := (if_pos ⟨by omega, by omega⟩).trans (if_pos h0)
theorem aRest_1 {V : Nat → Int} {k : Nat} (h : k < 2) (h1 : V k = 1) : aRest V (k : Int) = 1 := (if_pos ⟨by omega, by omega⟩).trans (if_neg (show ¬ V k = 0 by omega))
theorem fRest_0 {S V : Nat → Int} {g : Nat → Nat → Int} {k : Nat} (h0 : V k = 0) : fRest S V g (k : Int) = flat g := if_neg (fun c => c.2 h0)
theorem fRest_1 {S V : Nat → Int} {g : Nat → Nat → Int} {k : Nat} (h : k < 2) (h1 : V k = 1) : fRest S V g (k : Int) = rsf S (flat g) k 155 := if_pos ⟨⟨by omega, by omega⟩, (show V k ≠ 0 by omega)⟩
variable {p : Program} {l : Launch} {e : Env} {R : Room} {s : State} {m : MethodId} {args : Array Value} {below : List Frame} {meth : Method} {c : Code} {locs : List Loc} {cells slots : Nat} {Q : State → Prop} {cc : ByteArray} {pc : Nat} {ls : Array Slot} {rest : List Value} {H0 : Heap}
theorem zr_sld (hx : p.tables.exec = Jvm.exec) (hb : c.code = cc) {b L : Nat} {xs : Nat → Int32} (hX : va_X b L xs s H0) (hbl : b < H0.size) (hbA : ¬ A b) (hS : va_S A H0 H locs) (hL : L ≤ 2560) {zi : Int} (k : Nat) (hi : zi = (k : Int)) (hk : k < L) (hdg : decode cc pc = .ok (.iaload, 1))
    (kk : W p l e R s m args below meth c H locs cells slots Q (F0 m (pc + 1) ls (.int (zI (xs k).toInt) :: rest))) : W p l e R s m args below meth c H locs cells slots Q (F0 m pc ls (.int (zI zi) :: .ref b :: rest)) := by
  refine va_sld hx hb hX hbl hbA hS (zI_in hi hk (by omega)) hdg ?_
  rw [zI_clamp hi (by omega), zI_of (xs k)]
  exact kk
end ZLW
section ZLC
variable {p : Program} {l : Launch} {e : Env} {s : State} {m : MethodId} {below : List Frame} {meth : Method} {c : Code} {dC : Nat → ClassId} {dI : Nat → Nat → Nat} {cI cZ cS : ClassId} {b L i h q0 : Nat} {xs : Nat → Int32} {ls : Array Slot} {H : Heap} {locs : List Loc}
set_option maxHeartbeats 4000000 in
set_option maxRecDepth 100000 in
/-- the call 0: reset -/
theorem lw_k0 (C0 : lw_At p s m meth c b L xs) (hL : L ≤ 2560) (hK : kK dC dI cI cZ cS s) (hi : i < 512) (h5 : 5 * i + 5 ≤ L) (hl : lv_has ls 4 [(0, .ref b), (1, .ref h), (2, .ref q0), (3, .int (zI (5 * (i : Int))))]) (fin : ∀ (H : Heap) (locs : List Loc) (cells slots : Nat), cells ≤ 120 + 20 * i → slots ≤ 2400 + 400 * i → lwI s dC dI cI cZ cS (100 * (i : Int) + 100) h q0 H → va_S (fun q : Nat => s.heap.size ≤ q) s.heap H locs → W p l e room_1 s m #[Value.ref b] below meth c H locs cells slots (lw_Z below #[Value.ref b] s) (F0 m 847 ls [])) (hI : lwI s dC dI cI cZ cS (100 * (i : Int)) h q0 H) (hS : va_S (fun q : Nat => s.heap.size ≤ q) s.heap H locs) : W p l e room_1 s m #[Value.ref b] below meth c H locs (100 + 20 * i) (2000 + 400 * i) (lw_Z below #[Value.ref b] s) (F0 m 156 ls []) := by
  obtain ⟨hx, hb, hr, hml, hown, hts, hX, hbl, hlocks, hgv⟩ := C0
  have hown2 : s.vm.findClass RL = some m.cls := hown
  have hts2 : ∀ w ∈ wsL_law, w.before #[Value.ref b] s = true := fun w hw => hts w (wsL_law_in w hw)
  have hbA : ¬ (fun q : Nat => s.heap.size ≤ q) b := Nat.not_le.mpr hbl
  obtain ⟨a, hs, q, g, w, S, V, o, sf, T0, T1, rfl, hg, s0, s1, hP, hD⟩ := hI
  have hg2 : gB g (100 * (i : Int) + 100) := gB_mono hg (by omega)
  refine lv_aload_n hx hb dL_law_156 rfl (lv_at hl 1 rfl) ?_
  refine lv_aload_n hx hb dL_law_157 rfl (lv_at hl 0 rfl) ?_
  refine lv_iload_n hx hb dL_law_158 rfl (lv_at hl 3 rfl) ?_
  refine zr_iconst hx hb dL_law_159 ?_
  refine zr_iadd hx hb dL_law_160 ?_
  refine zr_sld hx hb hX hbl hbA hS hL (5 * i + 1) (by omega) (by omega) dL_law_161 ?_
  refine wr_callVi (As := [.int (zI ((xs (5 * i + 1)).toInt))]) (rest := []) ⟨hx, hb, hml, hown2, hts2⟩ (c_X1_reset l dC dI cI cZ cS a h hs g (100 * (i : Int)) hg ((xs (5 * i + 1)).toInt) (zI_rng _)) (cwV 1 hts2 gL_law_X1_reset rfl rfl rfl (by decide +kernel) ⟨Nat.le_of_ble_eq_true rfl, Nat.le_of_ble_eq_true rfl⟩) (n_P1 hP) (n_D1 hD) hS hK 7 rfl rfl rfl hl.1 rfl (Nat.le_of_ble_eq_true rfl) dL_law_162 ⟨by show _ ≤ 1200000; omega, by show _ ≤ 5502250; omega⟩ (fun H1 locs1 hP1 hk1 hS => ?_)
  have hP := n_P1w hP hD hP1 hk1
  have hD := n_D1w (c2 := stw cI a (nReset g ((xs (5 * i + 1)).toInt)) ++ mnw a h hs) hD rfl
  refine lv_aload_n hx hb dL_law_165 rfl (lv_at hl 2 rfl) ?_
  refine lv_aload_n hx hb dL_law_166 rfl (lv_at hl 0 rfl) ?_
  refine lv_iload_n hx hb dL_law_167 rfl (lv_at hl 3 rfl) ?_
  refine zr_iconst hx hb dL_law_168 ?_
  refine zr_iadd hx hb dL_law_169 ?_
  refine zr_sld hx hb hX hbl hbA hS hL (5 * i + 1) (by omega) (by omega) dL_law_170 ?_
  refine wr_callVi (As := [.int (zI ((xs (5 * i + 1)).toInt))]) (rest := [_]) ⟨hx, hb, hml, hown2, hts2⟩ (c_X2_reset l dC dI cI cZ cS q g w S V o (100 * (i : Int)) hg ((xs (5 * i + 1)).toInt) (zI_rng _)) (cwV 1 hts2 gL_law_X2_reset rfl rfl rfl (by decide +kernel) ⟨Nat.le_of_ble_eq_true rfl, Nat.le_of_ble_eq_true rfl⟩) (n_P2 hP) (n_D2 hD) hS hK 0 rfl rfl rfl hl.1 rfl (Nat.le_of_ble_eq_true rfl) dL_law_171 ⟨by show _ ≤ 1200000; omega, by show _ ≤ 5502250; omega⟩ (fun H2 locs2 hP2 hk2 hS => ?_)
  have hP := n_P2w hP hD hP2 hk2
  have hD := n_D2w (m2 := mdw cI cZ q (nReset g ((xs (5 * i + 1)).toInt)) w S V o) hD rfl
  refine lv_icmp_eq (tgt := 847) hx hb dL_law_174 (by decide) (fun _ => ?_) (fun c9 => absurd rfl c9)
  exact fin _ _ _ _ (by omega) (by omega) ⟨a, hs, q, _, _, S, V, o, sf, T0, T1, rfl, gB_mono (nReset_gB hg) (by omega), slR_mono s0 (by omega), slR_mono s1 (by omega), hP, hD⟩ hS
set_option maxHeartbeats 4000000 in
set_option maxRecDepth 100000 in
/-- the call 1: setRtt -/
theorem lw_k1 (C0 : lw_At p s m meth c b L xs) (hL : L ≤ 2560) (hK : kK dC dI cI cZ cS s) (hi : i < 512) (h5 : 5 * i + 5 ≤ L) (hl : lv_has ls 4 [(0, .ref b), (1, .ref h), (2, .ref q0), (3, .int (zI (5 * (i : Int))))]) (fin : ∀ (H : Heap) (locs : List Loc) (cells slots : Nat), cells ≤ 120 + 20 * i → slots ≤ 2400 + 400 * i → lwI s dC dI cI cZ cS (100 * (i : Int) + 100) h q0 H → va_S (fun q : Nat => s.heap.size ≤ q) s.heap H locs → W p l e room_1 s m #[Value.ref b] below meth c H locs cells slots (lw_Z below #[Value.ref b] s) (F0 m 847 ls [])) (hI : lwI s dC dI cI cZ cS (100 * (i : Int)) h q0 H) (hS : va_S (fun q : Nat => s.heap.size ≤ q) s.heap H locs) : W p l e room_1 s m #[Value.ref b] below meth c H locs (100 + 20 * i) (2000 + 400 * i) (lw_Z below #[Value.ref b] s) (F0 m 179 ls []) := by
  obtain ⟨hx, hb, hr, hml, hown, hts, hX, hbl, hlocks, hgv⟩ := C0
  have hown2 : s.vm.findClass RL = some m.cls := hown
  have hts2 : ∀ w ∈ wsL_law, w.before #[Value.ref b] s = true := fun w hw => hts w (wsL_law_in w hw)
  have hbA : ¬ (fun q : Nat => s.heap.size ≤ q) b := Nat.not_le.mpr hbl
  obtain ⟨a, hs, q, g, w, S, V, o, sf, T0, T1, rfl, hg, s0, s1, hP, hD⟩ := hI
  have hg2 : gB g (100 * (i : Int) + 100) := gB_mono hg (by omega)
  refine lv_aload_n hx hb dL_law_179 rfl (lv_at hl 1 rfl) ?_
  refine lv_aload_n hx hb dL_law_180 rfl (lv_at hl 0 rfl) ?_
  refine lv_iload_n hx hb dL_law_181 rfl (lv_at hl 3 rfl) ?_
  refine zr_iconst hx hb dL_law_182 ?_
  refine zr_iadd hx hb dL_law_183 ?_
  refine zr_sld hx hb hX hbl hbA hS hL (5 * i + 1) (by omega) (by omega) dL_law_184 ?_
  refine lv_aload_n hx hb dL_law_185 rfl (lv_at hl 0 rfl) ?_
  refine lv_iload_n hx hb dL_law_186 rfl (lv_at hl 3 rfl) ?_
  refine zr_iconst hx hb dL_law_187 ?_
  refine zr_iadd hx hb dL_law_188 ?_
  refine zr_sld hx hb hX hbl hbA hS hL (5 * i + 2) (by omega) (by omega) dL_law_189 ?_
  refine lv_aload_n hx hb dL_law_190 rfl (lv_at hl 0 rfl) ?_
  refine lv_iload_n hx hb dL_law_191 rfl (lv_at hl 3 rfl) ?_
  refine zr_iconst hx hb dL_law_192 ?_
  refine zr_iadd hx hb dL_law_193 ?_
  refine zr_sld hx hb hX hbl hbA hS hL (5 * i + 3) (by omega) (by omega) dL_law_194 ?_
  refine wr_callVi (As := [.int (zI ((xs (5 * i + 1)).toInt)), .int (zI ((xs (5 * i + 2)).toInt)), .int (zI ((xs (5 * i + 3)).toInt))]) (rest := []) ⟨hx, hb, hml, hown2, hts2⟩ (c_X1_setRtt l dC dI cI cZ cS a h hs g (100 * (i : Int)) hg ((xs (5 * i + 1)).toInt) (zI_rng _) ((xs (5 * i + 2)).toInt) (zI_rng _) ((xs (5 * i + 3)).toInt) (zI_rng _)) (cwV 3 hts2 gL_law_X1_setRtt rfl rfl rfl (by decide +kernel) ⟨Nat.le_of_ble_eq_true rfl, Nat.le_of_ble_eq_true rfl⟩) (n_P1 hP) (n_D1 hD) hS hK 7 rfl rfl rfl hl.1 rfl (Nat.le_of_ble_eq_true rfl) dL_law_195 ⟨by show _ ≤ 1200000; omega, by show _ ≤ 5502250; omega⟩ (fun H1 locs1 hP1 hk1 hS => ?_)
  have hP := n_P1w hP hD hP1 hk1
  have hD := n_D1w (c2 := stw cI a (nSetRtt g ((xs (5 * i + 1)).toInt) ((xs (5 * i + 2)).toInt) ((xs (5 * i + 3)).toInt)) ++ mnw a h hs) hD rfl
  refine lv_aload_n hx hb dL_law_198 rfl (lv_at hl 2 rfl) ?_
  refine lv_aload_n hx hb dL_law_199 rfl (lv_at hl 0 rfl) ?_
  refine lv_iload_n hx hb dL_law_200 rfl (lv_at hl 3 rfl) ?_
  refine zr_iconst hx hb dL_law_201 ?_
  refine zr_iadd hx hb dL_law_202 ?_
  refine zr_sld hx hb hX hbl hbA hS hL (5 * i + 1) (by omega) (by omega) dL_law_203 ?_
  refine lv_aload_n hx hb dL_law_204 rfl (lv_at hl 0 rfl) ?_
  refine lv_iload_n hx hb dL_law_205 rfl (lv_at hl 3 rfl) ?_
  refine zr_iconst hx hb dL_law_206 ?_
  refine zr_iadd hx hb dL_law_207 ?_
  refine zr_sld hx hb hX hbl hbA hS hL (5 * i + 2) (by omega) (by omega) dL_law_208 ?_
  refine lv_aload_n hx hb dL_law_209 rfl (lv_at hl 0 rfl) ?_
  refine lv_iload_n hx hb dL_law_210 rfl (lv_at hl 3 rfl) ?_
  refine zr_iconst hx hb dL_law_211 ?_
  refine zr_iadd hx hb dL_law_212 ?_
  refine zr_sld hx hb hX hbl hbA hS hL (5 * i + 3) (by omega) (by omega) dL_law_213 ?_
  refine wr_callVi (As := [.int (zI ((xs (5 * i + 1)).toInt)), .int (zI ((xs (5 * i + 2)).toInt)), .int (zI ((xs (5 * i + 3)).toInt))]) (rest := [_]) ⟨hx, hb, hml, hown2, hts2⟩ (c_X2_setRtt l dC dI cI cZ cS q g w S V o (100 * (i : Int)) hg ((xs (5 * i + 1)).toInt) (zI_rng _) ((xs (5 * i + 2)).toInt) (zI_rng _) ((xs (5 * i + 3)).toInt) (zI_rng _)) (cwV 3 hts2 gL_law_X2_setRtt rfl rfl rfl (by decide +kernel) ⟨Nat.le_of_ble_eq_true rfl, Nat.le_of_ble_eq_true rfl⟩) (n_P2 hP) (n_D2 hD) hS hK 0 rfl rfl rfl hl.1 rfl (Nat.le_of_ble_eq_true rfl) dL_law_214 ⟨by show _ ≤ 1200000; omega, by show _ ≤ 5502250; omega⟩ (fun H2 locs2 hP2 hk2 hS => ?_)
  have hP := n_P2w hP hD hP2 hk2
  have hD := n_D2w (m2 := mdw cI cZ q (nSetRtt g ((xs (5 * i + 1)).toInt) ((xs (5 * i + 2)).toInt) ((xs (5 * i + 3)).toInt)) w S V o) hD rfl
  refine lv_icmp_eq (tgt := 847) hx hb dL_law_217 (by decide) (fun _ => ?_) (fun c9 => absurd rfl c9)
  exact fin _ _ _ _ (by omega) (by omega) ⟨a, hs, q, _, _, S, V, o, sf, T0, T1, rfl, gB_mono (nSetRtt_gB hg) (by omega), slR_mono s0 (by omega), slR_mono s1 (by omega), hP, hD⟩ hS
set_option maxHeartbeats 4000000 in
set_option maxRecDepth 100000 in
/-- the call 2: rtt -/
theorem lw_k2 (C0 : lw_At p s m meth c b L xs) (hL : L ≤ 2560) (hK : kK dC dI cI cZ cS s) (hi : i < 512) (h5 : 5 * i + 5 ≤ L) (hl : lv_has ls 4 [(0, .ref b), (1, .ref h), (2, .ref q0), (3, .int (zI (5 * (i : Int))))]) (fin : ∀ (H : Heap) (locs : List Loc) (cells slots : Nat), cells ≤ 120 + 20 * i → slots ≤ 2400 + 400 * i → lwI s dC dI cI cZ cS (100 * (i : Int) + 100) h q0 H → va_S (fun q : Nat => s.heap.size ≤ q) s.heap H locs → W p l e room_1 s m #[Value.ref b] below meth c H locs cells slots (lw_Z below #[Value.ref b] s) (F0 m 847 ls [])) (hI : lwI s dC dI cI cZ cS (100 * (i : Int)) h q0 H) (hS : va_S (fun q : Nat => s.heap.size ≤ q) s.heap H locs) : W p l e room_1 s m #[Value.ref b] below meth c H locs (100 + 20 * i) (2000 + 400 * i) (lw_Z below #[Value.ref b] s) (F0 m 222 ls []) := by
  obtain ⟨hx, hb, hr, hml, hown, hts, hX, hbl, hlocks, hgv⟩ := C0
  have hown2 : s.vm.findClass RL = some m.cls := hown
  have hts2 : ∀ w ∈ wsL_law, w.before #[Value.ref b] s = true := fun w hw => hts w (wsL_law_in w hw)
  have hbA : ¬ (fun q : Nat => s.heap.size ≤ q) b := Nat.not_le.mpr hbl
  obtain ⟨a, hs, q, g, w, S, V, o, sf, T0, T1, rfl, hg, s0, s1, hP, hD⟩ := hI
  have hg2 : gB g (100 * (i : Int) + 100) := gB_mono hg (by omega)
  refine lv_aload_n hx hb dL_law_222 rfl (lv_at hl 1 rfl) ?_
  refine lv_aload_n hx hb dL_law_223 rfl (lv_at hl 0 rfl) ?_
  refine lv_iload_n hx hb dL_law_224 rfl (lv_at hl 3 rfl) ?_
  refine zr_iconst hx hb dL_law_225 ?_
  refine zr_iadd hx hb dL_law_226 ?_
  refine zr_sld hx hb hX hbl hbA hS hL (5 * i + 1) (by omega) (by omega) dL_law_227 ?_
  refine lv_aload_n hx hb dL_law_228 rfl (lv_at hl 0 rfl) ?_
  refine lv_iload_n hx hb dL_law_229 rfl (lv_at hl 3 rfl) ?_
  refine zr_iconst hx hb dL_law_230 ?_
  refine zr_iadd hx hb dL_law_231 ?_
  refine zr_sld hx hb hX hbl hbA hS hL (5 * i + 2) (by omega) (by omega) dL_law_232 ?_
  refine rd_callV (As := [.int (zI ((xs (5 * i + 1)).toInt)), .int (zI ((xs (5 * i + 2)).toInt))]) (rest := []) ⟨hx, hb, hml, hown2, hts2⟩ (c_X1_rtt l dC dI cI cZ cS a h hs g (100 * (i : Int)) hg ((xs (5 * i + 1)).toInt) (zI_rng _) ((xs (5 * i + 2)).toInt) (zI_rng _)) (cwV 2 hts2 gL_law_X1_rtt rfl rfl rfl (by decide +kernel) ⟨Nat.le_of_ble_eq_true rfl, Nat.le_of_ble_eq_true rfl⟩) (n_P1 hP) hK 7 rfl rfl rfl hl.1 rfl (Nat.le_of_ble_eq_true rfl) dL_law_233 ⟨by show _ ≤ 1200000; omega, by show _ ≤ 5502250; omega⟩ ?_
  refine lv_aload_n hx hb dL_law_236 rfl (lv_at hl 2 rfl) ?_
  refine lv_aload_n hx hb dL_law_237 rfl (lv_at hl 0 rfl) ?_
  refine lv_iload_n hx hb dL_law_238 rfl (lv_at hl 3 rfl) ?_
  refine zr_iconst hx hb dL_law_239 ?_
  refine zr_iadd hx hb dL_law_240 ?_
  refine zr_sld hx hb hX hbl hbA hS hL (5 * i + 1) (by omega) (by omega) dL_law_241 ?_
  refine lv_aload_n hx hb dL_law_242 rfl (lv_at hl 0 rfl) ?_
  refine lv_iload_n hx hb dL_law_243 rfl (lv_at hl 3 rfl) ?_
  refine zr_iconst hx hb dL_law_244 ?_
  refine zr_iadd hx hb dL_law_245 ?_
  refine zr_sld hx hb hX hbl hbA hS hL (5 * i + 2) (by omega) (by omega) dL_law_246 ?_
  refine rd_callV (As := [.int (zI ((xs (5 * i + 1)).toInt)), .int (zI ((xs (5 * i + 2)).toInt))]) (rest := [_]) ⟨hx, hb, hml, hown2, hts2⟩ (c_X2_rtt l dC dI cI cZ cS q g w S V o (100 * (i : Int)) hg ((xs (5 * i + 1)).toInt) (zI_rng _) ((xs (5 * i + 2)).toInt) (zI_rng _)) (cwV 2 hts2 gL_law_X2_rtt rfl rfl rfl (by decide +kernel) ⟨Nat.le_of_ble_eq_true rfl, Nat.le_of_ble_eq_true rfl⟩) (n_P2 hP) hK 0 rfl rfl rfl hl.1 rfl (Nat.le_of_ble_eq_true rfl) dL_law_247 ⟨by show _ ≤ 1200000; omega, by show _ ≤ 5502250; omega⟩ ?_
  refine lv_icmp_eq (tgt := 847) hx hb dL_law_250 (by decide) (fun _ => ?_) (fun c9 => absurd rfl c9)
  exact fin _ _ _ _ (by omega) (by omega) ⟨a, hs, q, g, w, S, V, o, sf, T0, T1, rfl, hg2, slR_mono s0 (by omega), slR_mono s1 (by omega), hP, hD⟩ hS
set_option maxHeartbeats 4000000 in
set_option maxRecDepth 100000 in
/-- the call 3: setLie -/
theorem lw_k3 (C0 : lw_At p s m meth c b L xs) (hL : L ≤ 2560) (hK : kK dC dI cI cZ cS s) (hi : i < 512) (h5 : 5 * i + 5 ≤ L) (hl : lv_has ls 4 [(0, .ref b), (1, .ref h), (2, .ref q0), (3, .int (zI (5 * (i : Int))))]) (fin : ∀ (H : Heap) (locs : List Loc) (cells slots : Nat), cells ≤ 120 + 20 * i → slots ≤ 2400 + 400 * i → lwI s dC dI cI cZ cS (100 * (i : Int) + 100) h q0 H → va_S (fun q : Nat => s.heap.size ≤ q) s.heap H locs → W p l e room_1 s m #[Value.ref b] below meth c H locs cells slots (lw_Z below #[Value.ref b] s) (F0 m 847 ls [])) (hI : lwI s dC dI cI cZ cS (100 * (i : Int)) h q0 H) (hS : va_S (fun q : Nat => s.heap.size ≤ q) s.heap H locs) : W p l e room_1 s m #[Value.ref b] below meth c H locs (100 + 20 * i) (2000 + 400 * i) (lw_Z below #[Value.ref b] s) (F0 m 255 ls []) := by
  obtain ⟨hx, hb, hr, hml, hown, hts, hX, hbl, hlocks, hgv⟩ := C0
  have hown2 : s.vm.findClass RL = some m.cls := hown
  have hts2 : ∀ w ∈ wsL_law, w.before #[Value.ref b] s = true := fun w hw => hts w (wsL_law_in w hw)
  have hbA : ¬ (fun q : Nat => s.heap.size ≤ q) b := Nat.not_le.mpr hbl
  obtain ⟨a, hs, q, g, w, S, V, o, sf, T0, T1, rfl, hg, s0, s1, hP, hD⟩ := hI
  have hg2 : gB g (100 * (i : Int) + 100) := gB_mono hg (by omega)
  refine lv_aload_n hx hb dL_law_255 rfl (lv_at hl 1 rfl) ?_
  refine lv_aload_n hx hb dL_law_256 rfl (lv_at hl 0 rfl) ?_
  refine lv_iload_n hx hb dL_law_257 rfl (lv_at hl 3 rfl) ?_
  refine zr_iconst hx hb dL_law_258 ?_
  refine zr_iadd hx hb dL_law_259 ?_
  refine zr_sld hx hb hX hbl hbA hS hL (5 * i + 1) (by omega) (by omega) dL_law_260 ?_
  refine lv_aload_n hx hb dL_law_261 rfl (lv_at hl 0 rfl) ?_
  refine lv_iload_n hx hb dL_law_262 rfl (lv_at hl 3 rfl) ?_
  refine zr_iconst hx hb dL_law_263 ?_
  refine zr_iadd hx hb dL_law_264 ?_
  refine zr_sld hx hb hX hbl hbA hS hL (5 * i + 2) (by omega) (by omega) dL_law_265 ?_
  refine wr_callVi (As := [.int (zI ((xs (5 * i + 1)).toInt)), .int (zI ((xs (5 * i + 2)).toInt))]) (rest := []) ⟨hx, hb, hml, hown2, hts2⟩ (c_X1_setLie l dC dI cI cZ cS a h hs g (100 * (i : Int)) hg ((xs (5 * i + 1)).toInt) (zI_rng _) ((xs (5 * i + 2)).toInt) (zI_rng _)) (cwV 2 hts2 gL_law_X1_setLie rfl rfl rfl (by decide +kernel) ⟨Nat.le_of_ble_eq_true rfl, Nat.le_of_ble_eq_true rfl⟩) (n_P1 hP) (n_D1 hD) hS hK 7 rfl rfl rfl hl.1 rfl (Nat.le_of_ble_eq_true rfl) dL_law_266 ⟨by show _ ≤ 1200000; omega, by show _ ≤ 5502250; omega⟩ (fun H1 locs1 hP1 hk1 hS => ?_)
  have hP := n_P1w hP hD hP1 hk1
  have hD := n_D1w (c2 := stw cI a (nSetLie g ((xs (5 * i + 1)).toInt) ((xs (5 * i + 2)).toInt)) ++ mnw a h hs) hD rfl
  refine lv_aload_n hx hb dL_law_269 rfl (lv_at hl 2 rfl) ?_
  refine lv_aload_n hx hb dL_law_270 rfl (lv_at hl 0 rfl) ?_
  refine lv_iload_n hx hb dL_law_271 rfl (lv_at hl 3 rfl) ?_
  refine zr_iconst hx hb dL_law_272 ?_
  refine zr_iadd hx hb dL_law_273 ?_
  refine zr_sld hx hb hX hbl hbA hS hL (5 * i + 1) (by omega) (by omega) dL_law_274 ?_
  refine lv_aload_n hx hb dL_law_275 rfl (lv_at hl 0 rfl) ?_
  refine lv_iload_n hx hb dL_law_276 rfl (lv_at hl 3 rfl) ?_
  refine zr_iconst hx hb dL_law_277 ?_
  refine zr_iadd hx hb dL_law_278 ?_
  refine zr_sld hx hb hX hbl hbA hS hL (5 * i + 2) (by omega) (by omega) dL_law_279 ?_
  refine wr_callVi (As := [.int (zI ((xs (5 * i + 1)).toInt)), .int (zI ((xs (5 * i + 2)).toInt))]) (rest := [_]) ⟨hx, hb, hml, hown2, hts2⟩ (c_X2_setLie l dC dI cI cZ cS q g w S V o (100 * (i : Int)) hg ((xs (5 * i + 1)).toInt) (zI_rng _) ((xs (5 * i + 2)).toInt) (zI_rng _)) (cwV 2 hts2 gL_law_X2_setLie rfl rfl rfl (by decide +kernel) ⟨Nat.le_of_ble_eq_true rfl, Nat.le_of_ble_eq_true rfl⟩) (n_P2 hP) (n_D2 hD) hS hK 0 rfl rfl rfl hl.1 rfl (Nat.le_of_ble_eq_true rfl) dL_law_280 ⟨by show _ ≤ 1200000; omega, by show _ ≤ 5502250; omega⟩ (fun H2 locs2 hP2 hk2 hS => ?_)
  have hP := n_P2w hP hD hP2 hk2
  have hD := n_D2w (m2 := mdw cI cZ q (nSetLie g ((xs (5 * i + 1)).toInt) ((xs (5 * i + 2)).toInt)) w S V o) hD rfl
  refine lv_icmp_eq (tgt := 847) hx hb dL_law_283 (by decide) (fun _ => ?_) (fun c9 => absurd rfl c9)
  exact fin _ _ _ _ (by omega) (by omega) ⟨a, hs, q, _, _, S, V, o, sf, T0, T1, rfl, gB_mono (nSetLie_gB hg) (by omega), slR_mono s0 (by omega), slR_mono s1 (by omega), hP, hD⟩ hS
set_option maxHeartbeats 4000000 in
set_option maxRecDepth 100000 in
/-- the call 4: setGains -/
theorem lw_k4 (C0 : lw_At p s m meth c b L xs) (hL : L ≤ 2560) (hK : kK dC dI cI cZ cS s) (hi : i < 512) (h5 : 5 * i + 5 ≤ L) (hl : lv_has ls 4 [(0, .ref b), (1, .ref h), (2, .ref q0), (3, .int (zI (5 * (i : Int))))]) (fin : ∀ (H : Heap) (locs : List Loc) (cells slots : Nat), cells ≤ 120 + 20 * i → slots ≤ 2400 + 400 * i → lwI s dC dI cI cZ cS (100 * (i : Int) + 100) h q0 H → va_S (fun q : Nat => s.heap.size ≤ q) s.heap H locs → W p l e room_1 s m #[Value.ref b] below meth c H locs cells slots (lw_Z below #[Value.ref b] s) (F0 m 847 ls [])) (hI : lwI s dC dI cI cZ cS (100 * (i : Int)) h q0 H) (hS : va_S (fun q : Nat => s.heap.size ≤ q) s.heap H locs) : W p l e room_1 s m #[Value.ref b] below meth c H locs (100 + 20 * i) (2000 + 400 * i) (lw_Z below #[Value.ref b] s) (F0 m 288 ls []) := by
  obtain ⟨hx, hb, hr, hml, hown, hts, hX, hbl, hlocks, hgv⟩ := C0
  have hown2 : s.vm.findClass RL = some m.cls := hown
  have hts2 : ∀ w ∈ wsL_law, w.before #[Value.ref b] s = true := fun w hw => hts w (wsL_law_in w hw)
  have hbA : ¬ (fun q : Nat => s.heap.size ≤ q) b := Nat.not_le.mpr hbl
  obtain ⟨a, hs, q, g, w, S, V, o, sf, T0, T1, rfl, hg, s0, s1, hP, hD⟩ := hI
  have hg2 : gB g (100 * (i : Int) + 100) := gB_mono hg (by omega)
  refine lv_aload_n hx hb dL_law_288 rfl (lv_at hl 1 rfl) ?_
  refine lv_aload_n hx hb dL_law_289 rfl (lv_at hl 0 rfl) ?_
  refine lv_iload_n hx hb dL_law_290 rfl (lv_at hl 3 rfl) ?_
  refine zr_iconst hx hb dL_law_291 ?_
  refine zr_iadd hx hb dL_law_292 ?_
  refine zr_sld hx hb hX hbl hbA hS hL (5 * i + 1) (by omega) (by omega) dL_law_293 ?_
  refine lv_aload_n hx hb dL_law_294 rfl (lv_at hl 0 rfl) ?_
  refine lv_iload_n hx hb dL_law_295 rfl (lv_at hl 3 rfl) ?_
  refine zr_iconst hx hb dL_law_296 ?_
  refine zr_iadd hx hb dL_law_297 ?_
  refine zr_sld hx hb hX hbl hbA hS hL (5 * i + 2) (by omega) (by omega) dL_law_298 ?_
  refine wr_callVi (As := [.int (zI ((xs (5 * i + 1)).toInt)), .int (zI ((xs (5 * i + 2)).toInt))]) (rest := []) ⟨hx, hb, hml, hown2, hts2⟩ (c_X1_setGains l dC dI cI cZ cS a h hs g (100 * (i : Int)) hg ((xs (5 * i + 1)).toInt) (zI_rng _) ((xs (5 * i + 2)).toInt) (zI_rng _)) (cwV 2 hts2 gL_law_X1_setGains rfl rfl rfl (by decide +kernel) ⟨Nat.le_of_ble_eq_true rfl, Nat.le_of_ble_eq_true rfl⟩) (n_P1 hP) (n_D1 hD) hS hK 7 rfl rfl rfl hl.1 rfl (Nat.le_of_ble_eq_true rfl) dL_law_299 ⟨by show _ ≤ 1200000; omega, by show _ ≤ 5502250; omega⟩ (fun H1 locs1 hP1 hk1 hS => ?_)
  have hP := n_P1w hP hD hP1 hk1
  have hD := n_D1w (c2 := stw cI a (nSetGains g ((xs (5 * i + 1)).toInt) ((xs (5 * i + 2)).toInt)) ++ mnw a h hs) hD rfl
  refine lv_aload_n hx hb dL_law_302 rfl (lv_at hl 2 rfl) ?_
  refine lv_aload_n hx hb dL_law_303 rfl (lv_at hl 0 rfl) ?_
  refine lv_iload_n hx hb dL_law_304 rfl (lv_at hl 3 rfl) ?_
  refine zr_iconst hx hb dL_law_305 ?_
  refine zr_iadd hx hb dL_law_306 ?_
  refine zr_sld hx hb hX hbl hbA hS hL (5 * i + 1) (by omega) (by omega) dL_law_307 ?_
  refine lv_aload_n hx hb dL_law_308 rfl (lv_at hl 0 rfl) ?_
  refine lv_iload_n hx hb dL_law_309 rfl (lv_at hl 3 rfl) ?_
  refine zr_iconst hx hb dL_law_310 ?_
  refine zr_iadd hx hb dL_law_311 ?_
  refine zr_sld hx hb hX hbl hbA hS hL (5 * i + 2) (by omega) (by omega) dL_law_312 ?_
  refine wr_callVi (As := [.int (zI ((xs (5 * i + 1)).toInt)), .int (zI ((xs (5 * i + 2)).toInt))]) (rest := [_]) ⟨hx, hb, hml, hown2, hts2⟩ (c_X2_setGains l dC dI cI cZ cS q g w S V o (100 * (i : Int)) hg ((xs (5 * i + 1)).toInt) (zI_rng _) ((xs (5 * i + 2)).toInt) (zI_rng _)) (cwV 2 hts2 gL_law_X2_setGains rfl rfl rfl (by decide +kernel) ⟨Nat.le_of_ble_eq_true rfl, Nat.le_of_ble_eq_true rfl⟩) (n_P2 hP) (n_D2 hD) hS hK 0 rfl rfl rfl hl.1 rfl (Nat.le_of_ble_eq_true rfl) dL_law_313 ⟨by show _ ≤ 1200000; omega, by show _ ≤ 5502250; omega⟩ (fun H2 locs2 hP2 hk2 hS => ?_)
  have hP := n_P2w hP hD hP2 hk2
  have hD := n_D2w (m2 := mdw cI cZ q (nSetGains g ((xs (5 * i + 1)).toInt) ((xs (5 * i + 2)).toInt)) w S V o) hD rfl
  refine lv_icmp_eq (tgt := 847) hx hb dL_law_316 (by decide) (fun _ => ?_) (fun c9 => absurd rfl c9)
  exact fin _ _ _ _ (by omega) (by omega) ⟨a, hs, q, _, _, S, V, o, sf, T0, T1, rfl, gB_mono (nSetGains_gB hg) (by omega), slR_mono s0 (by omega), slR_mono s1 (by omega), hP, hD⟩ hS
set_option maxHeartbeats 4000000 in
set_option maxRecDepth 100000 in
/-- the call 5: setMaxStep -/
theorem lw_k5 (C0 : lw_At p s m meth c b L xs) (hL : L ≤ 2560) (hK : kK dC dI cI cZ cS s) (hi : i < 512) (h5 : 5 * i + 5 ≤ L) (hl : lv_has ls 4 [(0, .ref b), (1, .ref h), (2, .ref q0), (3, .int (zI (5 * (i : Int))))]) (fin : ∀ (H : Heap) (locs : List Loc) (cells slots : Nat), cells ≤ 120 + 20 * i → slots ≤ 2400 + 400 * i → lwI s dC dI cI cZ cS (100 * (i : Int) + 100) h q0 H → va_S (fun q : Nat => s.heap.size ≤ q) s.heap H locs → W p l e room_1 s m #[Value.ref b] below meth c H locs cells slots (lw_Z below #[Value.ref b] s) (F0 m 847 ls [])) (hI : lwI s dC dI cI cZ cS (100 * (i : Int)) h q0 H) (hS : va_S (fun q : Nat => s.heap.size ≤ q) s.heap H locs) : W p l e room_1 s m #[Value.ref b] below meth c H locs (100 + 20 * i) (2000 + 400 * i) (lw_Z below #[Value.ref b] s) (F0 m 321 ls []) := by
  obtain ⟨hx, hb, hr, hml, hown, hts, hX, hbl, hlocks, hgv⟩ := C0
  have hown2 : s.vm.findClass RL = some m.cls := hown
  have hts2 : ∀ w ∈ wsL_law, w.before #[Value.ref b] s = true := fun w hw => hts w (wsL_law_in w hw)
  have hbA : ¬ (fun q : Nat => s.heap.size ≤ q) b := Nat.not_le.mpr hbl
  obtain ⟨a, hs, q, g, w, S, V, o, sf, T0, T1, rfl, hg, s0, s1, hP, hD⟩ := hI
  have hg2 : gB g (100 * (i : Int) + 100) := gB_mono hg (by omega)
  refine lv_aload_n hx hb dL_law_321 rfl (lv_at hl 1 rfl) ?_
  refine lv_aload_n hx hb dL_law_322 rfl (lv_at hl 0 rfl) ?_
  refine lv_iload_n hx hb dL_law_323 rfl (lv_at hl 3 rfl) ?_
  refine zr_iconst hx hb dL_law_324 ?_
  refine zr_iadd hx hb dL_law_325 ?_
  refine zr_sld hx hb hX hbl hbA hS hL (5 * i + 1) (by omega) (by omega) dL_law_326 ?_
  refine wr_callVi (As := [.int (zI ((xs (5 * i + 1)).toInt))]) (rest := []) ⟨hx, hb, hml, hown2, hts2⟩ (c_X1_setMaxStep l dC dI cI cZ cS a h hs g (100 * (i : Int)) hg ((xs (5 * i + 1)).toInt) (zI_rng _)) (cwV 1 hts2 gL_law_X1_setMaxStep rfl rfl rfl (by decide +kernel) ⟨Nat.le_of_ble_eq_true rfl, Nat.le_of_ble_eq_true rfl⟩) (n_P1 hP) (n_D1 hD) hS hK 7 rfl rfl rfl hl.1 rfl (Nat.le_of_ble_eq_true rfl) dL_law_327 ⟨by show _ ≤ 1200000; omega, by show _ ≤ 5502250; omega⟩ (fun H1 locs1 hP1 hk1 hS => ?_)
  have hP := n_P1w hP hD hP1 hk1
  have hD := n_D1w (c2 := stw cI a (nSetMaxStep g ((xs (5 * i + 1)).toInt)) ++ mnw a h hs) hD rfl
  refine lv_aload_n hx hb dL_law_330 rfl (lv_at hl 2 rfl) ?_
  refine lv_aload_n hx hb dL_law_331 rfl (lv_at hl 0 rfl) ?_
  refine lv_iload_n hx hb dL_law_332 rfl (lv_at hl 3 rfl) ?_
  refine zr_iconst hx hb dL_law_333 ?_
  refine zr_iadd hx hb dL_law_334 ?_
  refine zr_sld hx hb hX hbl hbA hS hL (5 * i + 1) (by omega) (by omega) dL_law_335 ?_
  refine wr_callVi (As := [.int (zI ((xs (5 * i + 1)).toInt))]) (rest := [_]) ⟨hx, hb, hml, hown2, hts2⟩ (c_X2_setMaxStep l dC dI cI cZ cS q g w S V o (100 * (i : Int)) hg ((xs (5 * i + 1)).toInt) (zI_rng _)) (cwV 1 hts2 gL_law_X2_setMaxStep rfl rfl rfl (by decide +kernel) ⟨Nat.le_of_ble_eq_true rfl, Nat.le_of_ble_eq_true rfl⟩) (n_P2 hP) (n_D2 hD) hS hK 0 rfl rfl rfl hl.1 rfl (Nat.le_of_ble_eq_true rfl) dL_law_336 ⟨by show _ ≤ 1200000; omega, by show _ ≤ 5502250; omega⟩ (fun H2 locs2 hP2 hk2 hS => ?_)
  have hP := n_P2w hP hD hP2 hk2
  have hD := n_D2w (m2 := mdw cI cZ q (nSetMaxStep g ((xs (5 * i + 1)).toInt)) w S V o) hD rfl
  refine lv_icmp_eq (tgt := 847) hx hb dL_law_339 (by decide) (fun _ => ?_) (fun c9 => absurd rfl c9)
  exact fin _ _ _ _ (by omega) (by omega) ⟨a, hs, q, _, _, S, V, o, sf, T0, T1, rfl, gB_mono (nSetMaxStep_gB hg) (by omega), slR_mono s0 (by omega), slR_mono s1 (by omega), hP, hD⟩ hS
set_option maxHeartbeats 4000000 in
set_option maxRecDepth 100000 in
/-- the call 6: place -/
theorem lw_k6 (C0 : lw_At p s m meth c b L xs) (hL : L ≤ 2560) (hK : kK dC dI cI cZ cS s) (hi : i < 512) (h5 : 5 * i + 5 ≤ L) (hl : lv_has ls 4 [(0, .ref b), (1, .ref h), (2, .ref q0), (3, .int (zI (5 * (i : Int))))]) (fin : ∀ (H : Heap) (locs : List Loc) (cells slots : Nat), cells ≤ 120 + 20 * i → slots ≤ 2400 + 400 * i → lwI s dC dI cI cZ cS (100 * (i : Int) + 100) h q0 H → va_S (fun q : Nat => s.heap.size ≤ q) s.heap H locs → W p l e room_1 s m #[Value.ref b] below meth c H locs cells slots (lw_Z below #[Value.ref b] s) (F0 m 847 ls [])) (hI : lwI s dC dI cI cZ cS (100 * (i : Int)) h q0 H) (hS : va_S (fun q : Nat => s.heap.size ≤ q) s.heap H locs) : W p l e room_1 s m #[Value.ref b] below meth c H locs (100 + 20 * i) (2000 + 400 * i) (lw_Z below #[Value.ref b] s) (F0 m 344 ls []) := by
  obtain ⟨hx, hb, hr, hml, hown, hts, hX, hbl, hlocks, hgv⟩ := C0
  have hown2 : s.vm.findClass RL = some m.cls := hown
  have hts2 : ∀ w ∈ wsL_law, w.before #[Value.ref b] s = true := fun w hw => hts w (wsL_law_in w hw)
  have hbA : ¬ (fun q : Nat => s.heap.size ≤ q) b := Nat.not_le.mpr hbl
  obtain ⟨a, hs, q, g, w, S, V, o, sf, T0, T1, rfl, hg, s0, s1, hP, hD⟩ := hI
  have hg2 : gB g (100 * (i : Int) + 100) := gB_mono hg (by omega)
  refine lv_aload_n hx hb dL_law_344 rfl (lv_at hl 1 rfl) ?_
  refine lv_aload_n hx hb dL_law_345 rfl (lv_at hl 0 rfl) ?_
  refine lv_iload_n hx hb dL_law_346 rfl (lv_at hl 3 rfl) ?_
  refine zr_iconst hx hb dL_law_347 ?_
  refine zr_iadd hx hb dL_law_348 ?_
  refine zr_sld hx hb hX hbl hbA hS hL (5 * i + 1) (by omega) (by omega) dL_law_349 ?_
  refine lv_aload_n hx hb dL_law_350 rfl (lv_at hl 0 rfl) ?_
  refine lv_iload_n hx hb dL_law_351 rfl (lv_at hl 3 rfl) ?_
  refine zr_iconst hx hb dL_law_352 ?_
  refine zr_iadd hx hb dL_law_353 ?_
  refine zr_sld hx hb hX hbl hbA hS hL (5 * i + 2) (by omega) (by omega) dL_law_354 ?_
  refine lv_aload_n hx hb dL_law_355 rfl (lv_at hl 0 rfl) ?_
  refine lv_iload_n hx hb dL_law_356 rfl (lv_at hl 3 rfl) ?_
  refine zr_iconst hx hb dL_law_357 ?_
  refine zr_iadd hx hb dL_law_358 ?_
  refine zr_sld hx hb hX hbl hbA hS hL (5 * i + 3) (by omega) (by omega) dL_law_359 ?_
  refine lv_aload_n hx hb dL_law_360 rfl (lv_at hl 0 rfl) ?_
  refine lv_iload_n hx hb dL_law_361 rfl (lv_at hl 3 rfl) ?_
  refine zr_iconst hx hb dL_law_362 ?_
  refine zr_iadd hx hb dL_law_363 ?_
  refine zr_sld hx hb hX hbl hbA hS hL (5 * i + 4) (by omega) (by omega) dL_law_364 ?_
  refine wr_callVi (As := [.int (zI ((xs (5 * i + 1)).toInt)), .int (zI ((xs (5 * i + 2)).toInt)), .int (zI ((xs (5 * i + 3)).toInt)), .int (zI ((xs (5 * i + 4)).toInt))]) (rest := []) ⟨hx, hb, hml, hown2, hts2⟩ (c_X1_place l dC dI cI cZ cS a h hs g (100 * (i : Int)) hg ((xs (5 * i + 1)).toInt) (zI_rng _) ((xs (5 * i + 2)).toInt) (zI_rng _) ((xs (5 * i + 3)).toInt) (zI_rng _) ((xs (5 * i + 4)).toInt) (zI_rng _)) (cwV 4 hts2 gL_law_X1_place rfl rfl rfl (by decide +kernel) ⟨Nat.le_of_ble_eq_true rfl, Nat.le_of_ble_eq_true rfl⟩) (n_P1 hP) (n_D1 hD) hS hK 7 rfl rfl rfl hl.1 rfl (Nat.le_of_ble_eq_true rfl) dL_law_365 ⟨by show _ ≤ 1200000; omega, by show _ ≤ 5502250; omega⟩ (fun H1 locs1 hP1 hk1 hS => ?_)
  have hP := n_P1w hP hD hP1 hk1
  have hD := n_D1w (c2 := stw cI a (nPlace g ((xs (5 * i + 1)).toInt) ((xs (5 * i + 2)).toInt) ((xs (5 * i + 3)).toInt) ((xs (5 * i + 4)).toInt)) ++ mnw a h hs) hD rfl
  refine lv_aload_n hx hb dL_law_368 rfl (lv_at hl 2 rfl) ?_
  refine lv_aload_n hx hb dL_law_369 rfl (lv_at hl 0 rfl) ?_
  refine lv_iload_n hx hb dL_law_370 rfl (lv_at hl 3 rfl) ?_
  refine zr_iconst hx hb dL_law_371 ?_
  refine zr_iadd hx hb dL_law_372 ?_
  refine zr_sld hx hb hX hbl hbA hS hL (5 * i + 1) (by omega) (by omega) dL_law_373 ?_
  refine lv_aload_n hx hb dL_law_374 rfl (lv_at hl 0 rfl) ?_
  refine lv_iload_n hx hb dL_law_375 rfl (lv_at hl 3 rfl) ?_
  refine zr_iconst hx hb dL_law_376 ?_
  refine zr_iadd hx hb dL_law_377 ?_
  refine zr_sld hx hb hX hbl hbA hS hL (5 * i + 2) (by omega) (by omega) dL_law_378 ?_
  refine lv_aload_n hx hb dL_law_379 rfl (lv_at hl 0 rfl) ?_
  refine lv_iload_n hx hb dL_law_380 rfl (lv_at hl 3 rfl) ?_
  refine zr_iconst hx hb dL_law_381 ?_
  refine zr_iadd hx hb dL_law_382 ?_
  refine zr_sld hx hb hX hbl hbA hS hL (5 * i + 3) (by omega) (by omega) dL_law_383 ?_
  refine lv_aload_n hx hb dL_law_384 rfl (lv_at hl 0 rfl) ?_
  refine lv_iload_n hx hb dL_law_385 rfl (lv_at hl 3 rfl) ?_
  refine zr_iconst hx hb dL_law_386 ?_
  refine zr_iadd hx hb dL_law_387 ?_
  refine zr_sld hx hb hX hbl hbA hS hL (5 * i + 4) (by omega) (by omega) dL_law_388 ?_
  refine wr_callVi (As := [.int (zI ((xs (5 * i + 1)).toInt)), .int (zI ((xs (5 * i + 2)).toInt)), .int (zI ((xs (5 * i + 3)).toInt)), .int (zI ((xs (5 * i + 4)).toInt))]) (rest := [_]) ⟨hx, hb, hml, hown2, hts2⟩ (c_X2_place l dC dI cI cZ cS q g w S V o (100 * (i : Int)) hg ((xs (5 * i + 1)).toInt) (zI_rng _) ((xs (5 * i + 2)).toInt) (zI_rng _) ((xs (5 * i + 3)).toInt) (zI_rng _) ((xs (5 * i + 4)).toInt) (zI_rng _)) (cwV 4 hts2 gL_law_X2_place rfl rfl rfl (by decide +kernel) ⟨Nat.le_of_ble_eq_true rfl, Nat.le_of_ble_eq_true rfl⟩) (n_P2 hP) (n_D2 hD) hS hK 0 rfl rfl rfl hl.1 rfl (Nat.le_of_ble_eq_true rfl) dL_law_389 ⟨by show _ ≤ 1200000; omega, by show _ ≤ 5502250; omega⟩ (fun H2 locs2 hP2 hk2 hS => ?_)
  have hP := n_P2w hP hD hP2 hk2
  have hD := n_D2w (m2 := mdw cI cZ q (nPlace g ((xs (5 * i + 1)).toInt) ((xs (5 * i + 2)).toInt) ((xs (5 * i + 3)).toInt) ((xs (5 * i + 4)).toInt)) w S V o) hD rfl
  refine lv_icmp_eq (tgt := 847) hx hb dL_law_392 (by decide) (fun _ => ?_) (fun c9 => absurd rfl c9)
  exact fin _ _ _ _ (by omega) (by omega) ⟨a, hs, q, _, _, S, V, o, sf, T0, T1, rfl, gB_mono (nPlace_gB hg) (by omega), slR_mono s0 (by omega), slR_mono s1 (by omega), hP, hD⟩ hS
set_option maxHeartbeats 4000000 in
set_option maxRecDepth 100000 in
/-- the call 7: x -/
theorem lw_k7 (C0 : lw_At p s m meth c b L xs) (hL : L ≤ 2560) (hK : kK dC dI cI cZ cS s) (hi : i < 512) (h5 : 5 * i + 5 ≤ L) (hl : lv_has ls 4 [(0, .ref b), (1, .ref h), (2, .ref q0), (3, .int (zI (5 * (i : Int))))]) (fin : ∀ (H : Heap) (locs : List Loc) (cells slots : Nat), cells ≤ 120 + 20 * i → slots ≤ 2400 + 400 * i → lwI s dC dI cI cZ cS (100 * (i : Int) + 100) h q0 H → va_S (fun q : Nat => s.heap.size ≤ q) s.heap H locs → W p l e room_1 s m #[Value.ref b] below meth c H locs cells slots (lw_Z below #[Value.ref b] s) (F0 m 847 ls [])) (hI : lwI s dC dI cI cZ cS (100 * (i : Int)) h q0 H) (hS : va_S (fun q : Nat => s.heap.size ≤ q) s.heap H locs) : W p l e room_1 s m #[Value.ref b] below meth c H locs (100 + 20 * i) (2000 + 400 * i) (lw_Z below #[Value.ref b] s) (F0 m 397 ls []) := by
  obtain ⟨hx, hb, hr, hml, hown, hts, hX, hbl, hlocks, hgv⟩ := C0
  have hown2 : s.vm.findClass RL = some m.cls := hown
  have hts2 : ∀ w ∈ wsL_law, w.before #[Value.ref b] s = true := fun w hw => hts w (wsL_law_in w hw)
  have hbA : ¬ (fun q : Nat => s.heap.size ≤ q) b := Nat.not_le.mpr hbl
  obtain ⟨a, hs, q, g, w, S, V, o, sf, T0, T1, rfl, hg, s0, s1, hP, hD⟩ := hI
  have hg2 : gB g (100 * (i : Int) + 100) := gB_mono hg (by omega)
  refine lv_aload_n hx hb dL_law_397 rfl (lv_at hl 1 rfl) ?_
  refine lv_aload_n hx hb dL_law_398 rfl (lv_at hl 0 rfl) ?_
  refine lv_iload_n hx hb dL_law_399 rfl (lv_at hl 3 rfl) ?_
  refine zr_iconst hx hb dL_law_400 ?_
  refine zr_iadd hx hb dL_law_401 ?_
  refine zr_sld hx hb hX hbl hbA hS hL (5 * i + 1) (by omega) (by omega) dL_law_402 ?_
  refine rd_callV (As := [.int (zI ((xs (5 * i + 1)).toInt))]) (rest := []) ⟨hx, hb, hml, hown2, hts2⟩ (c_X1_x l dC dI cI cZ cS a h hs g (100 * (i : Int)) hg ((xs (5 * i + 1)).toInt) (zI_rng _)) (cwV 1 hts2 gL_law_X1_x rfl rfl rfl (by decide +kernel) ⟨Nat.le_of_ble_eq_true rfl, Nat.le_of_ble_eq_true rfl⟩) (n_P1 hP) hK 7 rfl rfl rfl hl.1 rfl (Nat.le_of_ble_eq_true rfl) dL_law_403 ⟨by show _ ≤ 1200000; omega, by show _ ≤ 5502250; omega⟩ ?_
  refine lv_aload_n hx hb dL_law_406 rfl (lv_at hl 2 rfl) ?_
  refine lv_aload_n hx hb dL_law_407 rfl (lv_at hl 0 rfl) ?_
  refine lv_iload_n hx hb dL_law_408 rfl (lv_at hl 3 rfl) ?_
  refine zr_iconst hx hb dL_law_409 ?_
  refine zr_iadd hx hb dL_law_410 ?_
  refine zr_sld hx hb hX hbl hbA hS hL (5 * i + 1) (by omega) (by omega) dL_law_411 ?_
  refine rd_callV (As := [.int (zI ((xs (5 * i + 1)).toInt))]) (rest := [_]) ⟨hx, hb, hml, hown2, hts2⟩ (c_X2_x l dC dI cI cZ cS q g w S V o (100 * (i : Int)) hg ((xs (5 * i + 1)).toInt) (zI_rng _)) (cwV 1 hts2 gL_law_X2_x rfl rfl rfl (by decide +kernel) ⟨Nat.le_of_ble_eq_true rfl, Nat.le_of_ble_eq_true rfl⟩) (n_P2 hP) hK 0 rfl rfl rfl hl.1 rfl (Nat.le_of_ble_eq_true rfl) dL_law_412 ⟨by show _ ≤ 1200000; omega, by show _ ≤ 5502250; omega⟩ ?_
  refine lv_icmp_eq (tgt := 847) hx hb dL_law_415 (by decide) (fun _ => ?_) (fun c9 => absurd rfl c9)
  exact fin _ _ _ _ (by omega) (by omega) ⟨a, hs, q, g, w, S, V, o, sf, T0, T1, rfl, hg2, slR_mono s0 (by omega), slR_mono s1 (by omega), hP, hD⟩ hS
set_option maxHeartbeats 4000000 in
set_option maxRecDepth 100000 in
/-- the call 8: y -/
theorem lw_k8 (C0 : lw_At p s m meth c b L xs) (hL : L ≤ 2560) (hK : kK dC dI cI cZ cS s) (hi : i < 512) (h5 : 5 * i + 5 ≤ L) (hl : lv_has ls 4 [(0, .ref b), (1, .ref h), (2, .ref q0), (3, .int (zI (5 * (i : Int))))]) (fin : ∀ (H : Heap) (locs : List Loc) (cells slots : Nat), cells ≤ 120 + 20 * i → slots ≤ 2400 + 400 * i → lwI s dC dI cI cZ cS (100 * (i : Int) + 100) h q0 H → va_S (fun q : Nat => s.heap.size ≤ q) s.heap H locs → W p l e room_1 s m #[Value.ref b] below meth c H locs cells slots (lw_Z below #[Value.ref b] s) (F0 m 847 ls [])) (hI : lwI s dC dI cI cZ cS (100 * (i : Int)) h q0 H) (hS : va_S (fun q : Nat => s.heap.size ≤ q) s.heap H locs) : W p l e room_1 s m #[Value.ref b] below meth c H locs (100 + 20 * i) (2000 + 400 * i) (lw_Z below #[Value.ref b] s) (F0 m 420 ls []) := by
  obtain ⟨hx, hb, hr, hml, hown, hts, hX, hbl, hlocks, hgv⟩ := C0
  have hown2 : s.vm.findClass RL = some m.cls := hown
  have hts2 : ∀ w ∈ wsL_law, w.before #[Value.ref b] s = true := fun w hw => hts w (wsL_law_in w hw)
  have hbA : ¬ (fun q : Nat => s.heap.size ≤ q) b := Nat.not_le.mpr hbl
  obtain ⟨a, hs, q, g, w, S, V, o, sf, T0, T1, rfl, hg, s0, s1, hP, hD⟩ := hI
  have hg2 : gB g (100 * (i : Int) + 100) := gB_mono hg (by omega)
  refine lv_aload_n hx hb dL_law_420 rfl (lv_at hl 1 rfl) ?_
  refine lv_aload_n hx hb dL_law_421 rfl (lv_at hl 0 rfl) ?_
  refine lv_iload_n hx hb dL_law_422 rfl (lv_at hl 3 rfl) ?_
  refine zr_iconst hx hb dL_law_423 ?_
  refine zr_iadd hx hb dL_law_424 ?_
  refine zr_sld hx hb hX hbl hbA hS hL (5 * i + 1) (by omega) (by omega) dL_law_425 ?_
  refine rd_callV (As := [.int (zI ((xs (5 * i + 1)).toInt))]) (rest := []) ⟨hx, hb, hml, hown2, hts2⟩ (c_X1_y l dC dI cI cZ cS a h hs g (100 * (i : Int)) hg ((xs (5 * i + 1)).toInt) (zI_rng _)) (cwV 1 hts2 gL_law_X1_y rfl rfl rfl (by decide +kernel) ⟨Nat.le_of_ble_eq_true rfl, Nat.le_of_ble_eq_true rfl⟩) (n_P1 hP) hK 7 rfl rfl rfl hl.1 rfl (Nat.le_of_ble_eq_true rfl) dL_law_426 ⟨by show _ ≤ 1200000; omega, by show _ ≤ 5502250; omega⟩ ?_
  refine lv_aload_n hx hb dL_law_429 rfl (lv_at hl 2 rfl) ?_
  refine lv_aload_n hx hb dL_law_430 rfl (lv_at hl 0 rfl) ?_
  refine lv_iload_n hx hb dL_law_431 rfl (lv_at hl 3 rfl) ?_
  refine zr_iconst hx hb dL_law_432 ?_
  refine zr_iadd hx hb dL_law_433 ?_
  refine zr_sld hx hb hX hbl hbA hS hL (5 * i + 1) (by omega) (by omega) dL_law_434 ?_
  refine rd_callV (As := [.int (zI ((xs (5 * i + 1)).toInt))]) (rest := [_]) ⟨hx, hb, hml, hown2, hts2⟩ (c_X2_y l dC dI cI cZ cS q g w S V o (100 * (i : Int)) hg ((xs (5 * i + 1)).toInt) (zI_rng _)) (cwV 1 hts2 gL_law_X2_y rfl rfl rfl (by decide +kernel) ⟨Nat.le_of_ble_eq_true rfl, Nat.le_of_ble_eq_true rfl⟩) (n_P2 hP) hK 0 rfl rfl rfl hl.1 rfl (Nat.le_of_ble_eq_true rfl) dL_law_435 ⟨by show _ ≤ 1200000; omega, by show _ ≤ 5502250; omega⟩ ?_
  refine lv_icmp_eq (tgt := 847) hx hb dL_law_438 (by decide) (fun _ => ?_) (fun c9 => absurd rfl c9)
  exact fin _ _ _ _ (by omega) (by omega) ⟨a, hs, q, g, w, S, V, o, sf, T0, T1, rfl, hg2, slR_mono s0 (by omega), slR_mono s1 (by omega), hP, hD⟩ hS
set_option maxHeartbeats 4000000 in
set_option maxRecDepth 100000 in
/-- the call 9: height -/
theorem lw_k9 (C0 : lw_At p s m meth c b L xs) (hL : L ≤ 2560) (hK : kK dC dI cI cZ cS s) (hi : i < 512) (h5 : 5 * i + 5 ≤ L) (hl : lv_has ls 4 [(0, .ref b), (1, .ref h), (2, .ref q0), (3, .int (zI (5 * (i : Int))))]) (fin : ∀ (H : Heap) (locs : List Loc) (cells slots : Nat), cells ≤ 120 + 20 * i → slots ≤ 2400 + 400 * i → lwI s dC dI cI cZ cS (100 * (i : Int) + 100) h q0 H → va_S (fun q : Nat => s.heap.size ≤ q) s.heap H locs → W p l e room_1 s m #[Value.ref b] below meth c H locs cells slots (lw_Z below #[Value.ref b] s) (F0 m 847 ls [])) (hI : lwI s dC dI cI cZ cS (100 * (i : Int)) h q0 H) (hS : va_S (fun q : Nat => s.heap.size ≤ q) s.heap H locs) : W p l e room_1 s m #[Value.ref b] below meth c H locs (100 + 20 * i) (2000 + 400 * i) (lw_Z below #[Value.ref b] s) (F0 m 443 ls []) := by
  obtain ⟨hx, hb, hr, hml, hown, hts, hX, hbl, hlocks, hgv⟩ := C0
  have hown2 : s.vm.findClass RL = some m.cls := hown
  have hts2 : ∀ w ∈ wsL_law, w.before #[Value.ref b] s = true := fun w hw => hts w (wsL_law_in w hw)
  have hbA : ¬ (fun q : Nat => s.heap.size ≤ q) b := Nat.not_le.mpr hbl
  obtain ⟨a, hs, q, g, w, S, V, o, sf, T0, T1, rfl, hg, s0, s1, hP, hD⟩ := hI
  have hg2 : gB g (100 * (i : Int) + 100) := gB_mono hg (by omega)
  refine lv_aload_n hx hb dL_law_443 rfl (lv_at hl 1 rfl) ?_
  refine lv_aload_n hx hb dL_law_444 rfl (lv_at hl 0 rfl) ?_
  refine lv_iload_n hx hb dL_law_445 rfl (lv_at hl 3 rfl) ?_
  refine zr_iconst hx hb dL_law_446 ?_
  refine zr_iadd hx hb dL_law_447 ?_
  refine zr_sld hx hb hX hbl hbA hS hL (5 * i + 1) (by omega) (by omega) dL_law_448 ?_
  refine rd_callV (As := [.int (zI ((xs (5 * i + 1)).toInt))]) (rest := []) ⟨hx, hb, hml, hown2, hts2⟩ (c_X1_height l dC dI cI cZ cS a h hs g (100 * (i : Int)) hg ((xs (5 * i + 1)).toInt) (zI_rng _)) (cwV 1 hts2 gL_law_X1_height rfl rfl rfl (by decide +kernel) ⟨Nat.le_of_ble_eq_true rfl, Nat.le_of_ble_eq_true rfl⟩) (n_P1 hP) hK 7 rfl rfl rfl hl.1 rfl (Nat.le_of_ble_eq_true rfl) dL_law_449 ⟨by show _ ≤ 1200000; omega, by show _ ≤ 5502250; omega⟩ ?_
  refine lv_aload_n hx hb dL_law_452 rfl (lv_at hl 2 rfl) ?_
  refine lv_aload_n hx hb dL_law_453 rfl (lv_at hl 0 rfl) ?_
  refine lv_iload_n hx hb dL_law_454 rfl (lv_at hl 3 rfl) ?_
  refine zr_iconst hx hb dL_law_455 ?_
  refine zr_iadd hx hb dL_law_456 ?_
  refine zr_sld hx hb hX hbl hbA hS hL (5 * i + 1) (by omega) (by omega) dL_law_457 ?_
  refine rd_callV (As := [.int (zI ((xs (5 * i + 1)).toInt))]) (rest := [_]) ⟨hx, hb, hml, hown2, hts2⟩ (c_X2_height l dC dI cI cZ cS q g w S V o (100 * (i : Int)) hg ((xs (5 * i + 1)).toInt) (zI_rng _)) (cwV 1 hts2 gL_law_X2_height rfl rfl rfl (by decide +kernel) ⟨Nat.le_of_ble_eq_true rfl, Nat.le_of_ble_eq_true rfl⟩) (n_P2 hP) hK 0 rfl rfl rfl hl.1 rfl (Nat.le_of_ble_eq_true rfl) dL_law_458 ⟨by show _ ≤ 1200000; omega, by show _ ≤ 5502250; omega⟩ ?_
  refine lv_icmp_eq (tgt := 847) hx hb dL_law_461 (by decide) (fun _ => ?_) (fun c9 => absurd rfl c9)
  exact fin _ _ _ _ (by omega) (by omega) ⟨a, hs, q, g, w, S, V, o, sf, T0, T1, rfl, hg2, slR_mono s0 (by omega), slR_mono s1 (by omega), hP, hD⟩ hS
set_option maxHeartbeats 4000000 in
set_option maxRecDepth 100000 in
/-- the call 10: error -/
theorem lw_k10 (C0 : lw_At p s m meth c b L xs) (hL : L ≤ 2560) (hK : kK dC dI cI cZ cS s) (hi : i < 512) (h5 : 5 * i + 5 ≤ L) (hl : lv_has ls 4 [(0, .ref b), (1, .ref h), (2, .ref q0), (3, .int (zI (5 * (i : Int))))]) (fin : ∀ (H : Heap) (locs : List Loc) (cells slots : Nat), cells ≤ 120 + 20 * i → slots ≤ 2400 + 400 * i → lwI s dC dI cI cZ cS (100 * (i : Int) + 100) h q0 H → va_S (fun q : Nat => s.heap.size ≤ q) s.heap H locs → W p l e room_1 s m #[Value.ref b] below meth c H locs cells slots (lw_Z below #[Value.ref b] s) (F0 m 847 ls [])) (hI : lwI s dC dI cI cZ cS (100 * (i : Int)) h q0 H) (hS : va_S (fun q : Nat => s.heap.size ≤ q) s.heap H locs) : W p l e room_1 s m #[Value.ref b] below meth c H locs (100 + 20 * i) (2000 + 400 * i) (lw_Z below #[Value.ref b] s) (F0 m 466 ls []) := by
  obtain ⟨hx, hb, hr, hml, hown, hts, hX, hbl, hlocks, hgv⟩ := C0
  have hown2 : s.vm.findClass RL = some m.cls := hown
  have hts2 : ∀ w ∈ wsL_law, w.before #[Value.ref b] s = true := fun w hw => hts w (wsL_law_in w hw)
  have hbA : ¬ (fun q : Nat => s.heap.size ≤ q) b := Nat.not_le.mpr hbl
  obtain ⟨a, hs, q, g, w, S, V, o, sf, T0, T1, rfl, hg, s0, s1, hP, hD⟩ := hI
  have hg2 : gB g (100 * (i : Int) + 100) := gB_mono hg (by omega)
  refine lv_aload_n hx hb dL_law_466 rfl (lv_at hl 1 rfl) ?_
  refine lv_aload_n hx hb dL_law_467 rfl (lv_at hl 0 rfl) ?_
  refine lv_iload_n hx hb dL_law_468 rfl (lv_at hl 3 rfl) ?_
  refine zr_iconst hx hb dL_law_469 ?_
  refine zr_iadd hx hb dL_law_470 ?_
  refine zr_sld hx hb hX hbl hbA hS hL (5 * i + 1) (by omega) (by omega) dL_law_471 ?_
  refine rd_callV (As := [.int (zI ((xs (5 * i + 1)).toInt))]) (rest := []) ⟨hx, hb, hml, hown2, hts2⟩ (c_X1_error l dC dI cI cZ cS a h hs g (100 * (i : Int)) hg ((xs (5 * i + 1)).toInt) (zI_rng _)) (cwV 1 hts2 gL_law_X1_error rfl rfl rfl (by decide +kernel) ⟨Nat.le_of_ble_eq_true rfl, Nat.le_of_ble_eq_true rfl⟩) (n_P1 hP) hK 7 rfl rfl rfl hl.1 rfl (Nat.le_of_ble_eq_true rfl) dL_law_472 ⟨by show _ ≤ 1200000; omega, by show _ ≤ 5502250; omega⟩ ?_
  refine lv_aload_n hx hb dL_law_475 rfl (lv_at hl 2 rfl) ?_
  refine lv_aload_n hx hb dL_law_476 rfl (lv_at hl 0 rfl) ?_
  refine lv_iload_n hx hb dL_law_477 rfl (lv_at hl 3 rfl) ?_
  refine zr_iconst hx hb dL_law_478 ?_
  refine zr_iadd hx hb dL_law_479 ?_
  refine zr_sld hx hb hX hbl hbA hS hL (5 * i + 1) (by omega) (by omega) dL_law_480 ?_
  refine rd_callV (As := [.int (zI ((xs (5 * i + 1)).toInt))]) (rest := [_]) ⟨hx, hb, hml, hown2, hts2⟩ (c_X2_error l dC dI cI cZ cS q g w S V o (100 * (i : Int)) hg ((xs (5 * i + 1)).toInt) (zI_rng _)) (cwV 1 hts2 gL_law_X2_error rfl rfl rfl (by decide +kernel) ⟨Nat.le_of_ble_eq_true rfl, Nat.le_of_ble_eq_true rfl⟩) (n_P2 hP) hK 0 rfl rfl rfl hl.1 rfl (Nat.le_of_ble_eq_true rfl) dL_law_481 ⟨by show _ ≤ 1200000; omega, by show _ ≤ 5502250; omega⟩ ?_
  refine lv_icmp_eq (tgt := 847) hx hb dL_law_484 (by decide) (fun _ => ?_) (fun c9 => absurd rfl c9)
  exact fin _ _ _ _ (by omega) (by omega) ⟨a, hs, q, g, w, S, V, o, sf, T0, T1, rfl, hg2, slR_mono s0 (by omega), slR_mono s1 (by omega), hP, hD⟩ hS
set_option maxHeartbeats 4000000 in
set_option maxRecDepth 100000 in
/-- the call 11: predict -/
theorem lw_k11 (C0 : lw_At p s m meth c b L xs) (hL : L ≤ 2560) (hK : kK dC dI cI cZ cS s) (hi : i < 512) (h5 : 5 * i + 5 ≤ L) (hl : lv_has ls 4 [(0, .ref b), (1, .ref h), (2, .ref q0), (3, .int (zI (5 * (i : Int))))]) (fin : ∀ (H : Heap) (locs : List Loc) (cells slots : Nat), cells ≤ 120 + 20 * i → slots ≤ 2400 + 400 * i → lwI s dC dI cI cZ cS (100 * (i : Int) + 100) h q0 H → va_S (fun q : Nat => s.heap.size ≤ q) s.heap H locs → W p l e room_1 s m #[Value.ref b] below meth c H locs cells slots (lw_Z below #[Value.ref b] s) (F0 m 847 ls [])) (hI : lwI s dC dI cI cZ cS (100 * (i : Int)) h q0 H) (hS : va_S (fun q : Nat => s.heap.size ≤ q) s.heap H locs) : W p l e room_1 s m #[Value.ref b] below meth c H locs (100 + 20 * i) (2000 + 400 * i) (lw_Z below #[Value.ref b] s) (F0 m 489 ls []) := by
  obtain ⟨hx, hb, hr, hml, hown, hts, hX, hbl, hlocks, hgv⟩ := C0
  have hown2 : s.vm.findClass RL = some m.cls := hown
  have hts2 : ∀ w ∈ wsL_law, w.before #[Value.ref b] s = true := fun w hw => hts w (wsL_law_in w hw)
  have hbA : ¬ (fun q : Nat => s.heap.size ≤ q) b := Nat.not_le.mpr hbl
  obtain ⟨a, hs, q, g, w, S, V, o, sf, T0, T1, rfl, hg, s0, s1, hP, hD⟩ := hI
  have hg2 : gB g (100 * (i : Int) + 100) := gB_mono hg (by omega)
  refine lv_aload_n hx hb dL_law_489 rfl (lv_at hl 1 rfl) ?_
  refine lv_aload_n hx hb dL_law_490 rfl (lv_at hl 0 rfl) ?_
  refine lv_iload_n hx hb dL_law_491 rfl (lv_at hl 3 rfl) ?_
  refine zr_iconst hx hb dL_law_492 ?_
  refine zr_iadd hx hb dL_law_493 ?_
  refine zr_sld hx hb hX hbl hbA hS hL (5 * i + 1) (by omega) (by omega) dL_law_494 ?_
  refine lv_aload_n hx hb dL_law_495 rfl (lv_at hl 0 rfl) ?_
  refine lv_iload_n hx hb dL_law_496 rfl (lv_at hl 3 rfl) ?_
  refine zr_iconst hx hb dL_law_497 ?_
  refine zr_iadd hx hb dL_law_498 ?_
  refine zr_sld hx hb hX hbl hbA hS hL (5 * i + 2) (by omega) (by omega) dL_law_499 ?_
  refine rd_callV (As := [.int (zI ((xs (5 * i + 1)).toInt)), .int (zI ((xs (5 * i + 2)).toInt))]) (rest := []) ⟨hx, hb, hml, hown2, hts2⟩ (c_X1_predict l dC dI cI cZ cS a h hs g (100 * (i : Int)) hg ((xs (5 * i + 1)).toInt) (zI_rng _) ((xs (5 * i + 2)).toInt) (zI_rng _)) (cwV 2 hts2 gL_law_X1_predict rfl rfl rfl (by decide +kernel) ⟨Nat.le_of_ble_eq_true rfl, Nat.le_of_ble_eq_true rfl⟩) (n_P1 hP) hK 7 rfl rfl rfl hl.1 rfl (Nat.le_of_ble_eq_true rfl) dL_law_500 ⟨by show _ ≤ 1200000; omega, by show _ ≤ 5502250; omega⟩ ?_
  refine lv_aload_n hx hb dL_law_503 rfl (lv_at hl 2 rfl) ?_
  refine lv_aload_n hx hb dL_law_504 rfl (lv_at hl 0 rfl) ?_
  refine lv_iload_n hx hb dL_law_505 rfl (lv_at hl 3 rfl) ?_
  refine zr_iconst hx hb dL_law_506 ?_
  refine zr_iadd hx hb dL_law_507 ?_
  refine zr_sld hx hb hX hbl hbA hS hL (5 * i + 1) (by omega) (by omega) dL_law_508 ?_
  refine lv_aload_n hx hb dL_law_509 rfl (lv_at hl 0 rfl) ?_
  refine lv_iload_n hx hb dL_law_510 rfl (lv_at hl 3 rfl) ?_
  refine zr_iconst hx hb dL_law_511 ?_
  refine zr_iadd hx hb dL_law_512 ?_
  refine zr_sld hx hb hX hbl hbA hS hL (5 * i + 2) (by omega) (by omega) dL_law_513 ?_
  refine rd_callV (As := [.int (zI ((xs (5 * i + 1)).toInt)), .int (zI ((xs (5 * i + 2)).toInt))]) (rest := [_]) ⟨hx, hb, hml, hown2, hts2⟩ (c_X2_predict l dC dI cI cZ cS q g w S V o (100 * (i : Int)) hg ((xs (5 * i + 1)).toInt) (zI_rng _) ((xs (5 * i + 2)).toInt) (zI_rng _)) (cwV 2 hts2 gL_law_X2_predict rfl rfl rfl (by decide +kernel) ⟨Nat.le_of_ble_eq_true rfl, Nat.le_of_ble_eq_true rfl⟩) (n_P2 hP) hK 0 rfl rfl rfl hl.1 rfl (Nat.le_of_ble_eq_true rfl) dL_law_514 ⟨by show _ ≤ 1200000; omega, by show _ ≤ 5502250; omega⟩ ?_
  refine lv_icmp_eq (tgt := 847) hx hb dL_law_517 (by decide) (fun _ => ?_) (fun c9 => absurd rfl c9)
  exact fin _ _ _ _ (by omega) (by omega) ⟨a, hs, q, g, w, S, V, o, sf, T0, T1, rfl, hg2, slR_mono s0 (by omega), slR_mono s1 (by omega), hP, hD⟩ hS
set_option maxHeartbeats 4000000 in
set_option maxRecDepth 100000 in
/-- the call 12: measure -/
theorem lw_k12 (C0 : lw_At p s m meth c b L xs) (hL : L ≤ 2560) (hK : kK dC dI cI cZ cS s) (hi : i < 512) (h5 : 5 * i + 5 ≤ L) (hl : lv_has ls 4 [(0, .ref b), (1, .ref h), (2, .ref q0), (3, .int (zI (5 * (i : Int))))]) (fin : ∀ (H : Heap) (locs : List Loc) (cells slots : Nat), cells ≤ 120 + 20 * i → slots ≤ 2400 + 400 * i → lwI s dC dI cI cZ cS (100 * (i : Int) + 100) h q0 H → va_S (fun q : Nat => s.heap.size ≤ q) s.heap H locs → W p l e room_1 s m #[Value.ref b] below meth c H locs cells slots (lw_Z below #[Value.ref b] s) (F0 m 847 ls [])) (hI : lwI s dC dI cI cZ cS (100 * (i : Int)) h q0 H) (hS : va_S (fun q : Nat => s.heap.size ≤ q) s.heap H locs) : W p l e room_1 s m #[Value.ref b] below meth c H locs (100 + 20 * i) (2000 + 400 * i) (lw_Z below #[Value.ref b] s) (F0 m 522 ls []) := by
  obtain ⟨hx, hb, hr, hml, hown, hts, hX, hbl, hlocks, hgv⟩ := C0
  have hown2 : s.vm.findClass RL = some m.cls := hown
  have hts2 : ∀ w ∈ wsL_law, w.before #[Value.ref b] s = true := fun w hw => hts w (wsL_law_in w hw)
  have hbA : ¬ (fun q : Nat => s.heap.size ≤ q) b := Nat.not_le.mpr hbl
  obtain ⟨a, hs, q, g, w, S, V, o, sf, T0, T1, rfl, hg, s0, s1, hP, hD⟩ := hI
  have hg2 : gB g (100 * (i : Int) + 100) := gB_mono hg (by omega)
  refine lv_aload_n hx hb dL_law_522 rfl (lv_at hl 1 rfl) ?_
  refine lv_aload_n hx hb dL_law_523 rfl (lv_at hl 0 rfl) ?_
  refine lv_iload_n hx hb dL_law_524 rfl (lv_at hl 3 rfl) ?_
  refine zr_iconst hx hb dL_law_525 ?_
  refine zr_iadd hx hb dL_law_526 ?_
  refine zr_sld hx hb hX hbl hbA hS hL (5 * i + 1) (by omega) (by omega) dL_law_527 ?_
  refine lv_aload_n hx hb dL_law_528 rfl (lv_at hl 0 rfl) ?_
  refine lv_iload_n hx hb dL_law_529 rfl (lv_at hl 3 rfl) ?_
  refine zr_iconst hx hb dL_law_530 ?_
  refine zr_iadd hx hb dL_law_531 ?_
  refine zr_sld hx hb hX hbl hbA hS hL (5 * i + 2) (by omega) (by omega) dL_law_532 ?_
  refine wr_callVi (As := [.int (zI ((xs (5 * i + 1)).toInt)), .int (zI ((xs (5 * i + 2)).toInt))]) (rest := []) ⟨hx, hb, hml, hown2, hts2⟩ (c_X1_measure l dC dI cI cZ cS a h hs g (100 * (i : Int)) hg ((xs (5 * i + 1)).toInt) (zI_rng _) ((xs (5 * i + 2)).toInt) (zI_rng _)) (cwV 2 hts2 gL_law_X1_measure rfl rfl rfl (by decide +kernel) ⟨Nat.le_of_ble_eq_true rfl, Nat.le_of_ble_eq_true rfl⟩) (n_P1 hP) (n_D1 hD) hS hK 7 rfl rfl rfl hl.1 rfl (Nat.le_of_ble_eq_true rfl) dL_law_533 ⟨by show _ ≤ 1200000; omega, by show _ ≤ 5502250; omega⟩ (fun H1 locs1 hP1 hk1 hS => ?_)
  have hP := n_P1w hP hD hP1 hk1
  have hD := n_D1w (c2 := stw cI a (nMeasure g ((xs (5 * i + 1)).toInt) ((xs (5 * i + 2)).toInt)) ++ mnw a h hs) hD rfl
  refine lv_aload_n hx hb dL_law_536 rfl (lv_at hl 2 rfl) ?_
  refine lv_aload_n hx hb dL_law_537 rfl (lv_at hl 0 rfl) ?_
  refine lv_iload_n hx hb dL_law_538 rfl (lv_at hl 3 rfl) ?_
  refine zr_iconst hx hb dL_law_539 ?_
  refine zr_iadd hx hb dL_law_540 ?_
  refine zr_sld hx hb hX hbl hbA hS hL (5 * i + 1) (by omega) (by omega) dL_law_541 ?_
  refine lv_aload_n hx hb dL_law_542 rfl (lv_at hl 0 rfl) ?_
  refine lv_iload_n hx hb dL_law_543 rfl (lv_at hl 3 rfl) ?_
  refine zr_iconst hx hb dL_law_544 ?_
  refine zr_iadd hx hb dL_law_545 ?_
  refine zr_sld hx hb hX hbl hbA hS hL (5 * i + 2) (by omega) (by omega) dL_law_546 ?_
  refine wr_callVi (As := [.int (zI ((xs (5 * i + 1)).toInt)), .int (zI ((xs (5 * i + 2)).toInt))]) (rest := [_]) ⟨hx, hb, hml, hown2, hts2⟩ (c_X2_measure l dC dI cI cZ cS q g w S V o (100 * (i : Int)) hg ((xs (5 * i + 1)).toInt) (zI_rng _) ((xs (5 * i + 2)).toInt) (zI_rng _)) (cwV 2 hts2 gL_law_X2_measure rfl rfl rfl (by decide +kernel) ⟨Nat.le_of_ble_eq_true rfl, Nat.le_of_ble_eq_true rfl⟩) (n_P2 hP) (n_D2 hD) hS hK 0 rfl rfl rfl hl.1 rfl (Nat.le_of_ble_eq_true rfl) dL_law_547 ⟨by show _ ≤ 1200000; omega, by show _ ≤ 5502250; omega⟩ (fun H2 locs2 hP2 hk2 hS => ?_)
  have hP := n_P2w hP hD hP2 hk2
  have hD := n_D2w (m2 := mdw cI cZ q (nMeasure g ((xs (5 * i + 1)).toInt) ((xs (5 * i + 2)).toInt)) (wMeas g ((xs (5 * i + 1)).toInt) ((xs (5 * i + 2)).toInt) w) S V o) hD rfl
  refine lv_icmp_eq (tgt := 847) hx hb dL_law_550 (by decide) (fun _ => ?_) (fun c9 => absurd rfl c9)
  exact fin _ _ _ _ (by omega) (by omega) ⟨a, hs, q, _, _, S, V, o, sf, T0, T1, rfl, gB_mono (nMeasure_gB hg) (by omega), slR_mono s0 (by omega), slR_mono s1 (by omega), hP, hD⟩ hS
set_option maxHeartbeats 4000000 in
set_option maxRecDepth 100000 in
/-- the call 13: run -/
theorem lw_k13 (C0 : lw_At p s m meth c b L xs) (hL : L ≤ 2560) (hK : kK dC dI cI cZ cS s) (hi : i < 512) (h5 : 5 * i + 5 ≤ L) (hl : lv_has ls 4 [(0, .ref b), (1, .ref h), (2, .ref q0), (3, .int (zI (5 * (i : Int))))]) (fin : ∀ (H : Heap) (locs : List Loc) (cells slots : Nat), cells ≤ 120 + 20 * i → slots ≤ 2400 + 400 * i → lwI s dC dI cI cZ cS (100 * (i : Int) + 100) h q0 H → va_S (fun q : Nat => s.heap.size ≤ q) s.heap H locs → W p l e room_1 s m #[Value.ref b] below meth c H locs cells slots (lw_Z below #[Value.ref b] s) (F0 m 847 ls [])) (hI : lwI s dC dI cI cZ cS (100 * (i : Int)) h q0 H) (hS : va_S (fun q : Nat => s.heap.size ≤ q) s.heap H locs) : W p l e room_1 s m #[Value.ref b] below meth c H locs (100 + 20 * i) (2000 + 400 * i) (lw_Z below #[Value.ref b] s) (F0 m 555 ls []) := by
  obtain ⟨hx, hb, hr, hml, hown, hts, hX, hbl, hlocks, hgv⟩ := C0
  have hown2 : s.vm.findClass RL = some m.cls := hown
  have hts2 : ∀ w ∈ wsL_law, w.before #[Value.ref b] s = true := fun w hw => hts w (wsL_law_in w hw)
  have hbA : ¬ (fun q : Nat => s.heap.size ≤ q) b := Nat.not_le.mpr hbl
  obtain ⟨a, hs, q, g, w, S, V, o, sf, T0, T1, rfl, hg, s0, s1, hP, hD⟩ := hI
  have hg2 : gB g (100 * (i : Int) + 100) := gB_mono hg (by omega)
  refine lv_aload_n hx hb dL_law_555 rfl (lv_at hl 1 rfl) ?_
  refine lv_aload_n hx hb dL_law_556 rfl (lv_at hl 0 rfl) ?_
  refine lv_iload_n hx hb dL_law_557 rfl (lv_at hl 3 rfl) ?_
  refine zr_iconst hx hb dL_law_558 ?_
  refine zr_iadd hx hb dL_law_559 ?_
  refine zr_sld hx hb hX hbl hbA hS hL (5 * i + 1) (by omega) (by omega) dL_law_560 ?_
  refine wr_callVi (As := [.int (zI ((xs (5 * i + 1)).toInt))]) (rest := []) ⟨hx, hb, hml, hown2, hts2⟩ (c_X1_run l dC dI cI cZ cS a h hs g (100 * (i : Int)) hg ((xs (5 * i + 1)).toInt) (zI_rng _) (by omega)) (cwV 1 hts2 gL_law_X1_run rfl rfl rfl (by decide +kernel) ⟨Nat.le_of_ble_eq_true rfl, Nat.le_of_ble_eq_true rfl⟩) (n_P1 hP) (n_D1 hD) hS hK 7 rfl rfl rfl hl.1 rfl (Nat.le_of_ble_eq_true rfl) dL_law_561 ⟨by show _ ≤ 1200000; omega, by show _ ≤ 5502250; omega⟩ (fun H1 locs1 hP1 hk1 hS => ?_)
  have hP := n_P1w hP hD hP1 hk1
  have hD := n_D1w (c2 := stw cI a (nRun g ((xs (5 * i + 1)).toInt)) ++ mnw a h hs) hD rfl
  refine lv_aload_n hx hb dL_law_564 rfl (lv_at hl 2 rfl) ?_
  refine lv_aload_n hx hb dL_law_565 rfl (lv_at hl 0 rfl) ?_
  refine lv_iload_n hx hb dL_law_566 rfl (lv_at hl 3 rfl) ?_
  refine zr_iconst hx hb dL_law_567 ?_
  refine zr_iadd hx hb dL_law_568 ?_
  refine zr_sld hx hb hX hbl hbA hS hL (5 * i + 1) (by omega) (by omega) dL_law_569 ?_
  refine wr_callVi (As := [.int (zI ((xs (5 * i + 1)).toInt))]) (rest := [_]) ⟨hx, hb, hml, hown2, hts2⟩ (c_X2_run l dC dI cI cZ cS q g w S V o (100 * (i : Int)) hg ((xs (5 * i + 1)).toInt) (zI_rng _) (by omega)) (cwV 1 hts2 gL_law_X2_run rfl rfl rfl (by decide +kernel) ⟨Nat.le_of_ble_eq_true rfl, Nat.le_of_ble_eq_true rfl⟩) (n_P2 hP) (n_D2 hD) hS hK 0 rfl rfl rfl hl.1 rfl (Nat.le_of_ble_eq_true rfl) dL_law_570 ⟨by show _ ≤ 1200000; omega, by show _ ≤ 5502250; omega⟩ (fun H2 locs2 hP2 hk2 hS => ?_)
  have hP := n_P2w hP hD hP2 hk2
  have hD := n_D2w (m2 := mdw cI cZ q (nRun g ((xs (5 * i + 1)).toInt)) (wRunA g w ((xs (5 * i + 1)).toInt)) S V o) hD rfl
  refine lv_icmp_eq (tgt := 847) hx hb dL_law_573 (by decide) (fun _ => ?_) (fun c9 => absurd rfl c9)
  exact fin _ _ _ _ (by omega) (by omega) ⟨a, hs, q, _, _, S, V, o, sf, T0, T1, rfl, nRun_gB hg, slR_mono s0 (by omega), slR_mono s1 (by omega), hP, hD⟩ hS
set_option maxHeartbeats 4000000 in
set_option maxRecDepth 100000 in
/-- the call 14: roundCounter -/
theorem lw_k14 (C0 : lw_At p s m meth c b L xs) (hL : L ≤ 2560) (hK : kK dC dI cI cZ cS s) (hi : i < 512) (h5 : 5 * i + 5 ≤ L) (hl : lv_has ls 4 [(0, .ref b), (1, .ref h), (2, .ref q0), (3, .int (zI (5 * (i : Int))))]) (fin : ∀ (H : Heap) (locs : List Loc) (cells slots : Nat), cells ≤ 120 + 20 * i → slots ≤ 2400 + 400 * i → lwI s dC dI cI cZ cS (100 * (i : Int) + 100) h q0 H → va_S (fun q : Nat => s.heap.size ≤ q) s.heap H locs → W p l e room_1 s m #[Value.ref b] below meth c H locs cells slots (lw_Z below #[Value.ref b] s) (F0 m 847 ls [])) (hI : lwI s dC dI cI cZ cS (100 * (i : Int)) h q0 H) (hS : va_S (fun q : Nat => s.heap.size ≤ q) s.heap H locs) : W p l e room_1 s m #[Value.ref b] below meth c H locs (100 + 20 * i) (2000 + 400 * i) (lw_Z below #[Value.ref b] s) (F0 m 578 ls []) := by
  obtain ⟨hx, hb, hr, hml, hown, hts, hX, hbl, hlocks, hgv⟩ := C0
  have hown2 : s.vm.findClass RL = some m.cls := hown
  have hts2 : ∀ w ∈ wsL_law, w.before #[Value.ref b] s = true := fun w hw => hts w (wsL_law_in w hw)
  have hbA : ¬ (fun q : Nat => s.heap.size ≤ q) b := Nat.not_le.mpr hbl
  obtain ⟨a, hs, q, g, w, S, V, o, sf, T0, T1, rfl, hg, s0, s1, hP, hD⟩ := hI
  have hg2 : gB g (100 * (i : Int) + 100) := gB_mono hg (by omega)
  refine lv_aload_n hx hb dL_law_578 rfl (lv_at hl 1 rfl) ?_
  refine rd_callV (As := []) (rest := []) ⟨hx, hb, hml, hown2, hts2⟩ (c_X1_roundCounter l dC dI cI cZ cS a h hs g (100 * (i : Int)) hg ) (cwV 0 hts2 gL_law_X1_roundCounter rfl rfl rfl (by decide +kernel) ⟨Nat.le_of_ble_eq_true rfl, Nat.le_of_ble_eq_true rfl⟩) (n_P1 hP) hK 7 rfl rfl rfl hl.1 rfl (Nat.le_of_ble_eq_true rfl) dL_law_579 ⟨by show _ ≤ 1200000; omega, by show _ ≤ 5502250; omega⟩ ?_
  refine lv_aload_n hx hb dL_law_582 rfl (lv_at hl 2 rfl) ?_
  refine rd_callV (As := []) (rest := [_]) ⟨hx, hb, hml, hown2, hts2⟩ (c_X2_roundCounter l dC dI cI cZ cS q g w S V o (100 * (i : Int)) hg ) (cwV 0 hts2 gL_law_X2_roundCounter rfl rfl rfl (by decide +kernel) ⟨Nat.le_of_ble_eq_true rfl, Nat.le_of_ble_eq_true rfl⟩) (n_P2 hP) hK 0 rfl rfl rfl hl.1 rfl (Nat.le_of_ble_eq_true rfl) dL_law_583 ⟨by show _ ≤ 1200000; omega, by show _ ≤ 5502250; omega⟩ ?_
  refine lv_icmp_eq (tgt := 847) hx hb dL_law_586 (by decide) (fun _ => ?_) (fun c9 => absurd rfl c9)
  exact fin _ _ _ _ (by omega) (by omega) ⟨a, hs, q, g, w, S, V, o, sf, T0, T1, rfl, hg2, slR_mono s0 (by omega), slR_mono s1 (by omega), hP, hD⟩ hS
set_option maxHeartbeats 4000000 in
set_option maxRecDepth 100000 in
/-- the call 15: meanError -/
theorem lw_k15 (C0 : lw_At p s m meth c b L xs) (hL : L ≤ 2560) (hK : kK dC dI cI cZ cS s) (hi : i < 512) (h5 : 5 * i + 5 ≤ L) (hl : lv_has ls 4 [(0, .ref b), (1, .ref h), (2, .ref q0), (3, .int (zI (5 * (i : Int))))]) (fin : ∀ (H : Heap) (locs : List Loc) (cells slots : Nat), cells ≤ 120 + 20 * i → slots ≤ 2400 + 400 * i → lwI s dC dI cI cZ cS (100 * (i : Int) + 100) h q0 H → va_S (fun q : Nat => s.heap.size ≤ q) s.heap H locs → W p l e room_1 s m #[Value.ref b] below meth c H locs cells slots (lw_Z below #[Value.ref b] s) (F0 m 847 ls [])) (hI : lwI s dC dI cI cZ cS (100 * (i : Int)) h q0 H) (hS : va_S (fun q : Nat => s.heap.size ≤ q) s.heap H locs) : W p l e room_1 s m #[Value.ref b] below meth c H locs (100 + 20 * i) (2000 + 400 * i) (lw_Z below #[Value.ref b] s) (F0 m 591 ls []) := by
  obtain ⟨hx, hb, hr, hml, hown, hts, hX, hbl, hlocks, hgv⟩ := C0
  have hown2 : s.vm.findClass RL = some m.cls := hown
  have hts2 : ∀ w ∈ wsL_law, w.before #[Value.ref b] s = true := fun w hw => hts w (wsL_law_in w hw)
  have hbA : ¬ (fun q : Nat => s.heap.size ≤ q) b := Nat.not_le.mpr hbl
  obtain ⟨a, hs, q, g, w, S, V, o, sf, T0, T1, rfl, hg, s0, s1, hP, hD⟩ := hI
  have hg2 : gB g (100 * (i : Int) + 100) := gB_mono hg (by omega)
  refine lv_aload_n hx hb dL_law_591 rfl (lv_at hl 1 rfl) ?_
  refine rd_callV (As := []) (rest := []) ⟨hx, hb, hml, hown2, hts2⟩ (c_X1_meanError l dC dI cI cZ cS a h hs g (100 * (i : Int)) hg ) (cwV 0 hts2 gL_law_X1_meanError rfl rfl rfl (by decide +kernel) ⟨Nat.le_of_ble_eq_true rfl, Nat.le_of_ble_eq_true rfl⟩) (n_P1 hP) hK 7 rfl rfl rfl hl.1 rfl (Nat.le_of_ble_eq_true rfl) dL_law_592 ⟨by show _ ≤ 1200000; omega, by show _ ≤ 5502250; omega⟩ ?_
  refine lv_aload_n hx hb dL_law_595 rfl (lv_at hl 2 rfl) ?_
  refine rd_callV (As := []) (rest := [_]) ⟨hx, hb, hml, hown2, hts2⟩ (c_X2_meanError l dC dI cI cZ cS q g w S V o (100 * (i : Int)) hg ) (cwV 0 hts2 gL_law_X2_meanError rfl rfl rfl (by decide +kernel) ⟨Nat.le_of_ble_eq_true rfl, Nat.le_of_ble_eq_true rfl⟩) (n_P2 hP) hK 0 rfl rfl rfl hl.1 rfl (Nat.le_of_ble_eq_true rfl) dL_law_596 ⟨by show _ ≤ 1200000; omega, by show _ ≤ 5502250; omega⟩ ?_
  refine lv_icmp_eq (tgt := 847) hx hb dL_law_599 (by decide) (fun _ => ?_) (fun c9 => absurd rfl c9)
  exact fin _ _ _ _ (by omega) (by omega) ⟨a, hs, q, g, w, S, V, o, sf, T0, T1, rfl, hg2, slR_mono s0 (by omega), slR_mono s1 (by omega), hP, hD⟩ hS
set_option maxHeartbeats 4000000 in
set_option maxRecDepth 100000 in
/-- the call 16: worstPair -/
theorem lw_k16 (C0 : lw_At p s m meth c b L xs) (hL : L ≤ 2560) (hK : kK dC dI cI cZ cS s) (hi : i < 512) (h5 : 5 * i + 5 ≤ L) (hl : lv_has ls 4 [(0, .ref b), (1, .ref h), (2, .ref q0), (3, .int (zI (5 * (i : Int))))]) (fin : ∀ (H : Heap) (locs : List Loc) (cells slots : Nat), cells ≤ 120 + 20 * i → slots ≤ 2400 + 400 * i → lwI s dC dI cI cZ cS (100 * (i : Int) + 100) h q0 H → va_S (fun q : Nat => s.heap.size ≤ q) s.heap H locs → W p l e room_1 s m #[Value.ref b] below meth c H locs cells slots (lw_Z below #[Value.ref b] s) (F0 m 847 ls [])) (hI : lwI s dC dI cI cZ cS (100 * (i : Int)) h q0 H) (hS : va_S (fun q : Nat => s.heap.size ≤ q) s.heap H locs) : W p l e room_1 s m #[Value.ref b] below meth c H locs (100 + 20 * i) (2000 + 400 * i) (lw_Z below #[Value.ref b] s) (F0 m 604 ls []) := by
  obtain ⟨hx, hb, hr, hml, hown, hts, hX, hbl, hlocks, hgv⟩ := C0
  have hown2 : s.vm.findClass RL = some m.cls := hown
  have hts2 : ∀ w ∈ wsL_law, w.before #[Value.ref b] s = true := fun w hw => hts w (wsL_law_in w hw)
  have hbA : ¬ (fun q : Nat => s.heap.size ≤ q) b := Nat.not_le.mpr hbl
  obtain ⟨a, hs, q, g, w, S, V, o, sf, T0, T1, rfl, hg, s0, s1, hP, hD⟩ := hI
  have hg2 : gB g (100 * (i : Int) + 100) := gB_mono hg (by omega)
  refine lv_aload_n hx hb dL_law_604 rfl (lv_at hl 1 rfl) ?_
  refine rd_callV (As := []) (rest := []) ⟨hx, hb, hml, hown2, hts2⟩ (c_X1_worstPair l dC dI cI cZ cS a h hs g (100 * (i : Int)) hg ) (cwV 0 hts2 gL_law_X1_worstPair rfl rfl rfl (by decide +kernel) ⟨Nat.le_of_ble_eq_true rfl, Nat.le_of_ble_eq_true rfl⟩) (n_P1 hP) hK 7 rfl rfl rfl hl.1 rfl (Nat.le_of_ble_eq_true rfl) dL_law_605 ⟨by show _ ≤ 1200000; omega, by show _ ≤ 5502250; omega⟩ ?_
  refine lv_aload_n hx hb dL_law_608 rfl (lv_at hl 2 rfl) ?_
  refine rd_callV (As := []) (rest := [_]) ⟨hx, hb, hml, hown2, hts2⟩ (c_X2_worstPair l dC dI cI cZ cS q g w S V o (100 * (i : Int)) hg ) (cwV 0 hts2 gL_law_X2_worstPair rfl rfl rfl (by decide +kernel) ⟨Nat.le_of_ble_eq_true rfl, Nat.le_of_ble_eq_true rfl⟩) (n_P2 hP) hK 0 rfl rfl rfl hl.1 rfl (Nat.le_of_ble_eq_true rfl) dL_law_609 ⟨by show _ ≤ 1200000; omega, by show _ ≤ 5502250; omega⟩ ?_
  refine lv_icmp_eq (tgt := 847) hx hb dL_law_612 (by decide) (fun _ => ?_) (fun c9 => absurd rfl c9)
  exact fin _ _ _ _ (by omega) (by omega) ⟨a, hs, q, g, w, S, V, o, sf, T0, T1, rfl, hg2, slR_mono s0 (by omega), slR_mono s1 (by omega), hP, hD⟩ hS
set_option maxHeartbeats 4000000 in
set_option maxRecDepth 100000 in
/-- the call 17: relativeError -/
theorem lw_k17 (C0 : lw_At p s m meth c b L xs) (hL : L ≤ 2560) (hK : kK dC dI cI cZ cS s) (hi : i < 512) (h5 : 5 * i + 5 ≤ L) (hl : lv_has ls 4 [(0, .ref b), (1, .ref h), (2, .ref q0), (3, .int (zI (5 * (i : Int))))]) (fin : ∀ (H : Heap) (locs : List Loc) (cells slots : Nat), cells ≤ 120 + 20 * i → slots ≤ 2400 + 400 * i → lwI s dC dI cI cZ cS (100 * (i : Int) + 100) h q0 H → va_S (fun q : Nat => s.heap.size ≤ q) s.heap H locs → W p l e room_1 s m #[Value.ref b] below meth c H locs cells slots (lw_Z below #[Value.ref b] s) (F0 m 847 ls [])) (hI : lwI s dC dI cI cZ cS (100 * (i : Int)) h q0 H) (hS : va_S (fun q : Nat => s.heap.size ≤ q) s.heap H locs) : W p l e room_1 s m #[Value.ref b] below meth c H locs (100 + 20 * i) (2000 + 400 * i) (lw_Z below #[Value.ref b] s) (F0 m 617 ls []) := by
  obtain ⟨hx, hb, hr, hml, hown, hts, hX, hbl, hlocks, hgv⟩ := C0
  have hown2 : s.vm.findClass RL = some m.cls := hown
  have hts2 : ∀ w ∈ wsL_law, w.before #[Value.ref b] s = true := fun w hw => hts w (wsL_law_in w hw)
  have hbA : ¬ (fun q : Nat => s.heap.size ≤ q) b := Nat.not_le.mpr hbl
  obtain ⟨a, hs, q, g, w, S, V, o, sf, T0, T1, rfl, hg, s0, s1, hP, hD⟩ := hI
  have hg2 : gB g (100 * (i : Int) + 100) := gB_mono hg (by omega)
  refine lv_aload_n hx hb dL_law_617 rfl (lv_at hl 1 rfl) ?_
  refine lv_aload_n hx hb dL_law_618 rfl (lv_at hl 0 rfl) ?_
  refine lv_iload_n hx hb dL_law_619 rfl (lv_at hl 3 rfl) ?_
  refine zr_iconst hx hb dL_law_620 ?_
  refine zr_iadd hx hb dL_law_621 ?_
  refine zr_sld hx hb hX hbl hbA hS hL (5 * i + 1) (by omega) (by omega) dL_law_622 ?_
  refine lv_aload_n hx hb dL_law_623 rfl (lv_at hl 0 rfl) ?_
  refine lv_iload_n hx hb dL_law_624 rfl (lv_at hl 3 rfl) ?_
  refine zr_iconst hx hb dL_law_625 ?_
  refine zr_iadd hx hb dL_law_626 ?_
  refine zr_sld hx hb hX hbl hbA hS hL (5 * i + 2) (by omega) (by omega) dL_law_627 ?_
  refine rd_callV (As := [.int (zI ((xs (5 * i + 1)).toInt)), .int (zI ((xs (5 * i + 2)).toInt))]) (rest := []) ⟨hx, hb, hml, hown2, hts2⟩ (c_X1_relativeError l dC dI cI cZ cS a h hs g (100 * (i : Int)) hg ((xs (5 * i + 1)).toInt) (zI_rng _) ((xs (5 * i + 2)).toInt) (zI_rng _)) (cwV 2 hts2 gL_law_X1_relativeError rfl rfl rfl (by decide +kernel) ⟨Nat.le_of_ble_eq_true rfl, Nat.le_of_ble_eq_true rfl⟩) (n_P1 hP) hK 7 rfl rfl rfl hl.1 rfl (Nat.le_of_ble_eq_true rfl) dL_law_628 ⟨by show _ ≤ 1200000; omega, by show _ ≤ 5502250; omega⟩ ?_
  refine lv_aload_n hx hb dL_law_631 rfl (lv_at hl 2 rfl) ?_
  refine lv_aload_n hx hb dL_law_632 rfl (lv_at hl 0 rfl) ?_
  refine lv_iload_n hx hb dL_law_633 rfl (lv_at hl 3 rfl) ?_
  refine zr_iconst hx hb dL_law_634 ?_
  refine zr_iadd hx hb dL_law_635 ?_
  refine zr_sld hx hb hX hbl hbA hS hL (5 * i + 1) (by omega) (by omega) dL_law_636 ?_
  refine lv_aload_n hx hb dL_law_637 rfl (lv_at hl 0 rfl) ?_
  refine lv_iload_n hx hb dL_law_638 rfl (lv_at hl 3 rfl) ?_
  refine zr_iconst hx hb dL_law_639 ?_
  refine zr_iadd hx hb dL_law_640 ?_
  refine zr_sld hx hb hX hbl hbA hS hL (5 * i + 2) (by omega) (by omega) dL_law_641 ?_
  refine rd_callV (As := [.int (zI ((xs (5 * i + 1)).toInt)), .int (zI ((xs (5 * i + 2)).toInt))]) (rest := [_]) ⟨hx, hb, hml, hown2, hts2⟩ (c_X2_relativeError l dC dI cI cZ cS q g w S V o (100 * (i : Int)) hg ((xs (5 * i + 1)).toInt) (zI_rng _) ((xs (5 * i + 2)).toInt) (zI_rng _)) (cwV 2 hts2 gL_law_X2_relativeError rfl rfl rfl (by decide +kernel) ⟨Nat.le_of_ble_eq_true rfl, Nat.le_of_ble_eq_true rfl⟩) (n_P2 hP) hK 0 rfl rfl rfl hl.1 rfl (Nat.le_of_ble_eq_true rfl) dL_law_642 ⟨by show _ ≤ 1200000; omega, by show _ ≤ 5502250; omega⟩ ?_
  refine lv_icmp_eq (tgt := 847) hx hb dL_law_645 (by decide) (fun _ => ?_) (fun c9 => absurd rfl c9)
  exact fin _ _ _ _ (by omega) (by omega) ⟨a, hs, q, g, w, S, V, o, sf, T0, T1, rfl, hg2, slR_mono s0 (by omega), slR_mono s1 (by omega), hP, hD⟩ hS
set_option maxHeartbeats 4000000 in
set_option maxRecDepth 100000 in
/-- the call 18: nearest -/
theorem lw_k18 (C0 : lw_At p s m meth c b L xs) (hL : L ≤ 2560) (hK : kK dC dI cI cZ cS s) (hi : i < 512) (h5 : 5 * i + 5 ≤ L) (hl : lv_has ls 4 [(0, .ref b), (1, .ref h), (2, .ref q0), (3, .int (zI (5 * (i : Int))))]) (fin : ∀ (H : Heap) (locs : List Loc) (cells slots : Nat), cells ≤ 120 + 20 * i → slots ≤ 2400 + 400 * i → lwI s dC dI cI cZ cS (100 * (i : Int) + 100) h q0 H → va_S (fun q : Nat => s.heap.size ≤ q) s.heap H locs → W p l e room_1 s m #[Value.ref b] below meth c H locs cells slots (lw_Z below #[Value.ref b] s) (F0 m 847 ls [])) (hI : lwI s dC dI cI cZ cS (100 * (i : Int)) h q0 H) (hS : va_S (fun q : Nat => s.heap.size ≤ q) s.heap H locs) : W p l e room_1 s m #[Value.ref b] below meth c H locs (100 + 20 * i) (2000 + 400 * i) (lw_Z below #[Value.ref b] s) (F0 m 650 ls []) := by
  obtain ⟨hx, hb, hr, hml, hown, hts, hX, hbl, hlocks, hgv⟩ := C0
  have hown2 : s.vm.findClass RL = some m.cls := hown
  have hts2 : ∀ w ∈ wsL_law, w.before #[Value.ref b] s = true := fun w hw => hts w (wsL_law_in w hw)
  have hbA : ¬ (fun q : Nat => s.heap.size ≤ q) b := Nat.not_le.mpr hbl
  obtain ⟨a, hs, q, g, w, S, V, o, sf, T0, T1, rfl, hg, s0, s1, hP, hD⟩ := hI
  have hg2 : gB g (100 * (i : Int) + 100) := gB_mono hg (by omega)
  refine lv_aload_n hx hb dL_law_650 rfl (lv_at hl 1 rfl) ?_
  refine lv_aload_n hx hb dL_law_651 rfl (lv_at hl 0 rfl) ?_
  refine lv_iload_n hx hb dL_law_652 rfl (lv_at hl 3 rfl) ?_
  refine zr_iconst hx hb dL_law_653 ?_
  refine zr_iadd hx hb dL_law_654 ?_
  refine zr_sld hx hb hX hbl hbA hS hL (5 * i + 1) (by omega) (by omega) dL_law_655 ?_
  refine lv_aload_n hx hb dL_law_656 rfl (lv_at hl 0 rfl) ?_
  refine lv_iload_n hx hb dL_law_657 rfl (lv_at hl 3 rfl) ?_
  refine zr_iconst hx hb dL_law_658 ?_
  refine zr_iadd hx hb dL_law_659 ?_
  refine zr_sld hx hb hX hbl hbA hS hL (5 * i + 2) (by omega) (by omega) dL_law_660 ?_
  refine rd_callV (As := [.int (zI ((xs (5 * i + 1)).toInt)), .int (zI ((xs (5 * i + 2)).toInt))]) (rest := []) ⟨hx, hb, hml, hown2, hts2⟩ (c_X1_nearest l dC dI cI cZ cS a h hs g (100 * (i : Int)) hg ((xs (5 * i + 1)).toInt) (zI_rng _) ((xs (5 * i + 2)).toInt) (zI_rng _)) (cwV 2 hts2 gL_law_X1_nearest rfl rfl rfl (by decide +kernel) ⟨Nat.le_of_ble_eq_true rfl, Nat.le_of_ble_eq_true rfl⟩) (n_P1 hP) hK 7 rfl rfl rfl hl.1 rfl (Nat.le_of_ble_eq_true rfl) dL_law_661 ⟨by show _ ≤ 1200000; omega, by show _ ≤ 5502250; omega⟩ ?_
  refine lv_aload_n hx hb dL_law_664 rfl (lv_at hl 2 rfl) ?_
  refine lv_aload_n hx hb dL_law_665 rfl (lv_at hl 0 rfl) ?_
  refine lv_iload_n hx hb dL_law_666 rfl (lv_at hl 3 rfl) ?_
  refine zr_iconst hx hb dL_law_667 ?_
  refine zr_iadd hx hb dL_law_668 ?_
  refine zr_sld hx hb hX hbl hbA hS hL (5 * i + 1) (by omega) (by omega) dL_law_669 ?_
  refine lv_aload_n hx hb dL_law_670 rfl (lv_at hl 0 rfl) ?_
  refine lv_iload_n hx hb dL_law_671 rfl (lv_at hl 3 rfl) ?_
  refine zr_iconst hx hb dL_law_672 ?_
  refine zr_iadd hx hb dL_law_673 ?_
  refine zr_sld hx hb hX hbl hbA hS hL (5 * i + 2) (by omega) (by omega) dL_law_674 ?_
  refine rd_callV (As := [.int (zI ((xs (5 * i + 1)).toInt)), .int (zI ((xs (5 * i + 2)).toInt))]) (rest := [_]) ⟨hx, hb, hml, hown2, hts2⟩ (c_X2_nearest l dC dI cI cZ cS q g w S V o (100 * (i : Int)) hg ((xs (5 * i + 1)).toInt) (zI_rng _) ((xs (5 * i + 2)).toInt) (zI_rng _)) (cwV 2 hts2 gL_law_X2_nearest rfl rfl rfl (by decide +kernel) ⟨Nat.le_of_ble_eq_true rfl, Nat.le_of_ble_eq_true rfl⟩) (n_P2 hP) hK 0 rfl rfl rfl hl.1 rfl (Nat.le_of_ble_eq_true rfl) dL_law_675 ⟨by show _ ≤ 1200000; omega, by show _ ≤ 5502250; omega⟩ ?_
  refine zr_topI (aNear (-1000005) g (xs (5 * i + 1)).toInt (xs (5 * i + 2)).toInt) (aNear_eq hg _ _ _ _) ?_
  refine lv_icmp_eq (tgt := 847) hx hb dL_law_678 (by decide) (fun _ => ?_) (fun c9 => absurd rfl c9)
  exact fin _ _ _ _ (by omega) (by omega) ⟨a, hs, q, g, w, S, V, o, sf, T0, T1, rfl, hg2, slR_mono s0 (by omega), slR_mono s1 (by omega), hP, hD⟩ hS
set_option maxHeartbeats 4000000 in
set_option maxRecDepth 100000 in
/-- the call 19: relay -/
theorem lw_k19 (C0 : lw_At p s m meth c b L xs) (hL : L ≤ 2560) (hK : kK dC dI cI cZ cS s) (hi : i < 512) (h5 : 5 * i + 5 ≤ L) (hl : lv_has ls 4 [(0, .ref b), (1, .ref h), (2, .ref q0), (3, .int (zI (5 * (i : Int))))]) (fin : ∀ (H : Heap) (locs : List Loc) (cells slots : Nat), cells ≤ 120 + 20 * i → slots ≤ 2400 + 400 * i → lwI s dC dI cI cZ cS (100 * (i : Int) + 100) h q0 H → va_S (fun q : Nat => s.heap.size ≤ q) s.heap H locs → W p l e room_1 s m #[Value.ref b] below meth c H locs cells slots (lw_Z below #[Value.ref b] s) (F0 m 847 ls [])) (hI : lwI s dC dI cI cZ cS (100 * (i : Int)) h q0 H) (hS : va_S (fun q : Nat => s.heap.size ≤ q) s.heap H locs) : W p l e room_1 s m #[Value.ref b] below meth c H locs (100 + 20 * i) (2000 + 400 * i) (lw_Z below #[Value.ref b] s) (F0 m 683 ls []) := by
  obtain ⟨hx, hb, hr, hml, hown, hts, hX, hbl, hlocks, hgv⟩ := C0
  have hown2 : s.vm.findClass RL = some m.cls := hown
  have hts2 : ∀ w ∈ wsL_law, w.before #[Value.ref b] s = true := fun w hw => hts w (wsL_law_in w hw)
  have hbA : ¬ (fun q : Nat => s.heap.size ≤ q) b := Nat.not_le.mpr hbl
  obtain ⟨a, hs, q, g, w, S, V, o, sf, T0, T1, rfl, hg, s0, s1, hP, hD⟩ := hI
  have hg2 : gB g (100 * (i : Int) + 100) := gB_mono hg (by omega)
  refine lv_aload_n hx hb dL_law_683 rfl (lv_at hl 1 rfl) ?_
  refine lv_aload_n hx hb dL_law_684 rfl (lv_at hl 0 rfl) ?_
  refine lv_iload_n hx hb dL_law_685 rfl (lv_at hl 3 rfl) ?_
  refine zr_iconst hx hb dL_law_686 ?_
  refine zr_iadd hx hb dL_law_687 ?_
  refine zr_sld hx hb hX hbl hbA hS hL (5 * i + 1) (by omega) (by omega) dL_law_688 ?_
  refine lv_aload_n hx hb dL_law_689 rfl (lv_at hl 0 rfl) ?_
  refine lv_iload_n hx hb dL_law_690 rfl (lv_at hl 3 rfl) ?_
  refine zr_iconst hx hb dL_law_691 ?_
  refine zr_iadd hx hb dL_law_692 ?_
  refine zr_sld hx hb hX hbl hbA hS hL (5 * i + 2) (by omega) (by omega) dL_law_693 ?_
  refine rd_callV (As := [.int (zI ((xs (5 * i + 1)).toInt)), .int (zI ((xs (5 * i + 2)).toInt))]) (rest := []) ⟨hx, hb, hml, hown2, hts2⟩ (c_X1_relay l dC dI cI cZ cS a h hs g (100 * (i : Int)) hg ((xs (5 * i + 1)).toInt) (zI_rng _) ((xs (5 * i + 2)).toInt) (zI_rng _)) (cwV 2 hts2 gL_law_X1_relay rfl rfl rfl (by decide +kernel) ⟨Nat.le_of_ble_eq_true rfl, Nat.le_of_ble_eq_true rfl⟩) (n_P1 hP) hK 7 rfl rfl rfl hl.1 rfl (Nat.le_of_ble_eq_true rfl) dL_law_694 ⟨by show _ ≤ 1200000; omega, by show _ ≤ 5502250; omega⟩ ?_
  refine lv_aload_n hx hb dL_law_697 rfl (lv_at hl 2 rfl) ?_
  refine lv_aload_n hx hb dL_law_698 rfl (lv_at hl 0 rfl) ?_
  refine lv_iload_n hx hb dL_law_699 rfl (lv_at hl 3 rfl) ?_
  refine zr_iconst hx hb dL_law_700 ?_
  refine zr_iadd hx hb dL_law_701 ?_
  refine zr_sld hx hb hX hbl hbA hS hL (5 * i + 1) (by omega) (by omega) dL_law_702 ?_
  refine lv_aload_n hx hb dL_law_703 rfl (lv_at hl 0 rfl) ?_
  refine lv_iload_n hx hb dL_law_704 rfl (lv_at hl 3 rfl) ?_
  refine zr_iconst hx hb dL_law_705 ?_
  refine zr_iadd hx hb dL_law_706 ?_
  refine zr_sld hx hb hX hbl hbA hS hL (5 * i + 2) (by omega) (by omega) dL_law_707 ?_
  refine rd_callV (As := [.int (zI ((xs (5 * i + 1)).toInt)), .int (zI ((xs (5 * i + 2)).toInt))]) (rest := [_]) ⟨hx, hb, hml, hown2, hts2⟩ (c_X2_relay l dC dI cI cZ cS q g w S V o (100 * (i : Int)) hg ((xs (5 * i + 1)).toInt) (zI_rng _) ((xs (5 * i + 2)).toInt) (zI_rng _)) (cwV 2 hts2 gL_law_X2_relay rfl rfl rfl (by decide +kernel) ⟨Nat.le_of_ble_eq_true rfl, Nat.le_of_ble_eq_true rfl⟩) (n_P2 hP) hK 0 rfl rfl rfl hl.1 rfl (Nat.le_of_ble_eq_true rfl) dL_law_708 ⟨by show _ ≤ 1200000; omega, by show _ ≤ 5502250; omega⟩ ?_
  refine zr_topI _ (aRelay_eq hg _ _).symm ?_
  refine lv_icmp_eq (tgt := 847) hx hb dL_law_711 (by decide) (fun _ => ?_) (fun c9 => absurd rfl c9)
  exact fin _ _ _ _ (by omega) (by omega) ⟨a, hs, q, g, w, S, V, o, sf, T0, T1, rfl, hg2, slR_mono s0 (by omega), slR_mono s1 (by omega), hP, hD⟩ hS
set_option maxHeartbeats 4000000 in
set_option maxRecDepth 100000 in
/-- the call 20: triangles -/
theorem lw_k20 (C0 : lw_At p s m meth c b L xs) (hL : L ≤ 2560) (hK : kK dC dI cI cZ cS s) (hi : i < 512) (h5 : 5 * i + 5 ≤ L) (hl : lv_has ls 4 [(0, .ref b), (1, .ref h), (2, .ref q0), (3, .int (zI (5 * (i : Int))))]) (fin : ∀ (H : Heap) (locs : List Loc) (cells slots : Nat), cells ≤ 120 + 20 * i → slots ≤ 2400 + 400 * i → lwI s dC dI cI cZ cS (100 * (i : Int) + 100) h q0 H → va_S (fun q : Nat => s.heap.size ≤ q) s.heap H locs → W p l e room_1 s m #[Value.ref b] below meth c H locs cells slots (lw_Z below #[Value.ref b] s) (F0 m 847 ls [])) (hI : lwI s dC dI cI cZ cS (100 * (i : Int)) h q0 H) (hS : va_S (fun q : Nat => s.heap.size ≤ q) s.heap H locs) : W p l e room_1 s m #[Value.ref b] below meth c H locs (100 + 20 * i) (2000 + 400 * i) (lw_Z below #[Value.ref b] s) (F0 m 716 ls []) := by
  obtain ⟨hx, hb, hr, hml, hown, hts, hX, hbl, hlocks, hgv⟩ := C0
  have hown2 : s.vm.findClass RL = some m.cls := hown
  have hts2 : ∀ w ∈ wsL_law, w.before #[Value.ref b] s = true := fun w hw => hts w (wsL_law_in w hw)
  have hbA : ¬ (fun q : Nat => s.heap.size ≤ q) b := Nat.not_le.mpr hbl
  obtain ⟨a, hs, q, g, w, S, V, o, sf, T0, T1, rfl, hg, s0, s1, hP, hD⟩ := hI
  have hg2 : gB g (100 * (i : Int) + 100) := gB_mono hg (by omega)
  refine lv_aload_n hx hb dL_law_716 rfl (lv_at hl 1 rfl) ?_
  refine rd_callV (As := []) (rest := []) ⟨hx, hb, hml, hown2, hts2⟩ (c_X1_triangles l dC dI cI cZ cS a h hs g (100 * (i : Int)) hg ) (cwV 0 hts2 gL_law_X1_triangles rfl rfl rfl (by decide +kernel) ⟨Nat.le_of_ble_eq_true rfl, Nat.le_of_ble_eq_true rfl⟩) (n_P1 hP) hK 7 rfl rfl rfl hl.1 rfl (Nat.le_of_ble_eq_true rfl) dL_law_717 ⟨by show _ ≤ 1200000; omega, by show _ ≤ 5502250; omega⟩ ?_
  refine lv_aload_n hx hb dL_law_720 rfl (lv_at hl 2 rfl) ?_
  refine wr_callVi (As := []) (rest := [_]) ⟨hx, hb, hml, hown2, hts2⟩ (c_X2_triangles l dC dI cI cZ cS q g w S V o (100 * (i : Int)) hg ) (cwV 0 hts2 gL_law_X2_triangles rfl rfl rfl (by decide +kernel) ⟨Nat.le_of_ble_eq_true rfl, Nat.le_of_ble_eq_true rfl⟩) (n_P2 hP) (n_D2 hD) hS hK 0 rfl rfl rfl hl.1 rfl (Nat.le_of_ble_eq_true rfl) dL_law_721 ⟨by show _ ≤ 1200000; omega, by show _ ≤ 5502250; omega⟩ (fun H2 locs2 hP2 hk2 hS => ?_)
  have hP := n_P2w hP hD hP2 hk2
  have hD := n_D2w (m2 := mdw cI cZ q g ((cQ g w o).1) S V ((cQ g w o).2)) hD rfl
  refine zr_topI _ (cQ_4 g w o) ?_
  refine lv_icmp_eq (tgt := 847) hx hb dL_law_724 (by decide) (fun _ => ?_) (fun c9 => absurd rfl c9)
  exact fin _ _ _ _ (by omega) (by omega) ⟨a, hs, q, g, _, S, V, _, sf, T0, T1, rfl, hg2, slR_mono s0 (by omega), slR_mono s1 (by omega), hP, hD⟩ hS
set_option maxHeartbeats 4000000 in
set_option maxRecDepth 100000 in
/-- the call 21: violations -/
theorem lw_k21 (C0 : lw_At p s m meth c b L xs) (hL : L ≤ 2560) (hK : kK dC dI cI cZ cS s) (hi : i < 512) (h5 : 5 * i + 5 ≤ L) (hl : lv_has ls 4 [(0, .ref b), (1, .ref h), (2, .ref q0), (3, .int (zI (5 * (i : Int))))]) (fin : ∀ (H : Heap) (locs : List Loc) (cells slots : Nat), cells ≤ 120 + 20 * i → slots ≤ 2400 + 400 * i → lwI s dC dI cI cZ cS (100 * (i : Int) + 100) h q0 H → va_S (fun q : Nat => s.heap.size ≤ q) s.heap H locs → W p l e room_1 s m #[Value.ref b] below meth c H locs cells slots (lw_Z below #[Value.ref b] s) (F0 m 847 ls [])) (hI : lwI s dC dI cI cZ cS (100 * (i : Int)) h q0 H) (hS : va_S (fun q : Nat => s.heap.size ≤ q) s.heap H locs) : W p l e room_1 s m #[Value.ref b] below meth c H locs (100 + 20 * i) (2000 + 400 * i) (lw_Z below #[Value.ref b] s) (F0 m 729 ls []) := by
  obtain ⟨hx, hb, hr, hml, hown, hts, hX, hbl, hlocks, hgv⟩ := C0
  have hown2 : s.vm.findClass RL = some m.cls := hown
  have hts2 : ∀ w ∈ wsL_law, w.before #[Value.ref b] s = true := fun w hw => hts w (wsL_law_in w hw)
  have hbA : ¬ (fun q : Nat => s.heap.size ≤ q) b := Nat.not_le.mpr hbl
  obtain ⟨a, hs, q, g, w, S, V, o, sf, T0, T1, rfl, hg, s0, s1, hP, hD⟩ := hI
  have hg2 : gB g (100 * (i : Int) + 100) := gB_mono hg (by omega)
  refine lv_aload_n hx hb dL_law_729 rfl (lv_at hl 1 rfl) ?_
  refine rd_callV (As := []) (rest := []) ⟨hx, hb, hml, hown2, hts2⟩ (c_X1_violations l dC dI cI cZ cS a h hs g (100 * (i : Int)) hg ) (cwV 0 hts2 gL_law_X1_violations rfl rfl rfl (by decide +kernel) ⟨Nat.le_of_ble_eq_true rfl, Nat.le_of_ble_eq_true rfl⟩) (n_P1 hP) hK 7 rfl rfl rfl hl.1 rfl (Nat.le_of_ble_eq_true rfl) dL_law_730 ⟨by show _ ≤ 1200000; omega, by show _ ≤ 5502250; omega⟩ ?_
  refine lv_aload_n hx hb dL_law_733 rfl (lv_at hl 2 rfl) ?_
  refine wr_callVi (As := []) (rest := [_]) ⟨hx, hb, hml, hown2, hts2⟩ (c_X2_violations l dC dI cI cZ cS q g w S V o (100 * (i : Int)) hg ) (cwV 0 hts2 gL_law_X2_violations rfl rfl rfl (by decide +kernel) ⟨Nat.le_of_ble_eq_true rfl, Nat.le_of_ble_eq_true rfl⟩) (n_P2 hP) (n_D2 hD) hS hK 0 rfl rfl rfl hl.1 rfl (Nat.le_of_ble_eq_true rfl) dL_law_734 ⟨by show _ ≤ 1200000; omega, by show _ ≤ 5502250; omega⟩ (fun H2 locs2 hP2 hk2 hS => ?_)
  have hP := n_P2w hP hD hP2 hk2
  have hD := n_D2w (m2 := mdw cI cZ q g ((cQ g w o).1) S V ((cQ g w o).2)) hD rfl
  refine zr_topI _ (cQ_5 hg w o).1.symm ?_
  refine lv_icmp_eq (tgt := 847) hx hb dL_law_737 (by decide) (fun _ => ?_) (fun c9 => absurd rfl c9)
  exact fin _ _ _ _ (by omega) (by omega) ⟨a, hs, q, g, _, S, V, _, sf, T0, T1, rfl, hg2, slR_mono s0 (by omega), slR_mono s1 (by omega), hP, hD⟩ hS
set_option maxHeartbeats 4000000 in
set_option maxRecDepth 100000 in
/-- the call 22: worstExcess -/
theorem lw_k22 (C0 : lw_At p s m meth c b L xs) (hL : L ≤ 2560) (hK : kK dC dI cI cZ cS s) (hi : i < 512) (h5 : 5 * i + 5 ≤ L) (hl : lv_has ls 4 [(0, .ref b), (1, .ref h), (2, .ref q0), (3, .int (zI (5 * (i : Int))))]) (fin : ∀ (H : Heap) (locs : List Loc) (cells slots : Nat), cells ≤ 120 + 20 * i → slots ≤ 2400 + 400 * i → lwI s dC dI cI cZ cS (100 * (i : Int) + 100) h q0 H → va_S (fun q : Nat => s.heap.size ≤ q) s.heap H locs → W p l e room_1 s m #[Value.ref b] below meth c H locs cells slots (lw_Z below #[Value.ref b] s) (F0 m 847 ls [])) (hI : lwI s dC dI cI cZ cS (100 * (i : Int)) h q0 H) (hS : va_S (fun q : Nat => s.heap.size ≤ q) s.heap H locs) : W p l e room_1 s m #[Value.ref b] below meth c H locs (100 + 20 * i) (2000 + 400 * i) (lw_Z below #[Value.ref b] s) (F0 m 742 ls []) := by
  obtain ⟨hx, hb, hr, hml, hown, hts, hX, hbl, hlocks, hgv⟩ := C0
  have hown2 : s.vm.findClass RL = some m.cls := hown
  have hts2 : ∀ w ∈ wsL_law, w.before #[Value.ref b] s = true := fun w hw => hts w (wsL_law_in w hw)
  have hbA : ¬ (fun q : Nat => s.heap.size ≤ q) b := Nat.not_le.mpr hbl
  obtain ⟨a, hs, q, g, w, S, V, o, sf, T0, T1, rfl, hg, s0, s1, hP, hD⟩ := hI
  have hg2 : gB g (100 * (i : Int) + 100) := gB_mono hg (by omega)
  refine lv_aload_n hx hb dL_law_742 rfl (lv_at hl 1 rfl) ?_
  refine rd_callV (As := []) (rest := []) ⟨hx, hb, hml, hown2, hts2⟩ (c_X1_worstExcess l dC dI cI cZ cS a h hs g (100 * (i : Int)) hg ) (cwV 0 hts2 gL_law_X1_worstExcess rfl rfl rfl (by decide +kernel) ⟨Nat.le_of_ble_eq_true rfl, Nat.le_of_ble_eq_true rfl⟩) (n_P1 hP) hK 7 rfl rfl rfl hl.1 rfl (Nat.le_of_ble_eq_true rfl) dL_law_743 ⟨by show _ ≤ 1200000; omega, by show _ ≤ 5502250; omega⟩ ?_
  refine lv_aload_n hx hb dL_law_746 rfl (lv_at hl 2 rfl) ?_
  refine wr_callVi (As := []) (rest := [_]) ⟨hx, hb, hml, hown2, hts2⟩ (c_X2_worstExcess l dC dI cI cZ cS q g w S V o (100 * (i : Int)) hg ) (cwV 0 hts2 gL_law_X2_worstExcess rfl rfl rfl (by decide +kernel) ⟨Nat.le_of_ble_eq_true rfl, Nat.le_of_ble_eq_true rfl⟩) (n_P2 hP) (n_D2 hD) hS hK 0 rfl rfl rfl hl.1 rfl (Nat.le_of_ble_eq_true rfl) dL_law_747 ⟨by show _ ≤ 1200000; omega, by show _ ≤ 5502250; omega⟩ (fun H2 locs2 hP2 hk2 hS => ?_)
  have hP := n_P2w hP hD hP2 hk2
  have hD := n_D2w (m2 := mdw cI cZ q g ((cQ g w o).1) S V ((cQ g w o).2)) hD rfl
  refine zr_topI _ (cQ_6 hg w o).symm ?_
  refine lv_icmp_eq (tgt := 847) hx hb dL_law_750 (by decide) (fun _ => ?_) (fun c9 => absurd rfl c9)
  exact fin _ _ _ _ (by omega) (by omega) ⟨a, hs, q, g, _, S, V, _, sf, T0, T1, rfl, hg2, slR_mono s0 (by omega), slR_mono s1 (by omega), hP, hD⟩ hS
set_option maxHeartbeats 4000000 in
set_option maxRecDepth 100000 in
/-- the call 23: suspect -/
theorem lw_k23 (C0 : lw_At p s m meth c b L xs) (hL : L ≤ 2560) (hK : kK dC dI cI cZ cS s) (hi : i < 512) (h5 : 5 * i + 5 ≤ L) (hl : lv_has ls 4 [(0, .ref b), (1, .ref h), (2, .ref q0), (3, .int (zI (5 * (i : Int))))]) (fin : ∀ (H : Heap) (locs : List Loc) (cells slots : Nat), cells ≤ 120 + 20 * i → slots ≤ 2400 + 400 * i → lwI s dC dI cI cZ cS (100 * (i : Int) + 100) h q0 H → va_S (fun q : Nat => s.heap.size ≤ q) s.heap H locs → W p l e room_1 s m #[Value.ref b] below meth c H locs cells slots (lw_Z below #[Value.ref b] s) (F0 m 847 ls [])) (hI : lwI s dC dI cI cZ cS (100 * (i : Int)) h q0 H) (hS : va_S (fun q : Nat => s.heap.size ≤ q) s.heap H locs) : W p l e room_1 s m #[Value.ref b] below meth c H locs (100 + 20 * i) (2000 + 400 * i) (lw_Z below #[Value.ref b] s) (F0 m 755 ls []) := by
  obtain ⟨hx, hb, hr, hml, hown, hts, hX, hbl, hlocks, hgv⟩ := C0
  have hown2 : s.vm.findClass RL = some m.cls := hown
  have hts2 : ∀ w ∈ wsL_law, w.before #[Value.ref b] s = true := fun w hw => hts w (wsL_law_in w hw)
  have hbA : ¬ (fun q : Nat => s.heap.size ≤ q) b := Nat.not_le.mpr hbl
  obtain ⟨a, hs, q, g, w, S, V, o, sf, T0, T1, rfl, hg, s0, s1, hP, hD⟩ := hI
  have hg2 : gB g (100 * (i : Int) + 100) := gB_mono hg (by omega)
  refine lv_aload_n hx hb dL_law_755 rfl (lv_at hl 1 rfl) ?_
  refine rd_callV (As := []) (rest := []) ⟨hx, hb, hml, hown2, hts2⟩ (c_X1_suspect l dC dI cI cZ cS a h hs g (100 * (i : Int)) hg ) (cwV 0 hts2 gL_law_X1_suspect rfl rfl rfl (by decide +kernel) ⟨Nat.le_of_ble_eq_true rfl, Nat.le_of_ble_eq_true rfl⟩) (n_P1 hP) hK 7 rfl rfl rfl hl.1 rfl (Nat.le_of_ble_eq_true rfl) dL_law_756 ⟨by show _ ≤ 1200000; omega, by show _ ≤ 5502250; omega⟩ ?_
  refine lv_aload_n hx hb dL_law_759 rfl (lv_at hl 2 rfl) ?_
  refine wr_callVi (As := []) (rest := [_]) ⟨hx, hb, hml, hown2, hts2⟩ (c_X2_suspect l dC dI cI cZ cS q g w S V o (100 * (i : Int)) hg ) (cwV 0 hts2 gL_law_X2_suspect rfl rfl rfl (by decide +kernel) ⟨Nat.le_of_ble_eq_true rfl, Nat.le_of_ble_eq_true rfl⟩) (n_P2 hP) (n_D2 hD) hS hK 0 rfl rfl rfl hl.1 rfl (Nat.le_of_ble_eq_true rfl) dL_law_760 ⟨by show _ ≤ 1200000; omega, by show _ ≤ 5502250; omega⟩ (fun H2 locs2 hP2 hk2 hS => ?_)
  have hP := n_P2w hP hD hP2 hk2
  have hD := n_D2w (m2 := mdw cI cZ q g ((cQ g w o).1) S V ((cQ g w o).2)) hD rfl
  refine zr_topI _ (aSus_eq hg w o).symm ?_
  refine lv_icmp_eq (tgt := 847) hx hb dL_law_763 (by decide) (fun _ => ?_) (fun c9 => absurd rfl c9)
  exact fin _ _ _ _ (by omega) (by omega) ⟨a, hs, q, g, _, S, V, _, sf, T0, T1, rfl, hg2, slR_mono s0 (by omega), slR_mono s1 (by omega), hP, hD⟩ hS
set_option maxHeartbeats 4000000 in
set_option maxRecDepth 100000 in
/-- the call 24: move -/
theorem lw_k24 (C0 : lw_At p s m meth c b L xs) (hL : L ≤ 2560) (hK : kK dC dI cI cZ cS s) (hi : i < 512) (h5 : 5 * i + 5 ≤ L) (hl : lv_has ls 4 [(0, .ref b), (1, .ref h), (2, .ref q0), (3, .int (zI (5 * (i : Int))))]) (fin : ∀ (H : Heap) (locs : List Loc) (cells slots : Nat), cells ≤ 120 + 20 * i → slots ≤ 2400 + 400 * i → lwI s dC dI cI cZ cS (100 * (i : Int) + 100) h q0 H → va_S (fun q : Nat => s.heap.size ≤ q) s.heap H locs → W p l e room_1 s m #[Value.ref b] below meth c H locs cells slots (lw_Z below #[Value.ref b] s) (F0 m 847 ls [])) (hI : lwI s dC dI cI cZ cS (100 * (i : Int)) h q0 H) (hS : va_S (fun q : Nat => s.heap.size ≤ q) s.heap H locs) : W p l e room_1 s m #[Value.ref b] below meth c H locs (100 + 20 * i) (2000 + 400 * i) (lw_Z below #[Value.ref b] s) (F0 m 768 ls []) := by
  obtain ⟨hx, hb, hr, hml, hown, hts, hX, hbl, hlocks, hgv⟩ := C0
  have hown2 : s.vm.findClass RL = some m.cls := hown
  have hts2 : ∀ w ∈ wsL_law, w.before #[Value.ref b] s = true := fun w hw => hts w (wsL_law_in w hw)
  have hbA : ¬ (fun q : Nat => s.heap.size ≤ q) b := Nat.not_le.mpr hbl
  obtain ⟨a, hs, q, g, w, S, V, o, sf, T0, T1, rfl, hg, s0, s1, hP, hD⟩ := hI
  have hg2 : gB g (100 * (i : Int) + 100) := gB_mono hg (by omega)
  refine lv_aload_n hx hb dL_law_768 rfl (lv_at hl 1 rfl) ?_
  refine lv_aload_n hx hb dL_law_769 rfl (lv_at hl 0 rfl) ?_
  refine lv_iload_n hx hb dL_law_770 rfl (lv_at hl 3 rfl) ?_
  refine zr_iconst hx hb dL_law_771 ?_
  refine zr_iadd hx hb dL_law_772 ?_
  refine zr_sld hx hb hX hbl hbA hS hL (5 * i + 1) (by omega) (by omega) dL_law_773 ?_
  refine lv_aload_n hx hb dL_law_774 rfl (lv_at hl 0 rfl) ?_
  refine lv_iload_n hx hb dL_law_775 rfl (lv_at hl 3 rfl) ?_
  refine zr_iconst hx hb dL_law_776 ?_
  refine zr_iadd hx hb dL_law_777 ?_
  refine zr_sld hx hb hX hbl hbA hS hL (5 * i + 2) (by omega) (by omega) dL_law_778 ?_
  refine rd_callV (As := [.int (zI ((xs (5 * i + 1)).toInt)), .int (zI ((xs (5 * i + 2)).toInt))]) (rest := []) ⟨hx, hb, hml, hown2, hts2⟩ (c_X1_move l dC dI cI cZ cS a h hs g (100 * (i : Int)) hg ((xs (5 * i + 1)).toInt) (zI_rng _) ((xs (5 * i + 2)).toInt) (zI_rng _)) (cwV 2 hts2 gL_law_X1_move rfl rfl rfl (by decide +kernel) ⟨Nat.le_of_ble_eq_true rfl, Nat.le_of_ble_eq_true rfl⟩) (n_P1 hP) hK 7 rfl rfl rfl hl.1 rfl (Nat.le_of_ble_eq_true rfl) dL_law_779 ⟨by show _ ≤ 1200000; omega, by show _ ≤ 5502250; omega⟩ ?_
  refine lv_aload_n hx hb dL_law_782 rfl (lv_at hl 2 rfl) ?_
  refine lv_aload_n hx hb dL_law_783 rfl (lv_at hl 0 rfl) ?_
  refine lv_iload_n hx hb dL_law_784 rfl (lv_at hl 3 rfl) ?_
  refine zr_iconst hx hb dL_law_785 ?_
  refine zr_iadd hx hb dL_law_786 ?_
  refine zr_sld hx hb hX hbl hbA hS hL (5 * i + 1) (by omega) (by omega) dL_law_787 ?_
  refine lv_aload_n hx hb dL_law_788 rfl (lv_at hl 0 rfl) ?_
  refine lv_iload_n hx hb dL_law_789 rfl (lv_at hl 3 rfl) ?_
  refine zr_iconst hx hb dL_law_790 ?_
  refine zr_iadd hx hb dL_law_791 ?_
  refine zr_sld hx hb hX hbl hbA hS hL (5 * i + 2) (by omega) (by omega) dL_law_792 ?_
  refine wr_callVi (As := [.int (zI ((xs (5 * i + 1)).toInt)), .int (zI ((xs (5 * i + 2)).toInt))]) (rest := [_]) ⟨hx, hb, hml, hown2, hts2⟩ (c_X2_move l dC dI cI cZ cS q g w S V o (100 * (i : Int)) hg ((xs (5 * i + 1)).toInt) (zI_rng _) ((xs (5 * i + 2)).toInt) (zI_rng _)) (cwV 2 hts2 gL_law_X2_move rfl rfl rfl (by decide +kernel) ⟨Nat.le_of_ble_eq_true rfl, Nat.le_of_ble_eq_true rfl⟩) (n_P2 hP) (n_D2 hD) hS hK 0 rfl rfl rfl hl.1 rfl (Nat.le_of_ble_eq_true rfl) dL_law_793 ⟨by show _ ≤ 1200000; omega, by show _ ≤ 5502250; omega⟩ (fun H2 locs2 hP2 hk2 hS => ?_)
  have hP := n_P2w hP hD hP2 hk2
  have hD := n_D2w (m2 := mdw cI cZ q g (wMeas g ((xs (5 * i + 1)).toInt) ((xs (5 * i + 2)).toInt) w) S V o) hD rfl
  refine lv_icmp_eq (tgt := 847) hx hb dL_law_796 (by decide) (fun _ => ?_) (fun c9 => absurd rfl c9)
  exact fin _ _ _ _ (by omega) (by omega) ⟨a, hs, q, g, _, S, V, _, sf, T0, T1, rfl, hg2, slR_mono s0 (by omega), slR_mono s1 (by omega), hP, hD⟩ hS
set_option maxHeartbeats 4000000 in
set_option maxRecDepth 100000 in
/-- the call 25: save -/
theorem lw_k25 (C0 : lw_At p s m meth c b L xs) (hL : L ≤ 2560) (hK : kK dC dI cI cZ cS s) (hi : i < 512) (h5 : 5 * i + 5 ≤ L) (hl : lv_has ls 4 [(0, .ref b), (1, .ref h), (2, .ref q0), (3, .int (zI (5 * (i : Int))))]) (fin : ∀ (H : Heap) (locs : List Loc) (cells slots : Nat), cells ≤ 120 + 20 * i → slots ≤ 2400 + 400 * i → lwI s dC dI cI cZ cS (100 * (i : Int) + 100) h q0 H → va_S (fun q : Nat => s.heap.size ≤ q) s.heap H locs → W p l e room_1 s m #[Value.ref b] below meth c H locs cells slots (lw_Z below #[Value.ref b] s) (F0 m 847 ls [])) (hI : lwI s dC dI cI cZ cS (100 * (i : Int)) h q0 H) (hS : va_S (fun q : Nat => s.heap.size ≤ q) s.heap H locs) : W p l e room_1 s m #[Value.ref b] below meth c H locs (100 + 20 * i) (2000 + 400 * i) (lw_Z below #[Value.ref b] s) (F0 m 801 ls []) := by
  obtain ⟨hx, hb, hr, hml, hown, hts, hX, hbl, hlocks, hgv⟩ := C0
  have hown2 : s.vm.findClass RL = some m.cls := hown
  have hts2 : ∀ w ∈ wsL_law, w.before #[Value.ref b] s = true := fun w hw => hts w (wsL_law_in w hw)
  have hbA : ¬ (fun q : Nat => s.heap.size ≤ q) b := Nat.not_le.mpr hbl
  obtain ⟨a, hs, q, g, w, S, V, o, sf, T0, T1, rfl, hg, s0, s1, hP, hD⟩ := hI
  have hg2 : gB g (100 * (i : Int) + 100) := gB_mono hg (by omega)
  refine lv_aload_n hx hb dL_law_801 rfl (lv_at hl 1 rfl) ?_
  refine lv_aload_n hx hb dL_law_802 rfl (lv_at hl 0 rfl) ?_
  refine lv_iload_n hx hb dL_law_803 rfl (lv_at hl 3 rfl) ?_
  refine zr_iconst hx hb dL_law_804 ?_
  refine zr_iadd hx hb dL_law_805 ?_
  refine zr_sld hx hb hX hbl hbA hS hL (5 * i + 1) (by omega) (by omega) dL_law_806 ?_
  have hV : ∀ k, k < 2 → 0 ≤ V k ∧ V k ≤ 1 := fun k hk => by
    rcases (show k = 0 ∨ k = 1 by omega) with rfl | rfl
    · exact slR_V s0
    · exact slR_V s1
  by_cases cu : 0 ≤ (xs (5 * i + 1)).toInt ∧ (xs (5 * i + 1)).toInt ≤ 1
  · obtain ⟨A, hA, eA⟩ : ∃ A : Nat, A < 2 ∧ (xs (5 * i + 1)).toInt = (A : Int) := ⟨((xs (5 * i + 1)).toInt).toNat, by omega, by omega⟩
    refine zr_topI (A : Int) eA ?_
    rcases (show A = 0 ∨ A = 1 by omega) with rfl | rfl
    · rcases s0 with ⟨e1, rfl, e3⟩ | ⟨b2, g2, e1, rfl, e3, e4, e5⟩
      · have hP := n_3P hP
        have hD := n_3D hD
        refine al_callVi (As := [.int (zI ((0 : Nat) : Int))]) (rest := []) ⟨hx, hb, hml, hown2, hts2⟩ (c_X1_save_new l dC dI cI cZ cS H.size a h hs sf g 0 (by decide) e1) (cwV 1 hts2 gL_law_X1_save rfl rfl rfl (by decide +kernel) ⟨Nat.le_of_ble_eq_true rfl, Nat.le_of_ble_eq_true rfl⟩) (va_P_left hP) (va_D_left hD) (n_F hD hS (fun _ h9 => h9)) hS hK 7 rfl rfl rfl hl.1 rfl (Nat.le_of_ble_eq_true rfl) dL_law_807 ⟨by show _ ≤ 1200000; omega, by show _ ≤ 5502250; omega⟩ (fun w2 H1 locs1 hB hP1 hD1 hk1 hS1 => ?_)
        obtain ⟨b2, rfl⟩ := hB
        obtain ⟨hP, hD⟩ := al_tail hP hD hk1 (n_F hD hS (fun _ h9 => h9)) hP1 hD1
        have hS := hS1
        have hP : va_P (dC, dI) vwCl (stw cI a g ++ mnw a h hs ++ slw cS hs (va_up sf 0 (some (b2 0))) ++ stw cI b2 (sCpy gNi g) ++ (T1 ++ mdw cI cZ q g w S V o)) H1 := hP
        have hD : va_D (fun q : Nat => s.heap.size ≤ q) (stw cI a g ++ mnw a h hs ++ slw cS hs (va_up sf 0 (some (b2 0))) ++ stw cI b2 (sCpy gNi g) ++ (T1 ++ mdw cI cZ q g w S V o)) := hD
        refine lv_aload_n hx hb dL_law_810 rfl (lv_at hl 2 rfl) ?_
        refine lv_aload_n hx hb dL_law_811 rfl (lv_at hl 0 rfl) ?_
        refine lv_iload_n hx hb dL_law_812 rfl (lv_at hl 3 rfl) ?_
        refine zr_iconst hx hb dL_law_813 ?_
        refine zr_iadd hx hb dL_law_814 ?_
        refine zr_sld hx hb hX hbl hbA hS hL (5 * i + 1) (by omega) (by omega) dL_law_815 ?_
        refine zr_topI ((0 : Nat) : Int) eA ?_
        refine wr_callVi (As := [.int (zI ((0 : Nat) : Int))]) (rest := [_]) ⟨hx, hb, hml, hown2, hts2⟩ (c_X2_save l dC dI cI cZ cS q g w S V o (100 * (i : Int)) hg ((0 : Nat) : Int) (by omega)) (cwV 1 hts2 gL_law_X2_save rfl rfl rfl (by decide +kernel) ⟨Nat.le_of_ble_eq_true rfl, Nat.le_of_ble_eq_true rfl⟩) (n_P2 hP) (n_D2 hD) hS hK 0 rfl rfl rfl hl.1 rfl (Nat.le_of_ble_eq_true rfl) dL_law_816 ⟨by show _ ≤ 1200000; omega, by show _ ≤ 5502250; omega⟩ (fun H2 locs2 hP2 hk2 hS => ?_)
        rw [nS_A (by decide), nV_A (by decide)] at hP2
        have hP := n_P2w hP hD hP2 hk2
        have hD := n_D2w (m2 := mdw cI cZ q g w (sSv S (flat g) 0 155) (zset V 0 1) o) hD rfl
        refine zr_topI 1 (aSave_A (by decide)) ?_
        refine lv_icmp_eq (tgt := 847) hx hb dL_law_819 (by decide) (fun _ => ?_) (fun c9 => absurd rfl c9)
        exact fin _ _ _ _ (by omega) (by omega) ⟨a, hs, q, g, w, (sSv S (flat g) 0 155), (zset V 0 1), o, (va_up sf 0 (some (b2 0))), stw cI b2 (sCpy gNi g), T1, rfl, hg2, slR_new hg2 (if_pos rfl), (slR_other (show 0 ≠ 1 by decide) (slR_mono s1 (by omega))).1, hP, hD⟩ hS
      · refine wr_callVi (As := [.int (zI ((0 : Nat) : Int))]) (rest := []) ⟨hx, hb, hml, hown2, hts2⟩ (c_X1_save_old l dC dI cI cZ cS a b2 h hs sf g g2 0 (by decide) e1) (cwV 1 hts2 gL_law_X1_save rfl rfl rfl (by decide +kernel) ⟨Nat.le_of_ble_eq_true rfl, Nat.le_of_ble_eq_true rfl⟩) (va_P_left hP) (va_D_left hD) hS hK 7 rfl rfl rfl hl.1 rfl (Nat.le_of_ble_eq_true rfl) dL_law_807 ⟨by show _ ≤ 1200000; omega, by show _ ≤ 5502250; omega⟩ (fun H1 locs1 hP1 hk1 hS => ?_)
        have hP := wr_tail hP hD hP1 hk1
        have hD := n_tD (w2 := stw cI a g ++ mnw a h hs ++ slw cS hs sf ++ stw cI b2 (sCpy g2 g)) hD rfl
        refine lv_aload_n hx hb dL_law_810 rfl (lv_at hl 2 rfl) ?_
        refine lv_aload_n hx hb dL_law_811 rfl (lv_at hl 0 rfl) ?_
        refine lv_iload_n hx hb dL_law_812 rfl (lv_at hl 3 rfl) ?_
        refine zr_iconst hx hb dL_law_813 ?_
        refine zr_iadd hx hb dL_law_814 ?_
        refine zr_sld hx hb hX hbl hbA hS hL (5 * i + 1) (by omega) (by omega) dL_law_815 ?_
        refine zr_topI ((0 : Nat) : Int) eA ?_
        refine wr_callVi (As := [.int (zI ((0 : Nat) : Int))]) (rest := [_]) ⟨hx, hb, hml, hown2, hts2⟩ (c_X2_save l dC dI cI cZ cS q g w S V o (100 * (i : Int)) hg ((0 : Nat) : Int) (by omega)) (cwV 1 hts2 gL_law_X2_save rfl rfl rfl (by decide +kernel) ⟨Nat.le_of_ble_eq_true rfl, Nat.le_of_ble_eq_true rfl⟩) (n_P2 hP) (n_D2 hD) hS hK 0 rfl rfl rfl hl.1 rfl (Nat.le_of_ble_eq_true rfl) dL_law_816 ⟨by show _ ≤ 1200000; omega, by show _ ≤ 5502250; omega⟩ (fun H2 locs2 hP2 hk2 hS => ?_)
        rw [nS_A (by decide), nV_A (by decide)] at hP2
        have hP := n_P2w hP hD hP2 hk2
        have hD := n_D2w (m2 := mdw cI cZ q g w (sSv S (flat g) 0 155) (zset V 0 1) o) hD rfl
        refine zr_topI 1 (aSave_A (by decide)) ?_
        refine lv_icmp_eq (tgt := 847) hx hb dL_law_819 (by decide) (fun _ => ?_) (fun c9 => absurd rfl c9)
        exact fin _ _ _ _ (by omega) (by omega) ⟨a, hs, q, g, w, (sSv S (flat g) 0 155), (zset V 0 1), o, sf, stw cI b2 (sCpy g2 g), T1, rfl, hg2, slR_new hg2 e1, (slR_other (x := none) (show 0 ≠ 1 by decide) (slR_mono s1 (by omega))).2, hP, hD⟩ hS
    · have hP := n_swP hP
      have hD := n_swD hD
      rcases s1 with ⟨e1, rfl, e3⟩ | ⟨b2, g2, e1, rfl, e3, e4, e5⟩
      · have hP := n_3P hP
        have hD := n_3D hD
        refine al_callVi (As := [.int (zI ((1 : Nat) : Int))]) (rest := []) ⟨hx, hb, hml, hown2, hts2⟩ (c_X1_save_new l dC dI cI cZ cS H.size a h hs sf g 1 (by decide) e1) (cwV 1 hts2 gL_law_X1_save rfl rfl rfl (by decide +kernel) ⟨Nat.le_of_ble_eq_true rfl, Nat.le_of_ble_eq_true rfl⟩) (va_P_left hP) (va_D_left hD) (n_F hD hS (fun _ h9 => h9)) hS hK 7 rfl rfl rfl hl.1 rfl (Nat.le_of_ble_eq_true rfl) dL_law_807 ⟨by show _ ≤ 1200000; omega, by show _ ≤ 5502250; omega⟩ (fun w2 H1 locs1 hB hP1 hD1 hk1 hS1 => ?_)
        obtain ⟨b2, rfl⟩ := hB
        obtain ⟨hP, hD⟩ := al_tail hP hD hk1 (n_F hD hS (fun _ h9 => h9)) hP1 hD1
        have hS := hS1
        have hP : va_P (dC, dI) vwCl (stw cI a g ++ mnw a h hs ++ slw cS hs (va_up sf 1 (some (b2 0))) ++ stw cI b2 (sCpy gNi g) ++ (T0 ++ mdw cI cZ q g w S V o)) H1 := hP
        have hD : va_D (fun q : Nat => s.heap.size ≤ q) (stw cI a g ++ mnw a h hs ++ slw cS hs (va_up sf 1 (some (b2 0))) ++ stw cI b2 (sCpy gNi g) ++ (T0 ++ mdw cI cZ q g w S V o)) := hD
        refine lv_aload_n hx hb dL_law_810 rfl (lv_at hl 2 rfl) ?_
        refine lv_aload_n hx hb dL_law_811 rfl (lv_at hl 0 rfl) ?_
        refine lv_iload_n hx hb dL_law_812 rfl (lv_at hl 3 rfl) ?_
        refine zr_iconst hx hb dL_law_813 ?_
        refine zr_iadd hx hb dL_law_814 ?_
        refine zr_sld hx hb hX hbl hbA hS hL (5 * i + 1) (by omega) (by omega) dL_law_815 ?_
        refine zr_topI ((1 : Nat) : Int) eA ?_
        refine wr_callVi (As := [.int (zI ((1 : Nat) : Int))]) (rest := [_]) ⟨hx, hb, hml, hown2, hts2⟩ (c_X2_save l dC dI cI cZ cS q g w S V o (100 * (i : Int)) hg ((1 : Nat) : Int) (by omega)) (cwV 1 hts2 gL_law_X2_save rfl rfl rfl (by decide +kernel) ⟨Nat.le_of_ble_eq_true rfl, Nat.le_of_ble_eq_true rfl⟩) (n_P2 hP) (n_D2 hD) hS hK 0 rfl rfl rfl hl.1 rfl (Nat.le_of_ble_eq_true rfl) dL_law_816 ⟨by show _ ≤ 1200000; omega, by show _ ≤ 5502250; omega⟩ (fun H2 locs2 hP2 hk2 hS => ?_)
        rw [nS_A (by decide), nV_A (by decide)] at hP2
        have hP := n_P2w hP hD hP2 hk2
        have hD := n_D2w (m2 := mdw cI cZ q g w (sSv S (flat g) 1 155) (zset V 1 1) o) hD rfl
        have hP := n_swP hP
        have hD := n_swD hD
        refine zr_topI 1 (aSave_A (by decide)) ?_
        refine lv_icmp_eq (tgt := 847) hx hb dL_law_819 (by decide) (fun _ => ?_) (fun c9 => absurd rfl c9)
        exact fin _ _ _ _ (by omega) (by omega) ⟨a, hs, q, g, w, (sSv S (flat g) 1 155), (zset V 1 1), o, (va_up sf 1 (some (b2 0))), T0, stw cI b2 (sCpy gNi g), rfl, hg2, (slR_other (show 1 ≠ 0 by decide) (slR_mono s0 (by omega))).1, slR_new hg2 (if_pos rfl), hP, hD⟩ hS
      · refine wr_callVi (As := [.int (zI ((1 : Nat) : Int))]) (rest := []) ⟨hx, hb, hml, hown2, hts2⟩ (c_X1_save_old l dC dI cI cZ cS a b2 h hs sf g g2 1 (by decide) e1) (cwV 1 hts2 gL_law_X1_save rfl rfl rfl (by decide +kernel) ⟨Nat.le_of_ble_eq_true rfl, Nat.le_of_ble_eq_true rfl⟩) (va_P_left hP) (va_D_left hD) hS hK 7 rfl rfl rfl hl.1 rfl (Nat.le_of_ble_eq_true rfl) dL_law_807 ⟨by show _ ≤ 1200000; omega, by show _ ≤ 5502250; omega⟩ (fun H1 locs1 hP1 hk1 hS => ?_)
        have hP := wr_tail hP hD hP1 hk1
        have hD := n_tD (w2 := stw cI a g ++ mnw a h hs ++ slw cS hs sf ++ stw cI b2 (sCpy g2 g)) hD rfl
        refine lv_aload_n hx hb dL_law_810 rfl (lv_at hl 2 rfl) ?_
        refine lv_aload_n hx hb dL_law_811 rfl (lv_at hl 0 rfl) ?_
        refine lv_iload_n hx hb dL_law_812 rfl (lv_at hl 3 rfl) ?_
        refine zr_iconst hx hb dL_law_813 ?_
        refine zr_iadd hx hb dL_law_814 ?_
        refine zr_sld hx hb hX hbl hbA hS hL (5 * i + 1) (by omega) (by omega) dL_law_815 ?_
        refine zr_topI ((1 : Nat) : Int) eA ?_
        refine wr_callVi (As := [.int (zI ((1 : Nat) : Int))]) (rest := [_]) ⟨hx, hb, hml, hown2, hts2⟩ (c_X2_save l dC dI cI cZ cS q g w S V o (100 * (i : Int)) hg ((1 : Nat) : Int) (by omega)) (cwV 1 hts2 gL_law_X2_save rfl rfl rfl (by decide +kernel) ⟨Nat.le_of_ble_eq_true rfl, Nat.le_of_ble_eq_true rfl⟩) (n_P2 hP) (n_D2 hD) hS hK 0 rfl rfl rfl hl.1 rfl (Nat.le_of_ble_eq_true rfl) dL_law_816 ⟨by show _ ≤ 1200000; omega, by show _ ≤ 5502250; omega⟩ (fun H2 locs2 hP2 hk2 hS => ?_)
        rw [nS_A (by decide), nV_A (by decide)] at hP2
        have hP := n_P2w hP hD hP2 hk2
        have hD := n_D2w (m2 := mdw cI cZ q g w (sSv S (flat g) 1 155) (zset V 1 1) o) hD rfl
        have hP := n_swP hP
        have hD := n_swD hD
        refine zr_topI 1 (aSave_A (by decide)) ?_
        refine lv_icmp_eq (tgt := 847) hx hb dL_law_819 (by decide) (fun _ => ?_) (fun c9 => absurd rfl c9)
        exact fin _ _ _ _ (by omega) (by omega) ⟨a, hs, q, g, w, (sSv S (flat g) 1 155), (zset V 1 1), o, sf, T0, stw cI b2 (sCpy g2 g), rfl, hg2, (slR_other (x := none) (show 1 ≠ 0 by decide) (slR_mono s0 (by omega))).2, slR_new hg2 e1, hP, hD⟩ hS
  · refine rd_callV (As := [.int (zI ((xs (5 * i + 1)).toInt))]) (rest := []) ⟨hx, hb, hml, hown2, hts2⟩ (c_X1_save_bad l dC dI cI cZ cS a h hs g ((xs (5 * i + 1)).toInt) (zI_rng _) cu) (cwV 1 hts2 gL_law_X1_save rfl rfl rfl (by decide +kernel) ⟨Nat.le_of_ble_eq_true rfl, Nat.le_of_ble_eq_true rfl⟩) (n_P1 hP) hK 7 rfl rfl rfl hl.1 rfl (Nat.le_of_ble_eq_true rfl) dL_law_807 ⟨by show _ ≤ 1200000; omega, by show _ ≤ 5502250; omega⟩ ?_
    refine lv_aload_n hx hb dL_law_810 rfl (lv_at hl 2 rfl) ?_
    refine lv_aload_n hx hb dL_law_811 rfl (lv_at hl 0 rfl) ?_
    refine lv_iload_n hx hb dL_law_812 rfl (lv_at hl 3 rfl) ?_
    refine zr_iconst hx hb dL_law_813 ?_
    refine zr_iadd hx hb dL_law_814 ?_
    refine zr_sld hx hb hX hbl hbA hS hL (5 * i + 1) (by omega) (by omega) dL_law_815 ?_
    refine wr_callVi (As := [.int (zI ((xs (5 * i + 1)).toInt))]) (rest := [_]) ⟨hx, hb, hml, hown2, hts2⟩ (c_X2_save l dC dI cI cZ cS q g w S V o (100 * (i : Int)) hg ((xs (5 * i + 1)).toInt) (zI_rng _)) (cwV 1 hts2 gL_law_X2_save rfl rfl rfl (by decide +kernel) ⟨Nat.le_of_ble_eq_true rfl, Nat.le_of_ble_eq_true rfl⟩) (n_P2 hP) (n_D2 hD) hS hK 0 rfl rfl rfl hl.1 rfl (Nat.le_of_ble_eq_true rfl) dL_law_816 ⟨by show _ ≤ 1200000; omega, by show _ ≤ 5502250; omega⟩ (fun H2 locs2 hP2 hk2 hS => ?_)
    rw [show nS S g ((xs (5 * i + 1)).toInt) = S from if_neg cu, show nV V ((xs (5 * i + 1)).toInt) = V from if_neg cu] at hP2
    have hP := n_P2w (m2 := mdw cI cZ q g w S V o) hP hD hP2 hk2
    refine zr_topI (-1000002) (if_neg cu) ?_
    refine lv_icmp_eq (tgt := 847) hx hb dL_law_819 (by decide) (fun _ => ?_) (fun c9 => absurd rfl c9)
    exact fin _ _ _ _ (by omega) (by omega) ⟨a, hs, q, g, w, S, V, o, sf, T0, T1, rfl, hg2, slR_mono s0 (by omega), slR_mono s1 (by omega), hP, hD⟩ hS
set_option maxHeartbeats 4000000 in
set_option maxRecDepth 100000 in
/-- the call 26: restore -/
theorem lw_k26 (C0 : lw_At p s m meth c b L xs) (hL : L ≤ 2560) (hK : kK dC dI cI cZ cS s) (hi : i < 512) (h5 : 5 * i + 5 ≤ L) (hl : lv_has ls 4 [(0, .ref b), (1, .ref h), (2, .ref q0), (3, .int (zI (5 * (i : Int))))]) (fin : ∀ (H : Heap) (locs : List Loc) (cells slots : Nat), cells ≤ 120 + 20 * i → slots ≤ 2400 + 400 * i → lwI s dC dI cI cZ cS (100 * (i : Int) + 100) h q0 H → va_S (fun q : Nat => s.heap.size ≤ q) s.heap H locs → W p l e room_1 s m #[Value.ref b] below meth c H locs cells slots (lw_Z below #[Value.ref b] s) (F0 m 847 ls [])) (hI : lwI s dC dI cI cZ cS (100 * (i : Int)) h q0 H) (hS : va_S (fun q : Nat => s.heap.size ≤ q) s.heap H locs) : W p l e room_1 s m #[Value.ref b] below meth c H locs (100 + 20 * i) (2000 + 400 * i) (lw_Z below #[Value.ref b] s) (F0 m 824 ls []) := by
  obtain ⟨hx, hb, hr, hml, hown, hts, hX, hbl, hlocks, hgv⟩ := C0
  have hown2 : s.vm.findClass RL = some m.cls := hown
  have hts2 : ∀ w ∈ wsL_law, w.before #[Value.ref b] s = true := fun w hw => hts w (wsL_law_in w hw)
  have hbA : ¬ (fun q : Nat => s.heap.size ≤ q) b := Nat.not_le.mpr hbl
  obtain ⟨a, hs, q, g, w, S, V, o, sf, T0, T1, rfl, hg, s0, s1, hP, hD⟩ := hI
  have hg2 : gB g (100 * (i : Int) + 100) := gB_mono hg (by omega)
  refine lv_aload_n hx hb dL_law_824 rfl (lv_at hl 1 rfl) ?_
  refine lv_aload_n hx hb dL_law_825 rfl (lv_at hl 0 rfl) ?_
  refine lv_iload_n hx hb dL_law_826 rfl (lv_at hl 3 rfl) ?_
  refine zr_iconst hx hb dL_law_827 ?_
  refine zr_iadd hx hb dL_law_828 ?_
  refine zr_sld hx hb hX hbl hbA hS hL (5 * i + 1) (by omega) (by omega) dL_law_829 ?_
  have hV : ∀ k, k < 2 → 0 ≤ V k ∧ V k ≤ 1 := fun k hk => by
    rcases (show k = 0 ∨ k = 1 by omega) with rfl | rfl
    · exact slR_V s0
    · exact slR_V s1
  by_cases cu : 0 ≤ (xs (5 * i + 1)).toInt ∧ (xs (5 * i + 1)).toInt ≤ 1
  · obtain ⟨A, hA, eA⟩ : ∃ A : Nat, A < 2 ∧ (xs (5 * i + 1)).toInt = (A : Int) := ⟨((xs (5 * i + 1)).toInt).toNat, by omega, by omega⟩
    refine zr_topI (A : Int) eA ?_
    rcases (show A = 0 ∨ A = 1 by omega) with rfl | rfl
    · rcases s0 with ⟨e1, rfl, e3⟩ | ⟨b2, g2, e1, rfl, e3, e4, e5⟩
      · refine rd_callV (As := [.int (zI ((0 : Nat) : Int))]) (rest := []) ⟨hx, hb, hml, hown2, hts2⟩ (c_X1_restore_none l dC dI cI cZ cS a h hs sf g 0 (by decide) e1) (cwV 1 hts2 gL_law_X1_restore rfl rfl rfl (by decide +kernel) ⟨Nat.le_of_ble_eq_true rfl, Nat.le_of_ble_eq_true rfl⟩) (va_P_left (va_P_left hP)) hK 7 rfl rfl rfl hl.1 rfl (Nat.le_of_ble_eq_true rfl) dL_law_830 ⟨by show _ ≤ 1200000; omega, by show _ ≤ 5502250; omega⟩ ?_
        refine lv_aload_n hx hb dL_law_833 rfl (lv_at hl 2 rfl) ?_
        refine lv_aload_n hx hb dL_law_834 rfl (lv_at hl 0 rfl) ?_
        refine lv_iload_n hx hb dL_law_835 rfl (lv_at hl 3 rfl) ?_
        refine zr_iconst hx hb dL_law_836 ?_
        refine zr_iadd hx hb dL_law_837 ?_
        refine zr_sld hx hb hX hbl hbA hS hL (5 * i + 1) (by omega) (by omega) dL_law_838 ?_
        refine zr_topI ((0 : Nat) : Int) eA ?_
        refine wr_callVi (As := [.int (zI ((0 : Nat) : Int))]) (rest := [_]) ⟨hx, hb, hml, hown2, hts2⟩ (c_X2_restore l dC dI cI cZ cS q g w S V o (100 * (i : Int)) hg ((0 : Nat) : Int) (by omega) hV) (cwV 1 hts2 gL_law_X2_restore rfl rfl rfl (by decide +kernel) ⟨Nat.le_of_ble_eq_true rfl, Nat.le_of_ble_eq_true rfl⟩) (n_P2 hP) (n_D2 hD) hS hK 0 rfl rfl rfl hl.1 rfl (Nat.le_of_ble_eq_true rfl) dL_law_839 ⟨by show _ ≤ 1200000; omega, by show _ ≤ 5502250; omega⟩ (fun H2 locs2 hP2 hk2 hS => ?_)
        rw [fRest_0 e3] at hP2
        have hP := n_P2w (m2 := mdw cI cZ q g w S V o) hP hD hP2 hk2
        refine zr_topI (-1000006) (aRest_0 (by decide) e3) ?_
        refine lv_icmp_eq (tgt := 847) hx hb dL_law_842 (by decide) (fun _ => ?_) (fun c9 => absurd rfl c9)
        exact fin _ _ _ _ (by omega) (by omega) ⟨a, hs, q, g, w, S, V, o, sf, [], T1, rfl, hg2, Or.inl ⟨e1, rfl, e3⟩, slR_mono s1 (by omega), hP, hD⟩ hS
      · refine wr_callVi (As := [.int (zI ((0 : Nat) : Int))]) (rest := []) ⟨hx, hb, hml, hown2, hts2⟩ (c_X1_restore_some l dC dI cI cZ cS a b2 h hs sf g g2 0 (by decide) e1) (cwV 1 hts2 gL_law_X1_restore rfl rfl rfl (by decide +kernel) ⟨Nat.le_of_ble_eq_true rfl, Nat.le_of_ble_eq_true rfl⟩) (va_P_left hP) (va_D_left hD) hS hK 7 rfl rfl rfl hl.1 rfl (Nat.le_of_ble_eq_true rfl) dL_law_830 ⟨by show _ ≤ 1200000; omega, by show _ ≤ 5502250; omega⟩ (fun H1 locs1 hP1 hk1 hS => ?_)
        have hP := wr_tail hP hD hP1 hk1
        have hD := n_tD (w2 := stw cI a (sCpy g g2) ++ mnw a h hs ++ slw cS hs sf ++ stw cI b2 g2) hD rfl
        refine lv_aload_n hx hb dL_law_833 rfl (lv_at hl 2 rfl) ?_
        refine lv_aload_n hx hb dL_law_834 rfl (lv_at hl 0 rfl) ?_
        refine lv_iload_n hx hb dL_law_835 rfl (lv_at hl 3 rfl) ?_
        refine zr_iconst hx hb dL_law_836 ?_
        refine zr_iadd hx hb dL_law_837 ?_
        refine zr_sld hx hb hX hbl hbA hS hL (5 * i + 1) (by omega) (by omega) dL_law_838 ?_
        refine zr_topI ((0 : Nat) : Int) eA ?_
        refine wr_callVi (As := [.int (zI ((0 : Nat) : Int))]) (rest := [_]) ⟨hx, hb, hml, hown2, hts2⟩ (c_X2_restore l dC dI cI cZ cS q g w S V o (100 * (i : Int)) hg ((0 : Nat) : Int) (by omega) hV) (cwV 1 hts2 gL_law_X2_restore rfl rfl rfl (by decide +kernel) ⟨Nat.le_of_ble_eq_true rfl, Nat.le_of_ble_eq_true rfl⟩) (n_P2 hP) (n_D2 hD) hS hK 0 rfl rfl rfl hl.1 rfl (Nat.le_of_ble_eq_true rfl) dL_law_839 ⟨by show _ ≤ 1200000; omega, by show _ ≤ 5502250; omega⟩ (fun H2 locs2 hP2 hk2 hS => ?_)
        have hP2 := mdf_of ((fRest_1 (by decide) e3).trans (rsf_cpy e5)) hP2
        have hP := n_P2w hP hD hP2 hk2
        have hD := n_D2w (m2 := mdw cI cZ q (sCpy g g2) w S V o) hD rfl
        refine zr_topI 1 (aRest_1 (by decide) e3) ?_
        refine lv_icmp_eq (tgt := 847) hx hb dL_law_842 (by decide) (fun _ => ?_) (fun c9 => absurd rfl c9)
        exact fin _ _ _ _ (by omega) (by omega) ⟨a, hs, q, (sCpy g g2), w, S, V, o, sf, stw cI b2 g2, T1, rfl, sCpy_gB (gB_mono e4 (by omega)), Or.inr ⟨b2, g2, e1, rfl, e3, gB_mono e4 (by omega), e5⟩, slR_mono s1 (by omega), hP, hD⟩ hS
    · have hP := n_swP hP
      have hD := n_swD hD
      rcases s1 with ⟨e1, rfl, e3⟩ | ⟨b2, g2, e1, rfl, e3, e4, e5⟩
      · refine rd_callV (As := [.int (zI ((1 : Nat) : Int))]) (rest := []) ⟨hx, hb, hml, hown2, hts2⟩ (c_X1_restore_none l dC dI cI cZ cS a h hs sf g 1 (by decide) e1) (cwV 1 hts2 gL_law_X1_restore rfl rfl rfl (by decide +kernel) ⟨Nat.le_of_ble_eq_true rfl, Nat.le_of_ble_eq_true rfl⟩) (va_P_left (va_P_left hP)) hK 7 rfl rfl rfl hl.1 rfl (Nat.le_of_ble_eq_true rfl) dL_law_830 ⟨by show _ ≤ 1200000; omega, by show _ ≤ 5502250; omega⟩ ?_
        refine lv_aload_n hx hb dL_law_833 rfl (lv_at hl 2 rfl) ?_
        refine lv_aload_n hx hb dL_law_834 rfl (lv_at hl 0 rfl) ?_
        refine lv_iload_n hx hb dL_law_835 rfl (lv_at hl 3 rfl) ?_
        refine zr_iconst hx hb dL_law_836 ?_
        refine zr_iadd hx hb dL_law_837 ?_
        refine zr_sld hx hb hX hbl hbA hS hL (5 * i + 1) (by omega) (by omega) dL_law_838 ?_
        refine zr_topI ((1 : Nat) : Int) eA ?_
        refine wr_callVi (As := [.int (zI ((1 : Nat) : Int))]) (rest := [_]) ⟨hx, hb, hml, hown2, hts2⟩ (c_X2_restore l dC dI cI cZ cS q g w S V o (100 * (i : Int)) hg ((1 : Nat) : Int) (by omega) hV) (cwV 1 hts2 gL_law_X2_restore rfl rfl rfl (by decide +kernel) ⟨Nat.le_of_ble_eq_true rfl, Nat.le_of_ble_eq_true rfl⟩) (n_P2 hP) (n_D2 hD) hS hK 0 rfl rfl rfl hl.1 rfl (Nat.le_of_ble_eq_true rfl) dL_law_839 ⟨by show _ ≤ 1200000; omega, by show _ ≤ 5502250; omega⟩ (fun H2 locs2 hP2 hk2 hS => ?_)
        rw [fRest_0 e3] at hP2
        have hP := n_P2w (m2 := mdw cI cZ q g w S V o) hP hD hP2 hk2
        have hP := n_swP hP
        have hD := n_swD hD
        refine zr_topI (-1000006) (aRest_0 (by decide) e3) ?_
        refine lv_icmp_eq (tgt := 847) hx hb dL_law_842 (by decide) (fun _ => ?_) (fun c9 => absurd rfl c9)
        exact fin _ _ _ _ (by omega) (by omega) ⟨a, hs, q, g, w, S, V, o, sf, T0, [], rfl, hg2, slR_mono s0 (by omega), Or.inl ⟨e1, rfl, e3⟩, hP, hD⟩ hS
      · refine wr_callVi (As := [.int (zI ((1 : Nat) : Int))]) (rest := []) ⟨hx, hb, hml, hown2, hts2⟩ (c_X1_restore_some l dC dI cI cZ cS a b2 h hs sf g g2 1 (by decide) e1) (cwV 1 hts2 gL_law_X1_restore rfl rfl rfl (by decide +kernel) ⟨Nat.le_of_ble_eq_true rfl, Nat.le_of_ble_eq_true rfl⟩) (va_P_left hP) (va_D_left hD) hS hK 7 rfl rfl rfl hl.1 rfl (Nat.le_of_ble_eq_true rfl) dL_law_830 ⟨by show _ ≤ 1200000; omega, by show _ ≤ 5502250; omega⟩ (fun H1 locs1 hP1 hk1 hS => ?_)
        have hP := wr_tail hP hD hP1 hk1
        have hD := n_tD (w2 := stw cI a (sCpy g g2) ++ mnw a h hs ++ slw cS hs sf ++ stw cI b2 g2) hD rfl
        refine lv_aload_n hx hb dL_law_833 rfl (lv_at hl 2 rfl) ?_
        refine lv_aload_n hx hb dL_law_834 rfl (lv_at hl 0 rfl) ?_
        refine lv_iload_n hx hb dL_law_835 rfl (lv_at hl 3 rfl) ?_
        refine zr_iconst hx hb dL_law_836 ?_
        refine zr_iadd hx hb dL_law_837 ?_
        refine zr_sld hx hb hX hbl hbA hS hL (5 * i + 1) (by omega) (by omega) dL_law_838 ?_
        refine zr_topI ((1 : Nat) : Int) eA ?_
        refine wr_callVi (As := [.int (zI ((1 : Nat) : Int))]) (rest := [_]) ⟨hx, hb, hml, hown2, hts2⟩ (c_X2_restore l dC dI cI cZ cS q g w S V o (100 * (i : Int)) hg ((1 : Nat) : Int) (by omega) hV) (cwV 1 hts2 gL_law_X2_restore rfl rfl rfl (by decide +kernel) ⟨Nat.le_of_ble_eq_true rfl, Nat.le_of_ble_eq_true rfl⟩) (n_P2 hP) (n_D2 hD) hS hK 0 rfl rfl rfl hl.1 rfl (Nat.le_of_ble_eq_true rfl) dL_law_839 ⟨by show _ ≤ 1200000; omega, by show _ ≤ 5502250; omega⟩ (fun H2 locs2 hP2 hk2 hS => ?_)
        have hP2 := mdf_of ((fRest_1 (by decide) e3).trans (rsf_cpy e5)) hP2
        have hP := n_P2w hP hD hP2 hk2
        have hD := n_D2w (m2 := mdw cI cZ q (sCpy g g2) w S V o) hD rfl
        have hP := n_swP hP
        have hD := n_swD hD
        refine zr_topI 1 (aRest_1 (by decide) e3) ?_
        refine lv_icmp_eq (tgt := 847) hx hb dL_law_842 (by decide) (fun _ => ?_) (fun c9 => absurd rfl c9)
        exact fin _ _ _ _ (by omega) (by omega) ⟨a, hs, q, (sCpy g g2), w, S, V, o, sf, T0, stw cI b2 g2, rfl, sCpy_gB (gB_mono e4 (by omega)), slR_mono s0 (by omega), Or.inr ⟨b2, g2, e1, rfl, e3, gB_mono e4 (by omega), e5⟩, hP, hD⟩ hS
  · refine rd_callV (As := [.int (zI ((xs (5 * i + 1)).toInt))]) (rest := []) ⟨hx, hb, hml, hown2, hts2⟩ (c_X1_restore_bad l dC dI cI cZ cS a h hs g ((xs (5 * i + 1)).toInt) (zI_rng _) cu) (cwV 1 hts2 gL_law_X1_restore rfl rfl rfl (by decide +kernel) ⟨Nat.le_of_ble_eq_true rfl, Nat.le_of_ble_eq_true rfl⟩) (n_P1 hP) hK 7 rfl rfl rfl hl.1 rfl (Nat.le_of_ble_eq_true rfl) dL_law_830 ⟨by show _ ≤ 1200000; omega, by show _ ≤ 5502250; omega⟩ ?_
    refine lv_aload_n hx hb dL_law_833 rfl (lv_at hl 2 rfl) ?_
    refine lv_aload_n hx hb dL_law_834 rfl (lv_at hl 0 rfl) ?_
    refine lv_iload_n hx hb dL_law_835 rfl (lv_at hl 3 rfl) ?_
    refine zr_iconst hx hb dL_law_836 ?_
    refine zr_iadd hx hb dL_law_837 ?_
    refine zr_sld hx hb hX hbl hbA hS hL (5 * i + 1) (by omega) (by omega) dL_law_838 ?_
    refine wr_callVi (As := [.int (zI ((xs (5 * i + 1)).toInt))]) (rest := [_]) ⟨hx, hb, hml, hown2, hts2⟩ (c_X2_restore l dC dI cI cZ cS q g w S V o (100 * (i : Int)) hg ((xs (5 * i + 1)).toInt) (zI_rng _) hV) (cwV 1 hts2 gL_law_X2_restore rfl rfl rfl (by decide +kernel) ⟨Nat.le_of_ble_eq_true rfl, Nat.le_of_ble_eq_true rfl⟩) (n_P2 hP) (n_D2 hD) hS hK 0 rfl rfl rfl hl.1 rfl (Nat.le_of_ble_eq_true rfl) dL_law_839 ⟨by show _ ≤ 1200000; omega, by show _ ≤ 5502250; omega⟩ (fun H2 locs2 hP2 hk2 hS => ?_)
    rw [show fRest S V g ((xs (5 * i + 1)).toInt) = flat g from if_neg (fun c8 => cu c8.1)] at hP2
    have hP := n_P2w (m2 := mdw cI cZ q g w S V o) hP hD hP2 hk2
    refine zr_topI (-1000002) (if_neg cu) ?_
    refine lv_icmp_eq (tgt := 847) hx hb dL_law_842 (by decide) (fun _ => ?_) (fun c9 => absurd rfl c9)
    exact fin _ _ _ _ (by omega) (by omega) ⟨a, hs, q, g, w, S, V, o, sf, T0, T1, rfl, hg2, slR_mono s0 (by omega), slR_mono s1 (by omega), hP, hD⟩ hS
set_option maxHeartbeats 4000000 in
set_option maxRecDepth 100000 in
/-- the loop: at its head, with i calls behind it -/
theorem law_loop (C0 : lw_At p s m meth c b L xs) (hL : L ≤ 2560) (hK : kK dC dI cI cZ cS s) : ∀ (n i : Nat), i + n = 513 → 5 * i ≤ L → ∀ (H : Heap) (locs : List Loc), lwI s dC dI cI cZ cS (100 * (i : Int)) h q0 H → va_S (fun q : Nat => s.heap.size ≤ q) s.heap H locs → ∀ ls : Array Slot, lv_has ls 4 [(0, .ref b), (1, .ref h), (2, .ref q0), (3, .int (zI (5 * (i : Int))))] → W p l e room_1 s m #[Value.ref b] below meth c H locs (100 + 20 * i) (2000 + 400 * i) (lw_Z below #[Value.ref b] s) (F0 m 18 ls []) := by
  obtain ⟨hx, hb, hr, hml, hown, hts, hX, hbl, hlocks, hgv⟩ := id C0
  have hbA : ¬ (fun q : Nat => s.heap.size ≤ q) b := Nat.not_le.mpr hbl
  intro n
  induction n with
  | zero =>
    intro i h1 h2
    exact absurd h2 (by omega)
  | succ n ih =>
    intro i h1 h2 H locs hI hS ls hl
    refine lv_iload_n hx hb dL_law_18 rfl (lv_at hl 3 rfl) ?_
    refine lv_aload_n hx hb dL_law_19 rfl (lv_at hl 0 rfl) ?_
    refine va_slen hx hb hX hbl hbA hS dL_law_20 ?_
    rw [show Int32.ofNat L = zI (L : Int) from (zI_nat L).symm]
    refine zr_iconst hx hb dL_law_21 ?_
    refine zr_isub hx hb dL_law_22 ?_
    refine zr_icmp_gt (tgt := 853) hx hb dL_law_23 (by decide) (by omega) (by omega) (fun c1 => ?_) (fun c1 => ?_)
    · refine lv_iconst (v := 1) hx hb dL_law_853 (by decide) ?_
      refine va_forget (fun q hq => hS.2.2 q hq) ?_
      refine W.widen (k := 1200000) (n := 5502250) (by omega) (by omega) ?_
      exact lw_ret hx hb hr hlocks dL_law_854
    · have h5 : 5 * i + 5 ≤ L := by omega
      have fin : ∀ (H : Heap) (locs : List Loc) (cells slots : Nat), cells ≤ 120 + 20 * i → slots ≤ 2400 + 400 * i → lwI s dC dI cI cZ cS (100 * (i : Int) + 100) h q0 H → va_S (fun q : Nat => s.heap.size ≤ q) s.heap H locs → W p l e room_1 s m #[Value.ref b] below meth c H locs cells slots (lw_Z below #[Value.ref b] s) (F0 m 847 ls []) := by
        intro H locs cells slots k1 k2 hI hS
        refine zr_iinc (b := 5 * ((i + 1 : Nat) : Int)) (lv' := [(3, .int (zI (5 * ((i + 1 : Nat) : Int)))), (0, .ref b), (1, .ref h), (2, .ref q0)]) hx hb dL_law_847 hl (k := 3) rfl (by omega) (by decide) rfl (fun ls hl => ?_)
        refine lv_goto (tgt := 18) hx hb dL_law_850 (by decide) ?_
        refine W.widen (k := 100 + 20 * (i + 1)) (n := 2000 + 400 * (i + 1)) (by omega) (by omega) ?_
        have e1 : 100 * ((i + 1 : Nat) : Int) = 100 * (i : Int) + 100 := by omega
        exact ih (i + 1) (by omega) (by omega) H locs (by rw [e1]; exact hI) hS ls (lv_sub hl [1, 2, 3, 0] rfl)
      refine lv_aload_n hx hb dL_law_26 rfl (lv_at hl 0 rfl) ?_
      refine lv_iload_n hx hb dL_law_27 rfl (lv_at hl 3 rfl) ?_
      refine zr_sld hx hb hX hbl hbA hS hL (5 * i) (by omega) (by omega) dL_law_28 ?_
      refine zr_bipush hx hb dL_law_29 (by decide) ?_
      refine lv_iand hx hb dL_law_31 ?_
      obtain ⟨j, hj, ej⟩ := pk_andE (zI (xs (5 * i)).toInt) (m := zI 31) 5 (by decide +kernel)
      rw [ej]
      have hj : j < 32 := hj
      rcases (show j = 0 ∨ j = 1 ∨ j = 2 ∨ j = 3 ∨ j = 4 ∨ j = 5 ∨ j = 6 ∨ j = 7 ∨ j = 8 ∨ j = 9 ∨ j = 10 ∨ j = 11 ∨ j = 12 ∨ j = 13 ∨ j = 14 ∨ j = 15 ∨ j = 16 ∨ j = 17 ∨ j = 18 ∨ j = 19 ∨ j = 20 ∨ j = 21 ∨ j = 22 ∨ j = 23 ∨ j = 24 ∨ j = 25 ∨ j = 26 ∨ 27 ≤ j by omega) with rfl | rfl | rfl | rfl | rfl | rfl | rfl | rfl | rfl | rfl | rfl | rfl | rfl | rfl | rfl | rfl | rfl | rfl | rfl | rfl | rfl | rfl | rfl | rfl | rfl | rfl | rfl | c2
      · refine lv_tableIn (off := 124) (tgt := 156) hx hb dL_law_32 (by decide +kernel) (by decide +kernel) (by decide +kernel) (by decide) ?_
        exact lw_k0 C0 hL hK (by omega) h5 hl fin hI hS
      · refine lv_tableIn (off := 147) (tgt := 179) hx hb dL_law_32 (by decide +kernel) (by decide +kernel) (by decide +kernel) (by decide) ?_
        exact lw_k1 C0 hL hK (by omega) h5 hl fin hI hS
      · refine lv_tableIn (off := 190) (tgt := 222) hx hb dL_law_32 (by decide +kernel) (by decide +kernel) (by decide +kernel) (by decide) ?_
        exact lw_k2 C0 hL hK (by omega) h5 hl fin hI hS
      · refine lv_tableIn (off := 223) (tgt := 255) hx hb dL_law_32 (by decide +kernel) (by decide +kernel) (by decide +kernel) (by decide) ?_
        exact lw_k3 C0 hL hK (by omega) h5 hl fin hI hS
      · refine lv_tableIn (off := 256) (tgt := 288) hx hb dL_law_32 (by decide +kernel) (by decide +kernel) (by decide +kernel) (by decide) ?_
        exact lw_k4 C0 hL hK (by omega) h5 hl fin hI hS
      · refine lv_tableIn (off := 289) (tgt := 321) hx hb dL_law_32 (by decide +kernel) (by decide +kernel) (by decide +kernel) (by decide) ?_
        exact lw_k5 C0 hL hK (by omega) h5 hl fin hI hS
      · refine lv_tableIn (off := 312) (tgt := 344) hx hb dL_law_32 (by decide +kernel) (by decide +kernel) (by decide +kernel) (by decide) ?_
        exact lw_k6 C0 hL hK (by omega) h5 hl fin hI hS
      · refine lv_tableIn (off := 365) (tgt := 397) hx hb dL_law_32 (by decide +kernel) (by decide +kernel) (by decide +kernel) (by decide) ?_
        exact lw_k7 C0 hL hK (by omega) h5 hl fin hI hS
      · refine lv_tableIn (off := 388) (tgt := 420) hx hb dL_law_32 (by decide +kernel) (by decide +kernel) (by decide +kernel) (by decide) ?_
        exact lw_k8 C0 hL hK (by omega) h5 hl fin hI hS
      · refine lv_tableIn (off := 411) (tgt := 443) hx hb dL_law_32 (by decide +kernel) (by decide +kernel) (by decide +kernel) (by decide) ?_
        exact lw_k9 C0 hL hK (by omega) h5 hl fin hI hS
      · refine lv_tableIn (off := 434) (tgt := 466) hx hb dL_law_32 (by decide +kernel) (by decide +kernel) (by decide +kernel) (by decide) ?_
        exact lw_k10 C0 hL hK (by omega) h5 hl fin hI hS
      · refine lv_tableIn (off := 457) (tgt := 489) hx hb dL_law_32 (by decide +kernel) (by decide +kernel) (by decide +kernel) (by decide) ?_
        exact lw_k11 C0 hL hK (by omega) h5 hl fin hI hS
      · refine lv_tableIn (off := 490) (tgt := 522) hx hb dL_law_32 (by decide +kernel) (by decide +kernel) (by decide +kernel) (by decide) ?_
        exact lw_k12 C0 hL hK (by omega) h5 hl fin hI hS
      · refine lv_tableIn (off := 523) (tgt := 555) hx hb dL_law_32 (by decide +kernel) (by decide +kernel) (by decide +kernel) (by decide) ?_
        exact lw_k13 C0 hL hK (by omega) h5 hl fin hI hS
      · refine lv_tableIn (off := 546) (tgt := 578) hx hb dL_law_32 (by decide +kernel) (by decide +kernel) (by decide +kernel) (by decide) ?_
        exact lw_k14 C0 hL hK (by omega) h5 hl fin hI hS
      · refine lv_tableIn (off := 559) (tgt := 591) hx hb dL_law_32 (by decide +kernel) (by decide +kernel) (by decide +kernel) (by decide) ?_
        exact lw_k15 C0 hL hK (by omega) h5 hl fin hI hS
      · refine lv_tableIn (off := 572) (tgt := 604) hx hb dL_law_32 (by decide +kernel) (by decide +kernel) (by decide +kernel) (by decide) ?_
        exact lw_k16 C0 hL hK (by omega) h5 hl fin hI hS
      · refine lv_tableIn (off := 585) (tgt := 617) hx hb dL_law_32 (by decide +kernel) (by decide +kernel) (by decide +kernel) (by decide) ?_
        exact lw_k17 C0 hL hK (by omega) h5 hl fin hI hS
      · refine lv_tableIn (off := 618) (tgt := 650) hx hb dL_law_32 (by decide +kernel) (by decide +kernel) (by decide +kernel) (by decide) ?_
        exact lw_k18 C0 hL hK (by omega) h5 hl fin hI hS
      · refine lv_tableIn (off := 651) (tgt := 683) hx hb dL_law_32 (by decide +kernel) (by decide +kernel) (by decide +kernel) (by decide) ?_
        exact lw_k19 C0 hL hK (by omega) h5 hl fin hI hS
      · refine lv_tableIn (off := 684) (tgt := 716) hx hb dL_law_32 (by decide +kernel) (by decide +kernel) (by decide +kernel) (by decide) ?_
        exact lw_k20 C0 hL hK (by omega) h5 hl fin hI hS
      · refine lv_tableIn (off := 697) (tgt := 729) hx hb dL_law_32 (by decide +kernel) (by decide +kernel) (by decide +kernel) (by decide) ?_
        exact lw_k21 C0 hL hK (by omega) h5 hl fin hI hS
      · refine lv_tableIn (off := 710) (tgt := 742) hx hb dL_law_32 (by decide +kernel) (by decide +kernel) (by decide +kernel) (by decide) ?_
        exact lw_k22 C0 hL hK (by omega) h5 hl fin hI hS
      · refine lv_tableIn (off := 723) (tgt := 755) hx hb dL_law_32 (by decide +kernel) (by decide +kernel) (by decide +kernel) (by decide) ?_
        exact lw_k23 C0 hL hK (by omega) h5 hl fin hI hS
      · refine lv_tableIn (off := 736) (tgt := 768) hx hb dL_law_32 (by decide +kernel) (by decide +kernel) (by decide +kernel) (by decide) ?_
        exact lw_k24 C0 hL hK (by omega) h5 hl fin hI hS
      · refine lv_tableIn (off := 769) (tgt := 801) hx hb dL_law_32 (by decide +kernel) (by decide +kernel) (by decide +kernel) (by decide) ?_
        exact lw_k25 C0 hL hK (by omega) h5 hl fin hI hS
      · refine lv_tableIn (off := 792) (tgt := 824) hx hb dL_law_32 (by decide +kernel) (by decide +kernel) (by decide +kernel) (by decide) ?_
        exact lw_k26 C0 hL hK (by omega) h5 hl fin hI hS
      · refine lv_tableOut (tgt := 847) hx hb dL_law_32 (Or.inr (by rw [← zI_nat, zI_toInt (by omega)]; omega)) (by decide) ?_
        obtain ⟨a, hs, q, g, w, S, V, o, sf, T0, T1, rfl, hg, s0, s1, hP, hD⟩ := hI
        exact fin _ _ _ _ (by omega) (by omega) ⟨a, hs, q, g, w, S, V, o, sf, T0, T1, rfl, gB_mono hg (by omega), slR_mono s0 (by omega), slR_mono s1 (by omega), hP, hD⟩ hS
end ZLC
