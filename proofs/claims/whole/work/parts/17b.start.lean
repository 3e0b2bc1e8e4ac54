/-! OWN ROWS: the start of the law -/
theorem va_D_comm {A : Nat → Prop} {w x : va_W} (h : va_D A (w ++ x)) : va_D A (x ++ w) := va_D.swap (a := []) h
theorem va_ArrOf {s : State} {cA comp : ClassId} {kA : Class} {ty : FieldType} (h2 : s.vm.classes[cA]? = some kA) (h3 : kA.kind = .array comp ty) : ArrOfT s cA ty := fun n z => ⟨fun k h => (by cases h), kA, h2, comp, h3⟩
set_option maxHeartbeats 4000000 in
set_option maxRecDepth 100000 in
/-- what the tables say of the program's classes and arrays -/
theorem law_kK {p : Program} {s : State} {m : MethodId} {meth : Method} {c : Code} {b L : Nat} {xs : Nat → Int32} (C0 : lw_At p s m meth c b L xs) : ∃ (dC : Nat → ClassId) (dI : Nat → Nat → Nat) (cI cZ cS : ClassId), kK dC dI cI cZ cS s := by
  obtain ⟨hx, hb, hr, hml, hown, hts, hX, hbl, hlocks, hgv⟩ := id C0
  obtain ⟨c0, iS0, hKn0⟩ := u_known (C := RX0) (T := TX0) (N := 11) (n := 11) hts inX0 (hts (.instantiable RX0 11) (by decide +kernel))
  obtain ⟨c1, iS1, hKn1⟩ := u_known (C := RX1) (T := TX1) (N := 2) (n := 2) hts inX1 (hts (.instantiable RX1 2) (by decide +kernel))
  obtain ⟨c2, iS2, hKn2⟩ := u_known (C := RX2) (T := TX2) (N := 11) (n := 11) hts inX2 (hts (.instantiable RX2 11) (by decide +kernel))
  obtain ⟨dC, dI, hKc⟩ : ∃ (dC : Nat → ClassId) (dI : Nat → Nat → Nat), ∀ (k : Nat) (q : vw_C), vwCl[k]? = some q → u_Kn s q.1 q.2.1 q.2.2 (dC k) (dI k) := by
    refine ⟨fun k => if k = 0 then c0 else if k = 1 then c1 else c2, fun k => if k = 0 then iS0 else if k = 1 then iS1 else iS2, ?_⟩
    intro k q hq
    match k, hq with
    | 0, hq => cases hq; exact hKn0
    | 1, hq => cases hq; exact hKn1
    | 2, hq => cases hq; exact hKn2
    | k + 3, hq => simp [vwCl] at hq
  obtain ⟨cI, kI, pI, i1, i2, i3⟩ := Cond.arrayClass_spec (hts (.arrayClass .int) (by decide +kernel))
  obtain ⟨cZ, kZ, pZ, z1, z2, z3⟩ := Cond.arrayClass_spec (hts (.arrayClass .boolean) (by decide +kernel))
  obtain ⟨pS, cS, kS, s1, s2, s3, s4, s5⟩ := Cond.arrayOver_spec (hts (.arrayOver (.object RX0)) (by decide +kernel))
  refine ⟨dC, dI, cI, cZ, cS, ⟨hKc, fun k q hq => ?_⟩, nw_all (P := fun w => va_Nw w s) ?_ ?_ ?_ ?_ ?_ ?_ ?_ ?_ ?_ ?_ ?_ ?_ ?_ ?_, va_AO.of (hts (.arrayOver (.object RX0)) (by decide +kernel))⟩
  · match k, hq with
    | 0, hq => cases hq; exact ⟨va_ArrOf i2 i3, i1⟩
    | 1, hq => cases hq; exact ⟨va_ArrOf z2 z3, z1⟩
    | 2, hq => cases hq; exact ⟨va_ArrOf s3 s4, kS, pS, s3, s4, s1, s5⟩
    | k + 3, hq => simp [zT] at hq
  · exact va_Nw.of rfl (hts (.fieldLinkNest RX1 25 RX0 "nodes" "I" RX1) (by decide +kernel))
  · exact va_Nw.of rfl (hts (.fieldLinkNest RX1 97 RX0 "round" "I" RX1) (by decide +kernel))
  · exact va_Nw.of rfl (hts (.fieldLinkNest RX1 56 RX0 "errorGain" "I" RX1) (by decide +kernel))
  · exact va_Nw.of rfl (hts (.fieldLinkNest RX1 59 RX0 "moveGain" "I" RX1) (by decide +kernel))
  · exact va_Nw.of rfl (hts (.fieldLinkNest RX1 62 RX0 "maxStep" "I" RX1) (by decide +kernel))
  · exact va_Nw.of rfl (hts (.fieldLinkNest RX1 74 RX0 "xs" "[I" RX1) (by decide +kernel))
  · exact va_Nw.of rfl (hts (.fieldLinkNest RX1 77 RX0 "ys" "[I" RX1) (by decide +kernel))
  · exact va_Nw.of rfl (hts (.fieldLinkNest RX1 80 RX0 "heights" "[I" RX1) (by decide +kernel))
  · exact va_Nw.of rfl (hts (.fieldLinkNest RX1 67 RX0 "errors" "[I" RX1) (by decide +kernel))
  · exact va_Nw.of rfl (hts (.fieldLinkNest RX1 52 RX0 "lies" "[I" RX1) (by decide +kernel))
  · exact va_Nw.of rfl (hts (.methodLinkNest RX0 64 yX1_planarDistance RX1) (by decide +kernel))
  · exact va_Nw.of rfl (hts (.methodLinkNest RX0 103 yX1_quotient RX1) (by decide +kernel))
  · exact va_Nw.of rfl (hts (.methodLinkNest RX0 124 yX1_limited RX1) (by decide +kernel))
  · exact va_Nw.of rfl (hts (.methodLinkNest RX0 128 yX1_share RX1) (by decide +kernel))
set_option maxHeartbeats 4000000 in
set_option maxRecDepth 100000 in
/-- THE LAW, from its entry -/
theorem whole_start {p : Program} {e : Env} {s : State} {m : MethodId} {below : List Frame} {meth : Method} {c : Code} (l : Launch) (hflags : l.flags = flags0) {b L : Nat} {xs : Nat → Int32} (hL : L ≤ 2560) (C0 : lw_At p s m meth c b L xs) : W p l e room_1 s m #[Value.ref b] below meth c s.heap [] 0 0 (lw_Z below #[Value.ref b] s) (entryFrame m ([Value.ref b] : List Value).toArray 4) := by
  obtain ⟨dC, dI, cI, cZ, cS, hK⟩ := law_kK C0
  obtain ⟨hx, hb, hr, hml, hown, hts, hX, hbl, hlocks, hgv⟩ := id C0
  have hown2 : s.vm.findClass RL = some m.cls := hown
  have hts2 : ∀ w ∈ wsL_law, w.before #[Value.ref b] s = true := fun w hw => hts w (wsL_law_in w hw)
  have hA : ∀ q : Nat, s.heap.size ≤ q → (fun q : Nat => s.heap.size ≤ q) q := fun _ h => h
  have hS : va_S (fun q : Nat => s.heap.size ≤ q) s.heap s.heap [] := va_S.rf
  have hl := lv_entry ([.ref b]) (n := 4) (Nat.le_of_ble_eq_true rfl)
  rw [lg_entry_eq]
  generalize (lg_sl ([.ref b]) ++ List.replicate (4 - (lg_sl ([.ref b])).length) Slot.unset).toArray = ls at hl ⊢
  have hl : lv_has ls 4 [(0, .ref b)] := hl
  refine va_new (ci := 1) (fs := [.null, .null]) (C := RX1) (T := TX1) (N := 2) hx hb hts inX1 tyX1 tyX1_ok hown2 (hts (.classLink RL 7 RX1) (by decide +kernel)) (hts (.instantiable RX1 2) (by decide +kernel)) (hts (.initialized RX1) (by decide +kernel)) hK.1 va_P_nil va_D_nil hS hA rfl (fun j hj => by rcases (show j = 0 ∨ j = 1 by omega) with rfl | rfl <;> rfl) (Nat.le_of_ble_eq_true rfl) (Nat.le_of_ble_eq_true rfl) dL_law_0 (fun h H hP hD hS => ?_)
  have hP : va_P (dC, dI) vwCl (fr1 h) H := hP
  have hD : va_D (fun q : Nat => s.heap.size ≤ q) (fr1 h) := hD
  refine lv_dup hx hb dL_law_3 rfl ?_
  refine al_callI (As := []) (rest := [.ref h]) ⟨hx, hb, hml, hown2, hts2⟩ (c_X1_init l dC dI cI cZ cS H.size h) (cwI 0 hts2 gL_law_X1_init rfl rfl rfl (hts (.initialized RX1) (by decide +kernel)) (hts (.methodLink RL 9 yX1_init) (by decide +kernel)) (hts (.instanceMethod yX1_init) (by decide +kernel)) rfl (by decide +kernel) ⟨Nat.le_of_ble_eq_true rfl, Nat.le_of_ble_eq_true rfl⟩) hP hD (n_F (x := []) (by rw [List.append_nil]; exact hD) hS hA) hS hK rfl hl.1 rfl (Nat.le_of_ble_eq_true rfl) dL_law_4 ⟨Nat.le_of_ble_eq_true rfl, Nat.le_of_ble_eq_true rfl⟩ (fun w2 H1 locs1 hB hP1 hD1 hk1 hS1 => ?_)
  obtain ⟨a, hs, rfl⟩ := hB
  have hD1 := hD1.weaken (fun k q _ h9 => n_F (x := []) (by rw [List.append_nil]; exact hD) hS hA q.1 h9)
  refine lv_astore_n (lv' := [(1, .ref h), (0, .ref b)]) hx hb dL_law_7 rfl hl (by decide) rfl (fun ls hl => ?_)
  refine va_new (ci := 2) (fs := [.null, .null, .null, .int (zI 0), .int (zI 0), .int (zI 0), .int (zI 0), .int (zI 0), .int (zI 0), .int (zI 0), .null]) (C := RX2) (T := TX2) (N := 11) hx hb hts inX2 tyX2 tyX2_ok hown2 (hts (.classLink RL 10 RX2) (by decide +kernel)) (hts (.instantiable RX2 11) (by decide +kernel)) (hts (.initialized RX2) (by decide +kernel)) hK.1 hP1 hD1 hS1 hA rfl (fun j hj => by rcases (show j = 0 ∨ j = 1 ∨ j = 2 ∨ j = 3 ∨ j = 4 ∨ j = 5 ∨ j = 6 ∨ j = 7 ∨ j = 8 ∨ j = 9 ∨ j = 10 by omega) with rfl | rfl | rfl | rfl | rfl | rfl | rfl | rfl | rfl | rfl | rfl <;> rfl) (Nat.le_of_ble_eq_true rfl) (Nat.le_of_ble_eq_true rfl) dL_law_8 (fun q0 H2 hP hD hS => ?_)
  refine lv_dup hx hb dL_law_11 rfl ?_
  have hPq : va_P (dC, dI) vwCl (fr2 q0 ++ (stw cI a gNi ++ mnw a h hs ++ slw cS hs (fun _ => none))) H2 := (va_P_right hP).app (va_P_left hP)
  have hDq : va_D (fun q : Nat => s.heap.size ≤ q) (fr2 q0 ++ (stw cI a gNi ++ mnw a h hs ++ slw cS hs (fun _ => none))) := va_D_comm hD
  refine al_callI (As := []) (rest := [.ref q0]) ⟨hx, hb, hml, hown2, hts2⟩ (c_X2_init l dC dI cI cZ cS H2.size q0) (cwI 0 hts2 gL_law_X2_init rfl rfl rfl (hts (.initialized RX2) (by decide +kernel)) (hts (.methodLink RL 12 yX2_init) (by decide +kernel)) (hts (.instanceMethod yX2_init) (by decide +kernel)) rfl (by decide +kernel) ⟨Nat.le_of_ble_eq_true rfl, Nat.le_of_ble_eq_true rfl⟩) (va_P_left hPq) (va_D_left hDq) (n_F hDq hS hA) hS hK rfl hl.1 rfl (Nat.le_of_ble_eq_true rfl) dL_law_12 ⟨Nat.le_of_ble_eq_true rfl, Nat.le_of_ble_eq_true rfl⟩ (fun w2 H3 locs3 hB hP3 hD3 hk3 hS3 => ?_)
  obtain ⟨q, rfl, hq0⟩ := hB
  obtain ⟨hP, hD⟩ := al_tail hPq hDq hk3 (n_F hDq hS hA) hP3 hD3
  have hP : va_P (dC, dI) vwCl (stw cI a gNi ++ mnw a h hs ++ slw cS hs (fun _ => none) ++ [] ++ ([] ++ mdw cI cZ q gNi (fun _ => 0) (fun _ => 0) (fun _ => 0) (fun _ => 0))) H3 := (va_P_right hP).app (va_P_left hP)
  have hD : va_D (fun q : Nat => s.heap.size ≤ q) (stw cI a gNi ++ mnw a h hs ++ slw cS hs (fun _ => none) ++ [] ++ ([] ++ mdw cI cZ q gNi (fun _ => 0) (fun _ => 0) (fun _ => 0) (fun _ => 0))) := va_D_comm hD
  refine lv_astore_n (lv' := [(2, .ref q0), (1, .ref h), (0, .ref b)]) hx hb dL_law_15 rfl hl (by decide) rfl (fun ls hl => ?_)
  refine zr_iconst hx hb dL_law_16 ?_
  refine lv_istore_n (lv' := [(3, .int (zI 0)), (2, .ref q0), (1, .ref h), (0, .ref b)]) hx hb dL_law_17 rfl hl (by decide) rfl (fun ls hl => ?_)
  refine W.widen (k := 100 + 20 * 0) (n := 2000 + 400 * 0) (Nat.le_of_ble_eq_true rfl) (Nat.le_of_ble_eq_true rfl) ?_
  exact law_loop C0 hL hK 513 0 rfl (Nat.zero_le _) H3 locs3 ⟨a, hs, q, gNi, (fun _ => 0), (fun _ => 0), (fun _ => 0), (fun _ => 0), (fun _ => none), [], [], hq0, gNi_gB, Or.inl ⟨rfl, rfl, rfl⟩, Or.inl ⟨rfl, rfl, rfl⟩, hP, hD⟩ hS3 ls (lv_sub hl [3, 2, 1, 0] rfl)
