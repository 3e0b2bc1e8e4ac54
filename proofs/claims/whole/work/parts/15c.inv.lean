/-! OWN ROWS: what holds between two calls -/
theorem gB_mono {g : Nat → Nat → Int} {r r2 : Int} (h : gB g r) (hr : r ≤ r2) : gB g r2 := by
  refine ⟨?_, h.2⟩
  have := h.1
  omega
theorem sBeg_gB {g : Nat → Nat → Int} {r n : Int} (hr : 0 ≤ r) (hn : 2 ≤ n ∧ n ≤ 10) (h2 : 1 ≤ g 0 2 ∧ g 0 2 ≤ 1000) (h3 : 1 ≤ g 0 3 ∧ g 0 3 ≤ 1000) (h4 : 1 ≤ g 0 4 ∧ g 0 4 ≤ 20000) : gB (sBeg g n) r := by
  refine ⟨?_, fun k hk => ?_, fun i j hi hj => ?_⟩
  · show 2 ≤ n ∧ n ≤ 10 ∧ (0 : Int) ≤ 0 ∧ (0 : Int) ≤ r ∧ 1 ≤ g 0 2 ∧ g 0 2 ≤ 1000 ∧ 1 ≤ g 0 3 ∧ g 0 3 ≤ 1000 ∧ 1 ≤ g 0 4 ∧ g 0 4 ≤ 20000
    omega
  · have e1 : sBeg g n 1 k = 0 := if_pos hk
    have e2 : sBeg g n 2 k = 0 := if_pos hk
    have e3 : sBeg g n 3 k = 0 := if_pos hk
    have e4 : sBeg g n 4 k = 1000 := if_pos hk
    have e5 : sBeg g n 5 k = 0 := if_pos hk
    rw [e1, e2, e3, e4, e5]
    omega
  · have e1 : sBeg g n 6 (10 * i + j) = 0 := if_pos (by omega)
    have e2 : sBeg g n 6 (10 * j + i) = 0 := if_pos (by omega)
    rw [e1, e2]
    omega
theorem gNi_gB : gB gNi 0 := sBeg_gB (Int.le_refl 0) (by omega) (by decide) (by decide) (by decide)
theorem nReset_gB {g : Nat → Nat → Int} {r n : Int} (h : gB g r) : gB (nReset g n) r := by
  have h1 := h.1
  unfold nReset
  split
  · rename_i c
    exact sBeg_gB (by omega) c (by omega) (by omega) (by omega)
  · exact h
theorem nSetRtt_gB {g : Nat → Nat → Int} {r u v z : Int} (h : gB g r) : gB (nSetRtt g u v z) r := by
  unfold nSetRtt
  split
  · rename_i c
    obtain ⟨A, B, rfl, rfl, -, -, hA, hB, -, eA, eB⟩ := z_nodes h c.1
    rw [eA, eB]
    refine ⟨h.1, h.2.1, fun i j hi hj => ?_⟩
    have h1 := h.2.2 i j hi hj
    show 0 ≤ zset (zset (g 6) (10 * A + B) z) (10 * B + A) z (10 * i + j) ∧ zset (zset (g 6) (10 * A + B) z) (10 * B + A) z (10 * i + j) ≤ 20000 ∧ zset (zset (g 6) (10 * A + B) z) (10 * B + A) z (10 * i + j) = zset (zset (g 6) (10 * A + B) z) (10 * B + A) z (10 * j + i)
    unfold zset
    omega
  · exact h
theorem nSetLie_gB {g : Nat → Nat → Int} {r u z : Int} (h : gB g r) : gB (nSetLie g u z) r := by
  unfold nSetLie
  split
  · rename_i c
    refine ⟨h.1, fun k hk => ?_, h.2.2⟩
    have h1 := h.2.1 k hk
    have z5 : 0 ≤ zset (g 5) u.toNat z k ∧ zset (g 5) u.toNat z k ≤ 20000 := zset_all (P := fun x => 0 ≤ x ∧ x ≤ 20000) c.2 ⟨h1.2.2.2.2.2.2.2.2.1, h1.2.2.2.2.2.2.2.2.2⟩
    exact ⟨h1.1, h1.2.1, h1.2.2.1, h1.2.2.2.1, h1.2.2.2.2.1, h1.2.2.2.2.2.1, h1.2.2.2.2.2.2.1, h1.2.2.2.2.2.2.2.1, z5.1, z5.2⟩
  · exact h
theorem nSetGains_gB {g : Nat → Nat → Int} {r u v : Int} (h : gB g r) : gB (nSetGains g u v) r := by
  have h1 := h.1
  unfold nSetGains
  split
  · rename_i c
    refine ⟨?_, h.2⟩
    show 2 ≤ g 0 0 ∧ g 0 0 ≤ 10 ∧ 0 ≤ g 0 1 ∧ g 0 1 ≤ r ∧ 1 ≤ u ∧ u ≤ 1000 ∧ 1 ≤ v ∧ v ≤ 1000 ∧ 1 ≤ g 0 4 ∧ g 0 4 ≤ 20000
    omega
  · exact h
theorem nSetMaxStep_gB {g : Nat → Nat → Int} {r u : Int} (h : gB g r) : gB (nSetMaxStep g u) r := by
  have h1 := h.1
  unfold nSetMaxStep
  split
  · rename_i c
    refine ⟨?_, h.2⟩
    show 2 ≤ g 0 0 ∧ g 0 0 ≤ 10 ∧ 0 ≤ g 0 1 ∧ g 0 1 ≤ r ∧ 1 ≤ g 0 2 ∧ g 0 2 ≤ 1000 ∧ 1 ≤ g 0 3 ∧ g 0 3 ≤ 1000 ∧ 1 ≤ u ∧ u ≤ 20000
    omega
  · exact h
theorem nPlace_gB {g : Nat → Nat → Int} {r u x y z : Int} (h : gB g r) : gB (nPlace g u x y z) r := by
  unfold nPlace
  split
  · rename_i c
    exact sSet_gB h c.2.1 c.2.2.1 c.2.2.2 (by omega)
  · exact h
theorem nMeasure_gB {g : Nat → Nat → Int} {r u v : Int} (h : gB g r) : gB (nMeasure g u v) r := by
  unfold nMeasure
  split
  · rename_i c
    obtain ⟨c1, c2⟩ := sKf_0 c
    obtain ⟨A, B, rfl, rfl, -, -, hA, hB, -, eA, eB⟩ := z_nodes h c1
    rw [eA, eB] at *
    exact sUpd_gB h hA hB c2
  · exact h
theorem nRun_gB {g : Nat → Nat → Int} {r u : Int} (h : gB g r) : gB (nRun g u) (r + 100) := by
  unfold nRun
  split
  · exact gB_mono (sRun_inv h u.toNat) (by omega)
  · exact gB_mono h (by omega)
theorem sCpy_gB {g g2 : Nat → Nat → Int} {r : Int} (h : gB g2 r) : gB (sCpy g g2) r := by
  refine ⟨?_, fun k hk => ?_, fun i j hi hj => ?_⟩
  · have e : ∀ k, k < 5 → sCpy g g2 0 k = g2 0 k := fun k hk => if_pos hk
    rw [e 0 (by decide), e 1 (by decide), e 2 (by decide), e 3 (by decide), e 4 (by decide)]
    exact h.1
  · have e1 : sCpy g g2 1 k = g2 1 k := if_pos hk
    have e2 : sCpy g g2 2 k = g2 2 k := if_pos hk
    have e3 : sCpy g g2 3 k = g2 3 k := if_pos hk
    have e4 : sCpy g g2 4 k = g2 4 k := if_pos hk
    have e5 : sCpy g g2 5 k = g2 5 k := if_pos hk
    rw [e1, e2, e3, e4, e5]
    exact h.2.1 k hk
  · have e1 : sCpy g g2 6 (10 * i + j) = g2 6 (10 * i + j) := if_pos (by omega)
    have e2 : sCpy g g2 6 (10 * j + i) = g2 6 (10 * j + i) := if_pos (by omega)
    rw [e1, e2]
    exact h.2.2 i j hi hj
/-- the row of numbers that a restore makes is that of the copied state -/
theorem rsf_cpy {S : Nat → Int} {g g2 : Nat → Nat → Int} {k : Nat} (h : ∀ j, j < 155 → S (155 * k + j) = flat g2 j) : rsf S (flat g) k 155 = flat (sCpy g g2) := by
  have e : ∀ j, rsf S (flat g) k 155 j = if j < 155 then flat g2 j else flat g j := fun j => by
    unfold rsf
    split
    · rename_i c; exact h j c
    · rfl
  refine flat_ext (fun j hj => ?_) (fun j hj => ?_) (fun j hj => ?_) (fun j hj => ?_) (fun j hj => ?_) (fun j hj => ?_) (fun j => ?_)
  · rw [e, if_pos (by omega), flat_0 hj]; exact (if_pos hj).symm
  · rw [e, if_pos (by omega), flat_1 hj]; exact (if_pos hj).symm
  · rw [e, if_pos (by omega), flat_2 hj]; exact (if_pos hj).symm
  · rw [e, if_pos (by omega), flat_3 hj]; exact (if_pos hj).symm
  · rw [e, if_pos (by omega), flat_4 hj]; exact (if_pos hj).symm
  · rw [e, if_pos (by omega), flat_5 hj]; exact (if_pos hj).symm
  · rw [e]
    show _ = zcpy (g2 6) (g 6) 100 j
    unfold zcpy
    by_cases c : j < 100
    · rw [if_pos (by omega), if_pos c, flat_6]
    · rw [if_neg (by omega), if_neg c, flat_6]
theorem flat_cpy {g g2 : Nat → Nat → Int} {j : Nat} (hj : j < 155) : flat (sCpy g g2) j = flat g2 j := by
  have h := congrFun (rsf_cpy (S := fun q => flat g2 (q - 155 * 0)) (g := g) (g2 := g2) (k := 0) (fun j _ => by rw [show 155 * 0 + j - 155 * 0 = j by omega])) j
  rw [← h]
  unfold rsf
  rw [if_pos hj]
  show flat g2 (155 * 0 + j - 155 * 0) = flat g2 j
  rw [show 155 * 0 + j - 155 * 0 = j by omega]
/-- a slot: nothing saved, or a state whose numbers the reference's slot holds -/
def slR (cI : ClassId) (r : Int) (sf : Nat → Option Nat) (S V : Nat → Int) (k : Nat) (T : va_W) : Prop := (sf k = none ∧ T = [] ∧ V k = 0) ∨ ∃ (b : Nat → Nat) (g2 : Nat → Nat → Int), sf k = some (b 0) ∧ T = stw cI b g2 ∧ V k = 1 ∧ gB g2 r ∧ ∀ j, j < 155 → S (155 * k + j) = flat g2 j
theorem slR_mono {cI : ClassId} {r r2 : Int} {sf : Nat → Option Nat} {S V : Nat → Int} {k : Nat} {T : va_W} (h : slR cI r sf S V k T) (hr : r ≤ r2) : slR cI r2 sf S V k T := by
  rcases h with h | ⟨b, g2, h1, h2, h3, h4, h5⟩
  · exact Or.inl h
  · exact Or.inr ⟨b, g2, h1, h2, h3, gB_mono h4 hr, h5⟩
theorem slR_V {cI : ClassId} {r : Int} {sf : Nat → Option Nat} {S V : Nat → Int} {k : Nat} {T : va_W} (h : slR cI r sf S V k T) : 0 ≤ V k ∧ V k ≤ 1 := by
  rcases h with ⟨-, -, h⟩ | ⟨b, g2, -, -, h, -⟩ <;> omega
theorem sSv_in {S f : Nat → Int} {A j : Nat} (hj : j < 155) : sSv S f A 155 (155 * A + j) = f j := by
  unfold sSv
  rw [if_pos (by omega), show 155 * A + j - 155 * A = j by omega]
theorem sSv_out {S f : Nat → Int} {A B j : Nat} (h : A ≠ B) (hj : j < 155) : sSv S f A 155 (155 * B + j) = S (155 * B + j) := by
  unfold sSv
  rw [if_neg (by omega)]
/-- the other slot is left alone by a save -/
theorem slR_other {cI : ClassId} {r : Int} {sf : Nat → Option Nat} {S V f : Nat → Int} {A B : Nat} {T : va_W} {x : Option Nat} (hAB : A ≠ B) (h : slR cI r sf S V B T) : slR cI r (va_up sf A x) (sSv S f A 155) (zset V A 1) B T ∧ slR cI r sf (sSv S f A 155) (zset V A 1) B T := by
  have e1 : va_up sf A x B = sf B := if_neg (Ne.symm hAB)
  have e2 : zset V A 1 B = V B := zset_ne (Ne.symm hAB)
  rcases h with ⟨h1, h2, h3⟩ | ⟨b, g2, h1, h2, h3, h4, h5⟩
  · exact ⟨Or.inl ⟨e1.trans h1, h2, e2.trans h3⟩, Or.inl ⟨h1, h2, e2.trans h3⟩⟩
  · exact ⟨Or.inr ⟨b, g2, e1.trans h1, h2, e2.trans h3, h4, fun j hj => (sSv_out hAB hj).trans (h5 j hj)⟩, Or.inr ⟨b, g2, h1, h2, e2.trans h3, h4, fun j hj => (sSv_out hAB hj).trans (h5 j hj)⟩⟩
theorem slR_new {cI : ClassId} {r : Int} {sf : Nat → Option Nat} {S V : Nat → Int} {A : Nat} {b : Nat → Nat} {g g2 : Nat → Nat → Int} (hg : gB g r) (hs : sf A = some (b 0)) : slR cI r sf (sSv S (flat g) A 155) (zset V A 1) A (stw cI b (sCpy g2 g)) :=
  Or.inr ⟨b, sCpy g2 g, hs, rfl, zset_at _ _ _, sCpy_gB hg, fun j hj => (sSv_in hj).trans (flat_cpy hj).symm⟩
/-! the whole world: the class's cells, a slot's, the other slot's, the reference's -/
section ZN
variable {A : Nat → Prop} {D : va_G} {cl : List vw_C} {H H1 : Heap} {c c2 x t r u m m2 w w2 d : va_W}
theorem n_asc : ((c ++ x) ++ t) ++ r = c ++ (x ++ (t ++ r)) := by simp only [List.append_assoc]
theorem n_P1 (h : va_P D cl (((c ++ x) ++ t) ++ r) H) : va_P D cl c H := by
  rw [n_asc] at h
  exact va_P_left h
theorem n_D1 (h : va_D A (((c ++ x) ++ t) ++ r)) : va_D A c := by
  rw [n_asc] at h
  exact va_D_left h
theorem n_P1w (hP : va_P D cl (((c ++ x) ++ t) ++ r) H) (hD : va_D A (((c ++ x) ++ t) ++ r)) (hP1 : va_P D cl c2 H1) (hk : ∀ q : Nat, q < H.size → ¬ wr_ad c q → H1[q]? = H[q]?) : va_P D cl (((c2 ++ x) ++ t) ++ r) H1 := by
  rw [n_asc] at hP hD ⊢
  exact wr_tail hP hD hP1 hk
theorem n_D1w (hD : va_D A (((c ++ x) ++ t) ++ r)) (he : c2.map Prod.fst = c.map Prod.fst) : va_D A (((c2 ++ x) ++ t) ++ r) :=
  va_D_adr hD (by simp only [List.map_append, he])
theorem n_P2 (h : va_P D cl (u ++ (t ++ m)) H) : va_P D cl m H := va_P_right (va_P_right h)
theorem n_D2 (h : va_D A (u ++ (t ++ m))) : va_D A m := va_D_right (va_D_right h)
theorem va_D_cross2 (h : va_D A (w ++ x)) {k : Nat} {q : Nat × va_E} (hk : w[k]? = some q) : ¬ wr_ad x q.1 := by
  rintro ⟨j, e, hj⟩
  have h2 : (w ++ x)[w.length + j]? = some (q.1, e) := by
    rw [List.getElem?_append_right (by omega), show w.length + j - w.length = j by omega]
    exact hj
  have h1 : (w ++ x)[k]? = some q := by
    rw [List.getElem?_append_left (List.getElem?_eq_some_iff.mp hk).1]
    exact hk
  have := h.1 _ _ _ _ h1 h2 rfl
  have := (List.getElem?_eq_some_iff.mp hk).1
  omega
theorem wr_head (hP : va_P D cl (x ++ w) H) (hD : va_D A (x ++ w)) (hP1 : va_P D cl w2 H1) (hk : ∀ q : Nat, q < H.size → ¬ wr_ad w q → H1[q]? = H[q]?) : va_P D cl (x ++ w2) H1 := by
  refine va_P.app (fun k q hq => ?_) hP1
  exact (va_P_left hP k q hq).kept (hk q.1 ((va_P_left hP k q hq).lt) (va_D_cross2 hD hq))
theorem n_P2w (hP : va_P D cl (u ++ (t ++ m)) H) (hD : va_D A (u ++ (t ++ m))) (hP1 : va_P D cl m2 H1) (hk : ∀ q : Nat, q < H.size → ¬ wr_ad m q → H1[q]? = H[q]?) : va_P D cl (u ++ (t ++ m2)) H1 := by
  rw [← List.append_assoc] at hP hD ⊢
  exact wr_head hP hD hP1 hk
theorem n_D2w (hD : va_D A (u ++ (t ++ m))) (he : m2.map Prod.fst = m.map Prod.fst) : va_D A (u ++ (t ++ m2)) :=
  va_D_adr hD (by simp only [List.map_append, he])
/-- the slots change places -/
theorem n_sw {x1 x2 x3 x4 : va_W} : ((x1 ++ x2) ++ (x3 ++ x4)) = ((x1 ++ x2) ++ x3) ++ x4 := by simp only [List.append_assoc]
theorem n_swP {x1 x2 x3 x4 : va_W} (h : va_P D cl ((x1 ++ x2) ++ (x3 ++ x4)) H) : va_P D cl ((x1 ++ x3) ++ (x2 ++ x4)) H := by
  have h1 := va_P_left (va_P_left h)
  have h2 := va_P_right (va_P_left h)
  have h3 := va_P_left (va_P_right h)
  have h4 := va_P_right (va_P_right h)
  exact (h1.app h3).app (h2.app h4)
theorem n_swD {x1 x2 x3 x4 : va_W} (h : va_D A ((x1 ++ x2) ++ (x3 ++ x4))) : va_D A ((x1 ++ x3) ++ (x2 ++ x4)) := by
  have h1 := va_D.swap h
  rw [show (x1 ++ (x3 ++ x4)) ++ x2 = ((x1 ++ x3) ++ x4) ++ x2 by simp only [List.append_assoc]] at h1
  have h2 := va_D.swap h1
  rw [show ((x1 ++ x3) ++ x2) ++ x4 = (x1 ++ x3) ++ (x2 ++ x4) by simp only [List.append_assoc]] at h2
  exact h2
/-- behind a call that made cells -/
theorem al_tail {A0 : Nat → Prop} (hP : va_P D cl (w ++ x) H) (hD : va_D A0 (w ++ x)) (hk : ∀ q : Nat, q < H.size → ¬ va_A w H.size q → H1[q]? = H[q]?) (hF : ∀ q, va_A w H.size q → A0 q) (hP1 : va_P D cl w2 H1) (hD1 : va_D (va_A w H.size) w2) : va_P D cl (w2 ++ x) H1 ∧ va_D A0 (w2 ++ x) := by
  have apart : ∀ (k : Nat) (q : Nat × va_E), x[k]? = some q → ¬ va_A w H.size q.1 := by
    intro k q hq h
    rcases h with ⟨k2, e, h⟩ | h
    · exact va_D_cross hD hq ⟨k2, e, h⟩
    · have := (va_P_right hP k q hq).lt
      omega
  refine ⟨va_P.app hP1 (fun k q hq => (va_P_right hP k q hq).kept (hk q.1 ((va_P_right hP k q hq).lt) (apart k q hq))), va_D.app (hD1.weaken (fun k q _ h => hF q.1 h)) (va_D_right hD) (fun i j p q hp hq hpq => ?_)⟩
  exact apart j q hq (by rw [← hpq]; exact hD1.2 i p hp)
theorem n_F {A0 : Nat → Prop} {H0 : Heap} {locs : List Loc} (hD : va_D A0 (w ++ x)) (hS : va_S A0 H0 H locs) (hA : ∀ q, H0.size ≤ q → A0 q) : ∀ q, va_A w H.size q → A0 q := by
  intro q h
  rcases h with ⟨k, e, h⟩ | h
  · exact (va_D_left hD).2 k (q, e) h
  · exact hA q (Nat.le_trans hS.1 h)
end ZN
