/-! OWN ROWS: the reference's one row of numbers; what the calls answer -/
abbrev mdf (cI cZ : ClassId) (b : Nat → Nat) (f : Nat → Int) (w : Nat → Int) (S B o : Nat → Int) : va_W := [(b 0, .inr (2, [.ref (b 1), .ref (b 2), .ref (b 3), .int (zI (w 0)), .int (zI (w 1)), .int (zI (w 2)), .int (zI (w 3)), .int (zI (w 4)), .int (zI (w 5)), .int (zI (w 6)), .ref (b 4)])), (b 1, .inl (cI, 155, .inl (fun k => zI (f k)))), (b 2, .inl (cI, 310, .inl (fun k => zI (S k)))), (b 3, .inl (cZ, 2, .inl (fun k => zI (B k)))), (b 4, .inl (cI, 10, .inl (fun k => zI (o k))))]
theorem flat_0 {g : Nat → Nat → Int} {k : Nat} (h : k < 5) : flat g k = g 0 k := by unfold flat; rw [if_pos h]
theorem flat_1 {g : Nat → Nat → Int} {k : Nat} (h : k < 10) : flat g (5 + k) = g 1 k := by
  unfold flat; rw [if_neg (by omega), if_pos (by omega), show 5 + k - 5 = k by omega]
theorem flat_2 {g : Nat → Nat → Int} {k : Nat} (h : k < 10) : flat g (15 + k) = g 2 k := by
  unfold flat; rw [if_neg (by omega), if_neg (by omega), if_pos (by omega), show 15 + k - 15 = k by omega]
theorem flat_3 {g : Nat → Nat → Int} {k : Nat} (h : k < 10) : flat g (25 + k) = g 3 k := by
  unfold flat; rw [if_neg (by omega), if_neg (by omega), if_neg (by omega), if_pos (by omega), show 25 + k - 25 = k by omega]
theorem flat_4 {g : Nat → Nat → Int} {k : Nat} (h : k < 10) : flat g (35 + k) = g 4 k := by
  unfold flat; rw [if_neg (by omega), if_neg (by omega), if_neg (by omega), if_neg (by omega), if_pos (by omega), show 35 + k - 35 = k by omega]
theorem flat_5 {g : Nat → Nat → Int} {k : Nat} (h : k < 10) : flat g (45 + k) = g 5 k := by
  unfold flat; rw [if_neg (by omega), if_neg (by omega), if_neg (by omega), if_neg (by omega), if_neg (by omega), if_pos (by omega), show 45 + k - 45 = k by omega]
theorem flat_6 {g : Nat → Nat → Int} {k : Nat} : flat g (55 + k) = g 6 k := by
  unfold flat; rw [if_neg (by omega), if_neg (by omega), if_neg (by omega), if_neg (by omega), if_neg (by omega), if_neg (by omega), show 55 + k - 55 = k by omega]
/-- two rows of numbers that agree at every place of every part -/
theorem flat_ext {f1 : Nat → Int} {g : Nat → Nat → Int} (h0 : ∀ k, k < 5 → f1 k = g 0 k) (h1 : ∀ k, k < 10 → f1 (5 + k) = g 1 k) (h2 : ∀ k, k < 10 → f1 (15 + k) = g 2 k) (h3 : ∀ k, k < 10 → f1 (25 + k) = g 3 k) (h4 : ∀ k, k < 10 → f1 (35 + k) = g 4 k) (h5 : ∀ k, k < 10 → f1 (45 + k) = g 5 k) (h6 : ∀ k, f1 (55 + k) = g 6 k) : f1 = flat g := by
  funext k
  rcases Nat.lt_or_ge k 5 with q | q
  · rw [flat_0 q]; exact h0 k q
  rcases Nat.lt_or_ge k 15 with q1 | q1
  · obtain ⟨j, rfl⟩ : ∃ j, k = 5 + j := ⟨k - 5, by omega⟩
    rw [flat_1 (by omega)]; exact h1 j (by omega)
  rcases Nat.lt_or_ge k 25 with q2 | q2
  · obtain ⟨j, rfl⟩ : ∃ j, k = 15 + j := ⟨k - 15, by omega⟩
    rw [flat_2 (by omega)]; exact h2 j (by omega)
  rcases Nat.lt_or_ge k 35 with q3 | q3
  · obtain ⟨j, rfl⟩ : ∃ j, k = 25 + j := ⟨k - 25, by omega⟩
    rw [flat_3 (by omega)]; exact h3 j (by omega)
  rcases Nat.lt_or_ge k 45 with q4 | q4
  · obtain ⟨j, rfl⟩ : ∃ j, k = 35 + j := ⟨k - 35, by omega⟩
    rw [flat_4 (by omega)]; exact h4 j (by omega)
  rcases Nat.lt_or_ge k 55 with q5 | q5
  · obtain ⟨j, rfl⟩ : ∃ j, k = 45 + j := ⟨k - 45, by omega⟩
    rw [flat_5 (by omega)]; exact h5 j (by omega)
  · obtain ⟨j, rfl⟩ : ∃ j, k = 55 + j := ⟨k - 55, by omega⟩
    rw [flat_6]; exact h6 j
theorem zset_sh (f f1 : Nat → Int) (c A k : Nat) (z : Int) (h : f (c + k) = f1 k) : zset f (c + A) z (c + k) = zset f1 A z k := by
  unfold zset
  by_cases q : k = A
  · rw [if_pos (by omega), if_pos q]
  · rw [if_neg (by omega), if_neg q, h]
theorem flat_s0 {g : Nat → Nat → Int} {A : Nat} {z : Int} (h : A < 5) : zset (flat g) A z = flat (gset g 0 A z) :=
  flat_ext (fun k hk => by show zset (flat g) A z k = zset (g 0) A z k; unfold zset; rw [flat_0 hk]) (fun k hk => by rw [zset_ne (by omega)]; exact flat_1 hk) (fun k hk => by rw [zset_ne (by omega)]; exact flat_2 hk) (fun k hk => by rw [zset_ne (by omega)]; exact flat_3 hk) (fun k hk => by rw [zset_ne (by omega)]; exact flat_4 hk) (fun k hk => by rw [zset_ne (by omega)]; exact flat_5 hk) (fun k => by rw [zset_ne (by omega)]; exact flat_6)
theorem flat_s1 {g : Nat → Nat → Int} {A : Nat} {z : Int} (h : A < 10) : zset (flat g) (5 + A) z = flat (gset g 1 A z) :=
  flat_ext (fun k hk => by rw [zset_ne (by omega)]; exact flat_0 hk) (fun k hk => zset_sh _ _ 5 A k z (flat_1 hk)) (fun k hk => by rw [zset_ne (by omega)]; exact flat_2 hk) (fun k hk => by rw [zset_ne (by omega)]; exact flat_3 hk) (fun k hk => by rw [zset_ne (by omega)]; exact flat_4 hk) (fun k hk => by rw [zset_ne (by omega)]; exact flat_5 hk) (fun k => by rw [zset_ne (by omega)]; exact flat_6)
theorem flat_s2 {g : Nat → Nat → Int} {A : Nat} {z : Int} (h : A < 10) : zset (flat g) (15 + A) z = flat (gset g 2 A z) :=
  flat_ext (fun k hk => by rw [zset_ne (by omega)]; exact flat_0 hk) (fun k hk => by rw [zset_ne (by omega)]; exact flat_1 hk) (fun k hk => zset_sh _ _ 15 A k z (flat_2 hk)) (fun k hk => by rw [zset_ne (by omega)]; exact flat_3 hk) (fun k hk => by rw [zset_ne (by omega)]; exact flat_4 hk) (fun k hk => by rw [zset_ne (by omega)]; exact flat_5 hk) (fun k => by rw [zset_ne (by omega)]; exact flat_6)
theorem flat_s3 {g : Nat → Nat → Int} {A : Nat} {z : Int} (h : A < 10) : zset (flat g) (25 + A) z = flat (gset g 3 A z) :=
  flat_ext (fun k hk => by rw [zset_ne (by omega)]; exact flat_0 hk) (fun k hk => by rw [zset_ne (by omega)]; exact flat_1 hk) (fun k hk => by rw [zset_ne (by omega)]; exact flat_2 hk) (fun k hk => zset_sh _ _ 25 A k z (flat_3 hk)) (fun k hk => by rw [zset_ne (by omega)]; exact flat_4 hk) (fun k hk => by rw [zset_ne (by omega)]; exact flat_5 hk) (fun k => by rw [zset_ne (by omega)]; exact flat_6)
theorem flat_s4 {g : Nat → Nat → Int} {A : Nat} {z : Int} (h : A < 10) : zset (flat g) (35 + A) z = flat (gset g 4 A z) :=
  flat_ext (fun k hk => by rw [zset_ne (by omega)]; exact flat_0 hk) (fun k hk => by rw [zset_ne (by omega)]; exact flat_1 hk) (fun k hk => by rw [zset_ne (by omega)]; exact flat_2 hk) (fun k hk => by rw [zset_ne (by omega)]; exact flat_3 hk) (fun k hk => zset_sh _ _ 35 A k z (flat_4 hk)) (fun k hk => by rw [zset_ne (by omega)]; exact flat_5 hk) (fun k => by rw [zset_ne (by omega)]; exact flat_6)
theorem flat_s5 {g : Nat → Nat → Int} {A : Nat} {z : Int} (h : A < 10) : zset (flat g) (45 + A) z = flat (gset g 5 A z) :=
  flat_ext (fun k hk => by rw [zset_ne (by omega)]; exact flat_0 hk) (fun k hk => by rw [zset_ne (by omega)]; exact flat_1 hk) (fun k hk => by rw [zset_ne (by omega)]; exact flat_2 hk) (fun k hk => by rw [zset_ne (by omega)]; exact flat_3 hk) (fun k hk => by rw [zset_ne (by omega)]; exact flat_4 hk) (fun k hk => zset_sh _ _ 45 A k z (flat_5 hk)) (fun k => by rw [zset_ne (by omega)]; exact flat_6)
theorem flat_s6 {g : Nat → Nat → Int} {A : Nat} {z : Int} : zset (flat g) (55 + A) z = flat (gset g 6 A z) :=
  flat_ext (fun k hk => by rw [zset_ne (by omega)]; exact flat_0 hk) (fun k hk => by rw [zset_ne (by omega)]; exact flat_1 hk) (fun k hk => by rw [zset_ne (by omega)]; exact flat_2 hk) (fun k hk => by rw [zset_ne (by omega)]; exact flat_3 hk) (fun k hk => by rw [zset_ne (by omega)]; exact flat_4 hk) (fun k hk => by rw [zset_ne (by omega)]; exact flat_5 hk) (fun k => zset_sh _ _ 55 A k z flat_6)
def bgf (f : Nat → Int) (n : Int) (k : Nat) : Nat → Int := fun j => if j = 0 then n else if j = 1 then 0 else if 5 ≤ j ∧ j < k then (if 35 ≤ j ∧ j < 45 then 1000 else 0) else f j
theorem bgf_0 (f : Nat → Int) (n : Int) : zset (zset f 0 n) 1 0 = bgf f n 5 := by
  funext j
  unfold zset bgf
  by_cases h1 : j = 1
  · subst h1; rfl
  · by_cases h0 : j = 0
    · subst h0; rfl
    · rw [if_neg h1, if_neg h0, if_neg h0, if_neg h1, if_neg (by omega)]
theorem bgf_s (f : Nat → Int) (n : Int) {k : Nat} (hk : 5 ≤ k) {z : Int} (hz : z = if 35 ≤ k ∧ k < 45 then 1000 else 0) : zset (bgf f n k) k z = bgf f n (k + 1) := by
  funext j
  unfold zset bgf
  by_cases h : j = k
  · rw [if_pos h, if_neg (by omega), if_neg (by omega), if_pos (by omega), hz, h]
  · rw [if_neg h]
    by_cases h0 : j = 0
    · rw [if_pos h0, if_pos h0]
    rw [if_neg h0, if_neg h0]
    by_cases h1 : j = 1
    · rw [if_pos h1, if_pos h1]
    rw [if_neg h1, if_neg h1]
    by_cases h2 : 5 ≤ j ∧ j < k
    · rw [if_pos h2, if_pos (c := 5 ≤ j ∧ j < k + 1) (by omega)]
    · rw [if_neg h2, if_neg (c := 5 ≤ j ∧ j < k + 1) (by omega)]
theorem bgf_end (g : Nat → Nat → Int) (n : Int) : bgf (flat g) n 155 = flat (sBeg g n) := by
  refine flat_ext (fun k hk => ?_) (fun k hk => ?_) (fun k hk => ?_) (fun k hk => ?_) (fun k hk => ?_) (fun k hk => ?_) (fun k => ?_)
  · show _ = zset (zset (g 0) 0 n) 1 0 k
    unfold bgf zset
    by_cases h1 : k = 1
    · subst h1; rfl
    · by_cases h0 : k = 0
      · subst h0; rfl
      · rw [if_neg h0, if_neg h1, if_neg (by omega), if_neg h1, if_neg h0, flat_0 hk]
  · show _ = zfil (g 1) 10 0 k
    unfold bgf zfil
    rw [if_neg (by omega), if_neg (by omega), if_pos (by omega), if_neg (by omega), if_pos hk]
  · show _ = zfil (g 2) 10 0 k
    unfold bgf zfil
    rw [if_neg (by omega), if_neg (by omega), if_pos (by omega), if_neg (by omega), if_pos hk]
  · show _ = zfil (g 3) 10 0 k
    unfold bgf zfil
    rw [if_neg (by omega), if_neg (by omega), if_pos (by omega), if_neg (by omega), if_pos hk]
  · show _ = zfil (g 4) 10 1000 k
    unfold bgf zfil
    rw [if_neg (by omega), if_neg (by omega), if_pos (by omega), if_pos (by omega), if_pos hk]
  · show _ = zfil (g 5) 10 0 k
    unfold bgf zfil
    rw [if_neg (by omega), if_neg (by omega), if_pos (by omega), if_neg (by omega), if_pos hk]
  · show _ = zfil (g 6) 100 0 k
    unfold bgf zfil
    rw [if_neg (by omega), if_neg (by omega)]
    by_cases h : k < 100
    · rw [if_pos (by omega), if_neg (by omega), if_pos h]
    · rw [if_neg (by omega), if_neg h, flat_6]
/-! what refuses a pair -/
def sPf (g : Nat → Nat → Int) (p q : Int) : Int := if (0 ≤ p ∧ p ≤ g 0 0 - 1) ∧ (0 ≤ q ∧ q ≤ g 0 0 - 1) then (if p = q then -1000003 else 0) else -1000001
theorem sPf_rng (g : Nat → Nat → Int) (p q : Int) : -1000003 ≤ sPf g p q ∧ sPf g p q ≤ 0 := by
  unfold sPf
  split
  · split <;> omega
  · omega
theorem sPf_0 {g : Nat → Nat → Int} {p q : Int} (h : sPf g p q = 0) : (0 ≤ p ∧ p ≤ g 0 0 - 1) ∧ (0 ≤ q ∧ q ≤ g 0 0 - 1) ∧ p ≠ q := by
  unfold sPf at h
  split at h
  · rename_i c
    split at h
    · omega
    · rename_i d
      exact ⟨c.1, c.2, d⟩
  · omega
def sKf (g : Nat → Nat → Int) (p q : Int) : Int := if sPf g p q = 0 then (if 1 ≤ g 6 (10 * p.toNat + q.toNat) then 0 else -1000004) else sPf g p q
theorem sKf_rng (g : Nat → Nat → Int) (p q : Int) : -1000004 ≤ sKf g p q ∧ sKf g p q ≤ 0 := by
  have := sPf_rng g p q
  unfold sKf
  split
  · split <;> omega
  · omega
theorem sKf_0 {g : Nat → Nat → Int} {p q : Int} (h : sKf g p q = 0) : sPf g p q = 0 ∧ 1 ≤ g 6 (10 * p.toNat + q.toNat) := by
  unfold sKf at h
  split at h
  · rename_i c
    split at h
    · rename_i d
      exact ⟨c, d⟩
    · omega
  · rename_i c
    exact absurd h c
/-- two nodes that pass: as naturals -/
theorem z_nodes {g : Nat → Nat → Int} {r p q : Int} (hg : gB g r) (h : sPf g p q = 0) : ∃ A B : Nat, p = (A : Int) ∧ q = (B : Int) ∧ A < gN g ∧ B < gN g ∧ A < 10 ∧ B < 10 ∧ A ≠ B ∧ p.toNat = A ∧ q.toNat = B := by
  have h1 := sPf_0 h
  have h2 := gN_eq hg
  exact ⟨p.toNat, q.toNat, by omega, by omega, by omega, by omega, by omega, by omega, by omega, rfl, rfl⟩
/-! what the calls answer, and what they make of the state -/
def aReset (g : Nat → Nat → Int) (n : Int) : Int := if 2 ≤ n ∧ n ≤ 10 then g 0 0 else -1000002
def nReset (g : Nat → Nat → Int) (n : Int) : Nat → Nat → Int := if 2 ≤ n ∧ n ≤ 10 then sBeg g n else g
def aSetRtt (g : Nat → Nat → Int) (p q z : Int) : Int := if sPf g p q = 0 then (if 0 ≤ z ∧ z ≤ 20000 then g 6 (10 * p.toNat + q.toNat) else -1000002) else sPf g p q
def nSetRtt (g : Nat → Nat → Int) (p q z : Int) : Nat → Nat → Int := if sPf g p q = 0 ∧ 0 ≤ z ∧ z ≤ 20000 then gset (gset g 6 (10 * p.toNat + q.toNat) z) 6 (10 * q.toNat + p.toNat) z else g
def aRtt (g : Nat → Nat → Int) (p q : Int) : Int := if sKf g p q = 0 then g 6 (10 * p.toNat + q.toNat) else sKf g p q
def aSetLie (g : Nat → Nat → Int) (p z : Int) : Int := if 0 ≤ p ∧ p ≤ g 0 0 - 1 then (if 0 ≤ z ∧ z ≤ 20000 then g 5 p.toNat else -1000002) else -1000001
def nSetLie (g : Nat → Nat → Int) (p z : Int) : Nat → Nat → Int := if (0 ≤ p ∧ p ≤ g 0 0 - 1) ∧ (0 ≤ z ∧ z ≤ 20000) then gset g 5 p.toNat z else g
def aSetGains (g : Nat → Nat → Int) (x y : Int) : Int := if (1 ≤ x ∧ x ≤ 1000) ∧ (1 ≤ y ∧ y ≤ 1000) then 10000 * g 0 2 + g 0 3 else -1000002
def nSetGains (g : Nat → Nat → Int) (x y : Int) : Nat → Nat → Int := if (1 ≤ x ∧ x ≤ 1000) ∧ (1 ≤ y ∧ y ≤ 1000) then gset (gset g 0 2 x) 0 3 y else g
def aSetMaxStep (g : Nat → Nat → Int) (z : Int) : Int := if 1 ≤ z ∧ z ≤ 20000 then g 0 4 else -1000002
def nSetMaxStep (g : Nat → Nat → Int) (z : Int) : Nat → Nat → Int := if 1 ≤ z ∧ z ≤ 20000 then gset g 0 4 z else g
def okPl (x y h : Int) : Prop := (-100000 ≤ x ∧ x ≤ 100000) ∧ (-100000 ≤ y ∧ y ≤ 100000) ∧ (0 ≤ h ∧ h ≤ 100000)
def aPlace (g : Nat → Nat → Int) (p x y h : Int) : Int := if 0 ≤ p ∧ p ≤ g 0 0 - 1 then (if (-100000 ≤ x ∧ x ≤ 100000) ∧ (-100000 ≤ y ∧ y ≤ 100000) ∧ (0 ≤ h ∧ h ≤ 100000) then g 4 p.toNat else -1000002) else -1000001
def nPlace (g : Nat → Nat → Int) (p x y h : Int) : Nat → Nat → Int := if (0 ≤ p ∧ p ≤ g 0 0 - 1) ∧ (-100000 ≤ x ∧ x ≤ 100000) ∧ (-100000 ≤ y ∧ y ≤ 100000) ∧ (0 ≤ h ∧ h ≤ 100000) then sSet g p.toNat x y h 1000 else g
def aOf (r : Nat) (g : Nat → Nat → Int) (p : Int) : Int := if 0 ≤ p ∧ p ≤ g 0 0 - 1 then g r p.toNat else -1000001
def aPredict (g : Nat → Nat → Int) (p q : Int) : Int := if sPf g p q = 0 then sPrd g p.toNat q.toNat else sPf g p q
def aMeasure (g : Nat → Nat → Int) (p q : Int) : Int := if sKf g p q = 0 then sSmp g p.toNat q.toNat else sKf g p q
def nMeasure (g : Nat → Nat → Int) (p q : Int) : Nat → Nat → Int := if sKf g p q = 0 then sUpd g p.toNat q.toNat else g
def aRun (g : Nat → Nat → Int) (k : Int) : Int := if 1 ≤ k ∧ k ≤ 100 then sRunC g k.toNat else -1000002
def nRun (g : Nat → Nat → Int) (k : Int) : Nat → Nat → Int := if 1 ≤ k ∧ k ≤ 100 then sRun g k.toNat else g
def aRelErr (g : Nat → Nat → Int) (p q : Int) : Int := if sKf g p q = 0 then sRel g p.toNat q.toNat else sKf g p q
def aMove (g : Nat → Nat → Int) (p q : Int) : Int := if sKf g p q = 0 then sMov g p.toNat q.toNat else sKf g p q
def sMsI (g : Nat → Nat → Int) (a j : Nat) : Int := sm j (fun b => if a < b ∧ 1 ≤ g 6 (10 * a + b) then sRel g a b else 0)
def sMcI (g : Nat → Nat → Int) (a j : Nat) : Int := sm j (fun b => if a < b ∧ 1 ≤ g 6 (10 * a + b) then 1 else 0)
def sMs (g : Nat → Nat → Int) (n i : Nat) : Int := sm i (fun a => sMsI g a n)
def sMc (g : Nat → Nat → Int) (n i : Nat) : Int := sm i (fun a => sMcI g a n)
theorem sMsI_0 (g : Nat → Nat → Int) (a : Nat) : sMsI g a (a + 1) = 0 := sm_zero (fun c hc => if_neg (by omega))
theorem sMcI_0 (g : Nat → Nat → Int) (a : Nat) : sMcI g a (a + 1) = 0 := sm_zero (fun c hc => if_neg (by omega))
theorem sMc_bd {g : Nat → Nat → Int} {n : Nat} (hn : n ≤ 10) : 0 ≤ sMc g n n ∧ sMc g n n ≤ 100 := by
  have h1 : ∀ a, 0 ≤ sMcI g a n ∧ sMcI g a n ≤ 10 := fun a => by
    have := sm_bd (n := n) (f := fun b => if a < b ∧ 1 ≤ g 6 (10 * a + b) then (1 : Int) else 0) (c := 1) (fun i _ => by split <;> omega)
    unfold sMcI
    omega
  have := sm_bd (n := n) (f := fun a => sMcI g a n) (c := 10) (fun i _ => h1 i)
  unfold sMc
  omega
theorem sMs_bd {g : Nat → Nat → Int} {r : Int} (hg : gB g r) {n : Nat} (hn : n ≤ 10) : 0 ≤ sMs g n n ∧ sMs g n n ≤ 48284200000 := by
  have h1 : ∀ a, a < n → 0 ≤ sMsI g a n ∧ sMsI g a n ≤ 4828420000 := fun a ha => by
    have := sm_bd (n := n) (f := fun b => if a < b ∧ 1 ≤ g 6 (10 * a + b) then sRel g a b else 0) (c := 482842000) (fun i hi => by
      split
      · rename_i h; exact sRel_bd hg (by omega) (by omega) h.2
      · omega)
    unfold sMsI
    omega
  have := sm_bd (n := n) (f := fun a => sMsI g a n) (c := 4828420000) (fun i hi => h1 i hi)
  unfold sMs
  omega
def aMean (g : Nat → Nat → Int) : Int := if sMc g (gN g) (gN g) = 0 then -1000005 else (sMs g (gN g) (gN g)).tdiv (sMc g (gN g) (gN g))
def sWs (g : Nat → Nat → Int) (a b : Nat) (q : Int × Int) : Int × Int := if 1 ≤ g 6 (10 * a + b) ∧ q.2 < sRel g a b then (10 * (a : Int) + (b : Int), sRel g a b) else q
def sWi (g : Nat → Nat → Int) (a : Nat) (q : Int × Int) : Nat → Int × Int
  | 0 => q
  | k + 1 => if a < k then sWs g a k (sWi g a q k) else sWi g a q k
def sWo (g : Nat → Nat → Int) (n : Nat) : Nat → Int × Int
  | 0 => (-1000005, -1)
  | i + 1 => sWi g i (sWo g n i) n
theorem sWi_0 (g : Nat → Nat → Int) (a : Nat) (q : Int × Int) : ∀ k, k ≤ a + 1 → sWi g a q k = q := by
  intro k
  induction k with
  | zero => exact fun _ => rfl
  | succ k ih =>
    intro h
    unfold sWi
    rw [if_neg (by omega)]
    exact ih (by omega)
theorem sWi_bd {g : Nat → Nat → Int} {r : Int} (hg : gB g r) {a : Nat} (ha : a < 10) {q : Int × Int} (hq : -1 ≤ q.2 ∧ q.2 ≤ 482842000) : ∀ k, k ≤ 10 → -1 ≤ (sWi g a q k).2 ∧ (sWi g a q k).2 ≤ 482842000 := by
  intro k
  induction k with
  | zero => exact fun _ => hq
  | succ k ih =>
    intro h
    have h1 := ih (by omega)
    unfold sWi
    split
    · unfold sWs
      split
      · rename_i h2
        have := sRel_bd hg ha (show k < 10 by omega) h2.1
        dsimp only
        omega
      · exact h1
    · exact h1
theorem sWo_bd {g : Nat → Nat → Int} {r : Int} (hg : gB g r) {n : Nat} (hn : n ≤ 10) : ∀ i, i ≤ n → -1 ≤ (sWo g n i).2 ∧ (sWo g n i).2 ≤ 482842000 := by
  intro i
  induction i with
  | zero => exact fun _ => by unfold sWo; omega
  | succ i ih =>
    intro h
    unfold sWo
    exact sWi_bd hg (by omega) (ih (by omega)) n hn
def sNr (g : Nat → Nat → Int) (a : Nat) (rk ini : Int) : Nat → Int
  | 0 => ini
  | k + 1 => if k ≠ a ∧ sRk g a k (gN g) = rk then (k : Int) else sNr g a rk ini k
def aNear (ini : Int) (g : Nat → Nat → Int) (p rk : Int) : Int := if 0 ≤ p ∧ p ≤ g 0 0 - 1 then (if 0 ≤ rk ∧ rk ≤ g 0 0 - 2 then sNr g p.toNat rk ini (gN g) else -1000002) else -1000001
theorem sRk_bd {g : Nat → Nat → Int} {a b n : Nat} (hn : n ≤ 10) : 0 ≤ sRk g a b n ∧ sRk g a b n ≤ 10 := by
  have := sm_bd (n := n) (f := fun q => if q ≠ a ∧ q ≠ b ∧ (sPrd g a q < sPrd g a b ∨ sPrd g a q = sPrd g a b ∧ q < b) then (1 : Int) else 0) (c := 1) (fun i _ => by split <;> omega)
  unfold sRk
  omega
def sWay (g : Nat → Nat → Int) (a b k : Nat) : Int := sPrd g a k + sPrd g k b
def sRm (g : Nat → Nat → Int) (a b : Nat) : Nat → Int × Int
  | 0 => (-1000005, 0)
  | k + 1 => if k ≠ a ∧ k ≠ b ∧ ((sRm g a b k).1 < 0 ∨ sWay g a b k < (sRm g a b k).2) then ((k : Int), sWay g a b k) else sRm g a b k
def sRc (g : Nat → Nat → Int) (a b : Nat) : Nat → Int × Int
  | 0 => (-1000005, 2147483647)
  | k + 1 => if k ≠ a ∧ k ≠ b ∧ sWay g a b k < (sRc g a b k).2 then ((k : Int), sWay g a b k) else sRc g a b k
theorem sWay_bd {g : Nat → Nat → Int} {r : Int} (hg : gB g r) {a b k : Nat} (ha : a < 10) (hb : b < 10) (hk : k < 10) : 0 ≤ sWay g a b k ∧ sWay g a b k ≤ 965684 := by
  have h1 := sPrd_bd hg ha hk
  have h2 := sPrd_bd hg hk hb
  unfold sWay
  omega
theorem sRm_bd {g : Nat → Nat → Int} {r : Int} (hg : gB g r) {a b : Nat} (ha : a < 10) (hb : b < 10) : ∀ k, k ≤ 10 → (-1000005 ≤ (sRm g a b k).1 ∧ (sRm g a b k).1 ≤ 10) ∧ 0 ≤ (sRm g a b k).2 ∧ (sRm g a b k).2 ≤ 965684 := by
  intro k
  induction k with
  | zero => exact fun _ => by unfold sRm; omega
  | succ k ih =>
    intro h
    have h1 := ih (by omega)
    have h2 := sWay_bd hg ha hb (show k < 10 by omega)
    unfold sRm
    split
    · dsimp only; omega
    · exact h1
theorem sRc_bd {g : Nat → Nat → Int} {r : Int} (hg : gB g r) {a b : Nat} (ha : a < 10) (hb : b < 10) : ∀ k, k ≤ 10 → (-1000005 ≤ (sRc g a b k).1 ∧ (sRc g a b k).1 ≤ 10) ∧ 0 ≤ (sRc g a b k).2 ∧ (sRc g a b k).2 ≤ 2147483647 := by
  intro k
  induction k with
  | zero => exact fun _ => by unfold sRc; omega
  | succ k ih =>
    intro h
    have h1 := ih (by omega)
    have h2 := sWay_bd hg ha hb (show k < 10 by omega)
    unfold sRc
    split
    · dsimp only; omega
    · exact h1
/-- the relay found the one way is that found the other way -/
theorem sRmc {g : Nat → Nat → Int} {r : Int} (hg : gB g r) {a b : Nat} (ha : a < 10) (hb : b < 10) : ∀ k, k ≤ 10 → ((sRm g a b k).1 = -1000005 ∧ (sRc g a b k).1 = -1000005 ∧ (sRc g a b k).2 = 2147483647) ∨ (0 ≤ (sRm g a b k).1 ∧ sRm g a b k = sRc g a b k) := by
  intro k
  induction k with
  | zero => exact fun _ => Or.inl ⟨rfl, rfl, rfl⟩
  | succ k ih =>
    intro h
    have h2 := sWay_bd hg ha hb (show k < 10 by omega)
    unfold sRm sRc
    by_cases c : k ≠ a ∧ k ≠ b
    · rcases ih (by omega) with ⟨e1, e2, e3⟩ | ⟨e1, e2⟩
      · rw [if_pos ⟨c.1, c.2, Or.inl (by omega)⟩, if_pos ⟨c.1, c.2, by omega⟩]
        exact Or.inr ⟨by dsimp only; omega, rfl⟩
      · rw [← e2]
        by_cases d : sWay g a b k < (sRm g a b k).2
        · rw [if_pos ⟨c.1, c.2, Or.inr d⟩, if_pos ⟨c.1, c.2, d⟩]
          exact Or.inr ⟨by dsimp only; omega, rfl⟩
        · rw [if_neg (fun z => by rcases z.2.2 with z | z <;> omega), if_neg (fun z => d z.2.2)]
          exact Or.inr ⟨e1, rfl⟩
    · rw [if_neg (fun z => c ⟨z.1, z.2.1⟩), if_neg (fun z => c ⟨z.1, z.2.1⟩)]
      exact ih (by omega)
def aRelayM (g : Nat → Nat → Int) (p q : Int) : Int := if sPf g p q = 0 then (sRm g p.toNat q.toNat (gN g)).1 else sPf g p q
def aRelayC (g : Nat → Nat → Int) (p q : Int) : Int := if sPf g p q = 0 then (sRc g p.toNat q.toNat (gN g)).1 else sPf g p q
