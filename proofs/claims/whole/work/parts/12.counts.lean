/-! OWN ROWS: sums; ranks are all taken; triangles counted in two ways -/
theorem sm_add (n : Nat) (f f2 : Nat → Int) : sm n (fun i => f i + f2 i) = sm n f + sm n f2 := by
  induction n with
  | zero => rfl
  | succ n ih => rw [sm_succ, sm_succ, sm_succ, ih]; omega
theorem sm_swap (n k : Nat) (f : Nat → Nat → Int) : sm n (fun i => sm k (fun j => f i j)) = sm k (fun j => sm n (fun i => f i j)) := by
  induction n with
  | zero => exact (sm_zero (fun i _ => rfl)).symm
  | succ n ih =>
    rw [sm_succ, ih, ← sm_add]
    rfl
theorem sm_pick {n k : Nat} (hk : k < n) (f : Nat → Int) : sm n (fun i => if i = k then f i else 0) = f k := by
  induction n with
  | zero => omega
  | succ n ih =>
    rw [sm_succ]
    by_cases h : k = n
    · subst h
      rw [if_pos rfl, sm_zero (fun i hi => if_neg (by omega))]
      omega
    · rw [ih (by omega), if_neg (by omega)]
      omega
theorem sm_one (n : Nat) : sm n (fun _ => 1) = n := by
  induction n with
  | zero => rfl
  | succ n ih => rw [sm_succ, ih]; omega
theorem sm_le {n : Nat} {f f2 : Nat → Int} (h : ∀ i, i < n → f i ≤ f2 i) : sm n f ≤ sm n f2 := by
  induction n with
  | zero => exact Int.le_refl _
  | succ n ih =>
    have h1 := ih (fun i hi => h i (by omega))
    have h2 := h n (by omega)
    rw [sm_succ, sm_succ]
    omega
theorem sm_lt {n j : Nat} {f f2 : Nat → Int} (h : ∀ i, i < n → f i ≤ f2 i) (hj : j < n) (hl : f j + 1 ≤ f2 j) : sm n f + 1 ≤ sm n f2 := by
  induction n with
  | zero => omega
  | succ n ih =>
    rw [sm_succ, sm_succ]
    by_cases e : j = n
    · subst e
      have := sm_le (n := j) (fun i hi => h i (by omega))
      omega
    · have h1 := ih (fun i hi => h i (by omega)) (by omega)
      have h2 := h n (by omega)
      omega
theorem sm_ge {n j : Nat} {f : Nat → Int} (h : ∀ i, i < n → 0 ≤ f i) (hj : j < n) : f j ≤ sm n f := by
  have h1 := sm_le (n := n) (f := fun i => if i = j then f i else 0) (f2 := f) (fun i hi => by
    split
    · exact Int.le_refl _
    · exact h i hi)
  rw [sm_pick hj] at h1
  exact h1
theorem sm_uniq {n : Nat} {P : Nat → Prop} [DecidablePred P] (h : ∀ i j, i < n → j < n → P i → P j → i = j) : sm n (fun i => if P i then 1 else 0) ≤ 1 := by
  induction n with
  | zero => rw [sm_0]; omega
  | succ n ih =>
    rw [sm_succ]
    by_cases e : P n
    · rw [if_pos e, sm_zero (fun i hi => if_neg (fun q => by have := h i n (by omega) (by omega) q e; omega))]
      omega
    · rw [if_neg e]
      have := ih (fun i j hi hj => h i j (by omega) (by omega))
      omega
/-! every rank is some node's -/
theorem rk_lt {g : Nat → Nat → Int} {a x y n : Nat} (hx : x < n) (hxa : x ≠ a) (hxy : x ≠ y) (h : sPrd g a x < sPrd g a y ∨ sPrd g a x = sPrd g a y ∧ x < y) : sRk g a x n + 1 ≤ sRk g a y n := by
  refine sm_lt (j := x) (fun i _ => ?_) hx ?_
  · by_cases c : i ≠ a ∧ i ≠ x ∧ (sPrd g a i < sPrd g a x ∨ sPrd g a i = sPrd g a x ∧ i < x)
    · rw [if_pos c]
      by_cases d : i = y
      · subst d
        exact absurd c.2.2 (by omega)
      · rw [if_pos ⟨c.1, d, by omega⟩]
        omega
    · rw [if_neg c]
      split <;> omega
  · rw [if_neg (fun q => q.2.1 rfl), if_pos ⟨hxa, hxy, h⟩]
    omega
theorem rk_inj {g : Nat → Nat → Int} {a x y n : Nat} (hx : x < n) (hy : y < n) (hxa : x ≠ a) (hya : y ≠ a) (h : sRk g a x n = sRk g a y n) : x = y := by
  rcases Nat.lt_trichotomy x y with q | q | q
  · by_cases d : sPrd g a x ≤ sPrd g a y
    · have := rk_lt (g := g) hx hxa (by omega) (by omega : sPrd g a x < sPrd g a y ∨ sPrd g a x = sPrd g a y ∧ x < y)
      omega
    · have := rk_lt (g := g) hy hya (by omega) (by omega : sPrd g a y < sPrd g a x ∨ sPrd g a y = sPrd g a x ∧ y < x)
      omega
  · exact q
  · by_cases d : sPrd g a y ≤ sPrd g a x
    · have := rk_lt (g := g) hy hya (by omega) (by omega : sPrd g a y < sPrd g a x ∨ sPrd g a y = sPrd g a x ∧ y < x)
      omega
    · have := rk_lt (g := g) hx hxa (by omega) (by omega : sPrd g a x < sPrd g a y ∨ sPrd g a x = sPrd g a y ∧ x < y)
      omega
theorem rk_bd {g : Nat → Nat → Int} {a x n : Nat} (ha : a < n) (hx : x < n) (hxa : x ≠ a) : 0 ≤ sRk g a x n ∧ sRk g a x n ≤ n - 2 := by
  refine ⟨(sm_bd (c := 1) (fun i _ => by split <;> omega)).1, ?_⟩
  have h1 : sm n (fun i => (if i ≠ a ∧ i ≠ x ∧ (sPrd g a i < sPrd g a x ∨ sPrd g a i = sPrd g a x ∧ i < x) then (1 : Int) else 0) + ((if i = a then (1 : Int) else 0) + (if i = x then (1 : Int) else 0))) ≤ sm n (fun _ => 1) := sm_le (fun i _ => by
    by_cases c : i = a
    · rw [if_pos c, if_neg (by omega), if_neg (by omega)]; omega
    · by_cases d : i = x
      · rw [if_pos d, if_neg (by omega), if_neg c]; omega
      · rw [if_neg c, if_neg d]; split <;> omega)
  rw [sm_add, sm_add, sm_one, sm_pick ha (fun _ => 1), sm_pick hx (fun _ => 1)] at h1
  unfold sRk
  omega
theorem rk_all {g : Nat → Nat → Int} {a n r : Nat} (ha : a < n) (hr : r + 2 ≤ n) : ∃ x, x < n ∧ x ≠ a ∧ sRk g a x n = r := by
  have hle : ∀ q : Nat, sm n (fun x => if x ≠ a ∧ sRk g a x n = (q : Int) then (1 : Int) else 0) ≤ 1 := fun q =>
    sm_uniq (P := fun x => x ≠ a ∧ sRk g a x n = (q : Int)) (fun i j hi hj h1 h2 => rk_inj hi hj h1.1 h2.1 (h1.2.trans h2.2.symm))
  have hsum : sm (n - 1) (fun q => sm n (fun x => if x ≠ a ∧ sRk g a x n = (q : Int) then (1 : Int) else 0)) = ((n - 1 : Nat) : Int) := by
    rw [sm_swap]
    have e : sm n (fun x => sm (n - 1) (fun q => if x ≠ a ∧ sRk g a x n = (q : Int) then (1 : Int) else 0)) = sm n (fun x => if x ≠ a then (1 : Int) else 0) := sm_congr (fun x hx => by
      by_cases c : x ≠ a
      · rw [if_pos c]
        have hb := rk_bd (g := g) ha hx c
        obtain ⟨t, ht⟩ : ∃ t : Nat, sRk g a x n = (t : Int) := ⟨(sRk g a x n).toNat, by omega⟩
        have e1 : sm (n - 1) (fun q => if x ≠ a ∧ sRk g a x n = (q : Int) then (1 : Int) else 0) = sm (n - 1) (fun q => if q = t then (1 : Int) else 0) := sm_congr (fun q _ => by
          by_cases d : q = t
          · rw [if_pos d, if_pos ⟨c, by rw [ht, d]⟩]
          · rw [if_neg d, if_neg (fun z => d (by have := z.2; omega))])
        rw [e1, sm_pick (by omega) (fun _ => 1)]
      · rw [if_neg c]
        exact sm_zero (fun q _ => if_neg (fun z => c z.1)))
    rw [e]
    have h1 : sm n (fun x => (if x ≠ a then (1 : Int) else 0) + (if x = a then (1 : Int) else 0)) = sm n (fun _ => 1) := sm_congr (fun x _ => by
      by_cases c : x = a
      · rw [if_pos c, if_neg (fun z => z c)]; rfl
      · rw [if_neg c, if_pos c]; rfl)
    rw [sm_add, sm_one, sm_pick ha (fun _ => 1)] at h1
    omega
  by_cases hc : sm n (fun x => if x ≠ a ∧ sRk g a x n = (r : Int) then (1 : Int) else 0) = 0
  · have := sm_lt (n := n - 1) (j := r) (f := fun q => sm n (fun x => if x ≠ a ∧ sRk g a x n = (q : Int) then (1 : Int) else 0)) (f2 := fun _ => 1) (fun q _ => hle q) (by omega) (by rw [hc]; omega)
    rw [hsum, sm_one] at this
    omega
  · refine Classical.byContradiction fun hn => hc (sm_zero (fun x hx => if_neg (fun z => hn ⟨x, hx, z.1, z.2⟩)))
theorem sNr_ini {g : Nat → Nat → Int} {a : Nat} {rk i1 i2 : Int} : ∀ {n x : Nat}, x < n → x ≠ a → sRk g a x (gN g) = rk → sNr g a rk i1 n = sNr g a rk i2 n := by
  intro n
  induction n with
  | zero => intro x h; omega
  | succ n ih =>
    intro x hx hxa hr
    unfold sNr
    by_cases c : n ≠ a ∧ sRk g a n (gN g) = rk
    · rw [if_pos c, if_pos c]
    · rw [if_neg c, if_neg c]
      refine ih (x := x) ?_ hxa hr
      rcases Nat.lt_or_ge x n with q | q
      · exact q
      · have e : x = n := by omega
        subst e
        exact absurd ⟨hxa, hr⟩ c
theorem aNear_eq {g : Nat → Nat → Int} {r : Int} (hg : gB g r) (i1 i2 u k : Int) : aNear i1 g u k = aNear i2 g u k := by
  unfold aNear
  have hN := gN_eq hg
  by_cases c : 0 ≤ u ∧ u ≤ g 0 0 - 1
  · rw [if_pos c, if_pos c]
    by_cases d : 0 ≤ k ∧ k ≤ g 0 0 - 2
    · rw [if_pos d, if_pos d]
      obtain ⟨x, h1, h2, h3⟩ := rk_all (g := g) (a := u.toNat) (n := gN g) (r := k.toNat) (by omega) (by omega)
      exact sNr_ini h1 h2 (by rw [h3]; omega)
    · rw [if_neg d, if_neg d]
  · rw [if_neg c, if_neg c]
theorem aRelay_eq {g : Nat → Nat → Int} {r : Int} (hg : gB g r) (u v : Int) : aRelayC g u v = aRelayM g u v := by
  unfold aRelayC aRelayM
  by_cases c : sPf g u v = 0
  · rw [if_pos c, if_pos c]
    obtain ⟨A, B, rfl, rfl, hA2, hB2, hA, hB, -, eA, eB⟩ := z_nodes hg c
    have hN := gN_eq hg
    rw [eA, eB]
    rcases sRmc hg hA hB (gN g) hN.2.2 with ⟨e1, e2, -⟩ | ⟨-, e2⟩
    · rw [e1, e2]
    · rw [e2]
  · rw [if_neg c, if_neg c]
/-! triangles -/
theorem sExc_iff {g : Nat → Nat → Int} {a b c : Nat} : 1 ≤ sExc g a b c ↔ (1 ≤ g 6 (10 * a + b) ∧ 1 ≤ g 6 (10 * b + c) ∧ 1 ≤ g 6 (10 * a + c)) ∧ 1 ≤ sOv g a b c := by
  unfold sExc
  by_cases t : 1 ≤ g 6 (10 * a + b) ∧ 1 ≤ g 6 (10 * b + c) ∧ 1 ≤ g 6 (10 * a + c)
  · rw [if_pos t]
    unfold sMx
    split <;> omega
  · rw [if_neg t]
    omega
def iv (g : Nat → Nat → Int) (a b c : Nat) : Int := if 1 ≤ sExc g a b c then 1 else 0
theorem sMx3 {x y z : Int} : sMx x (sMx y z) = sMx y (sMx x z) ∧ sMx x (sMx y z) = sMx x (sMx z y) := by
  unfold sMx
  constructor <;> (repeat' split) <;> omega
theorem sExc_swap {g : Nat → Nat → Int} {r : Int} (hg : gB g r) {a b c : Nat} (ha : a < 10) (hb : b < 10) (hc : c < 10) : sExc g a b c = sExc g b a c ∧ sExc g a b c = sExc g a c b := by
  have h1 := (hg.2.2 a b ha hb).2.2
  have h2 := (hg.2.2 b c hb hc).2.2
  have h3 := (hg.2.2 a c ha hc).2.2
  unfold sExc sOv sG3
  rw [← h1, ← h2]
  constructor
  · rw [(sMx3 (x := g 6 (10 * a + b)) (y := g 6 (10 * b + c)) (z := g 6 (10 * a + c))).2]
    by_cases t : 1 ≤ g 6 (10 * a + b) ∧ 1 ≤ g 6 (10 * b + c) ∧ 1 ≤ g 6 (10 * a + c)
    · rw [if_pos t, if_pos ⟨t.1, t.2.2, t.2.1⟩]
      congr 1
      omega
    · rw [if_neg t, if_neg (by omega)]
  · rw [(sMx3 (x := g 6 (10 * a + b)) (y := g 6 (10 * b + c)) (z := g 6 (10 * a + c))).2, (sMx3 (x := g 6 (10 * a + b)) (y := g 6 (10 * a + c)) (z := g 6 (10 * b + c))).1, (sMx3 (x := g 6 (10 * a + c)) (y := g 6 (10 * a + b)) (z := g 6 (10 * b + c))).2]
    by_cases t : 1 ≤ g 6 (10 * a + b) ∧ 1 ≤ g 6 (10 * b + c) ∧ 1 ≤ g 6 (10 * a + c)
    · rw [if_pos t, if_pos ⟨t.2.2, t.2.1, t.1⟩]
      congr 1
      omega
    · rw [if_neg t, if_neg (by omega)]
/-- what each triangle adds, adds up -/
theorem cC_add {g : Nat → Nat → Int} {a b N : Nat} {q : (Nat → Int) × (Nat → Int)} {F : (Nat → Int) × (Nat → Int) → Int} {d : Nat → Int} (h : ∀ c q', c < N → F (tS g a b c q') = F q' + d c) : ∀ k, k ≤ N → F (cC g a b q k) = F q + sm k (fun c => if b < c then d c else 0) := by
  intro k
  induction k with
  | zero => intro _; show F q = F q + 0; omega
  | succ k ih =>
    intro hk
    have h1 := ih (by omega)
    rw [sm_succ]
    unfold cC
    by_cases c : b < k
    · rw [if_pos c, if_pos c, h k _ (by omega), h1]; omega
    · rw [if_neg c, if_neg c, h1]; omega
theorem cB_add {g : Nat → Nat → Int} {n a N : Nat} {q : (Nat → Int) × (Nat → Int)} {F : (Nat → Int) × (Nat → Int) → Int} {d : Nat → Nat → Int} (hn : n ≤ N) (h : ∀ b c q', b < N → c < N → F (tS g a b c q') = F q' + d b c) : ∀ k, k ≤ N → F (cB g n a q k) = F q + sm k (fun b => if a < b then sm n (fun c => if b < c then d b c else 0) else 0) := by
  intro k
  induction k with
  | zero => intro _; show F q = F q + 0; omega
  | succ k ih =>
    intro hk
    have h1 := ih (by omega)
    rw [sm_succ]
    unfold cB
    by_cases c : a < k
    · rw [if_pos c, if_pos c, cC_add (N := N) (fun c' q' hc => h k c' q' (by omega) hc) n hn, h1]; omega
    · rw [if_neg c, if_neg c, h1]; omega
theorem cA_add {g : Nat → Nat → Int} {n N : Nat} {q : (Nat → Int) × (Nat → Int)} {F : (Nat → Int) × (Nat → Int) → Int} {d : Nat → Nat → Nat → Int} (hn : n ≤ N) (h : ∀ a b c q', a < N → b < N → c < N → F (tS g a b c q') = F q' + d a b c) : ∀ k, k ≤ N → F (cA g n q k) = F q + sm k (fun a => sm n (fun b => if a < b then sm n (fun c => if b < c then d a b c else 0) else 0)) := by
  intro k
  induction k with
  | zero => intro _; show F q = F q + 0; omega
  | succ k ih =>
    intro hk
    have h1 := ih (by omega)
    rw [sm_succ]
    unfold cA
    rw [cB_add (N := N) hn (fun b c q' hb hc => h k b c q' (by omega) hb hc) n hn, h1]; omega
def tri1 (g : Nat → Nat → Int) (a b c : Nat) : Int := if 1 ≤ g 6 (10 * a + b) ∧ 1 ≤ g 6 (10 * b + c) ∧ 1 ≤ g 6 (10 * a + c) then 1 else 0
def sTi (g : Nat → Nat → Int) (a b k : Nat) : Int := sm k (fun c => if b < c then tri1 g a b c else 0)
def sTj (g : Nat → Nat → Int) (n a k : Nat) : Int := sm k (fun b => if a < b then sTi g a b n else 0)
def sTn (g : Nat → Nat → Int) (n k : Nat) : Int := sm k (fun a => sTj g n a n)
theorem cQ_4 (g : Nat → Nat → Int) (w o : Nat → Int) : (cQ g w o).1 4 = sTn g (gN g) (gN g) := by
  unfold cQ
  rw [cA_add (F := fun q => q.1 4) (d := tri1 g) (N := gN g) (Nat.le_refl _) (fun a b c q' _ _ _ => ?_) (gN g) (Nat.le_refl _)]
  · show (0 : Int) + _ = _
    rw [Int.zero_add]
    rfl
  · unfold tS tW tri1
    dsimp only
    split
    · split
      · rw [zset_ne (by decide), zset_ne (by decide), zset_at]
      · rw [zset_at]
    · omega
theorem zset_inc (f : Nat → Int) (i k : Nat) : zset f i (f i + 1) k = f k + (if k = i then 1 else 0) := by
  unfold zset
  by_cases h : k = i
  · rw [if_pos h, if_pos h, h]
  · rw [if_neg h, if_neg h]; omega
theorem tO_at (g : Nat → Nat → Int) (a b c k : Nat) (o : Nat → Int) : tO g a b c o k = o k + (if 1 ≤ sExc g a b c then (if k = a then 1 else 0) + (if k = b then 1 else 0) + (if k = c then 1 else 0) else 0) := by
  unfold tO
  by_cases h : (1 ≤ g 6 (10 * a + b) ∧ 1 ≤ g 6 (10 * b + c) ∧ 1 ≤ g 6 (10 * a + c)) ∧ 1 ≤ sOv g a b c
  · rw [if_pos h, if_pos (sExc_iff.mpr h), zset_inc, zset_inc, zset_inc]; omega
  · rw [if_neg h, if_neg (fun z => h (sExc_iff.mp z))]; omega
theorem tW_5 (g : Nat → Nat → Int) (a b c : Nat) (w : Nat → Int) : tW g a b c w 5 = w 5 + iv g a b c := by
  unfold tW iv
  by_cases h : 1 ≤ sExc g a b c
  · have h2 := sExc_iff.mp h
    rw [if_pos h, if_pos h2.1, if_pos h2.2, zset_ne (by decide), zset_at]
  · rw [if_neg h]
    split
    · rename_i t
      rw [if_neg (fun z => h (sExc_iff.mpr ⟨t, z⟩)), zset_ne (by decide)]; omega
    · omega
/-- three nodes a violated triangle -/
theorem cQ_sum {g : Nat → Nat → Int} (w o : Nat → Int) (hn : gN g ≤ 10) : sm (gN g) (cQ g w o).2 = 3 * (cQ g w o).1 5 := by
  have h := cA_add (g := g) (q := (zset (zset (zset w 4 0) 5 0) 6 (-1000005), zfil o 10 0)) (F := fun q => sm (gN g) q.2 - 3 * q.1 5) (d := fun _ _ _ => 0) (n := gN g) (N := gN g) (Nat.le_refl _) (fun a b c q' ha hb hc => ?_) (gN g) (Nat.le_refl _)
  · have e0 : sm (gN g) (zfil o 10 0) = 0 := sm_zero (fun i hi => if_pos (by omega))
    have e1 : sm (gN g) (fun a => sm (gN g) (fun b => if a < b then sm (gN g) (fun c => if b < c then (0 : Int) else 0) else 0)) = 0 := sm_zero (fun a _ => sm_zero (fun b _ => by
      split
      · exact sm_zero (fun c _ => by split <;> rfl)
      · rfl))
    dsimp only at h
    rw [e0, e1] at h
    have e2 : (zset (zset (zset w 4 0) 5 0) 6 (-1000005)) 5 = 0 := rfl
    rw [e2] at h
    unfold cQ
    omega
  · unfold tS
    dsimp only
    rw [tW_5, sm_congr (fun k _ => tO_at g a b c k q'.2), sm_add]
    unfold iv
    by_cases t : 1 ≤ sExc g a b c
    · have e3 : sm (gN g) (fun k => if 1 ≤ sExc g a b c then (if k = a then (1 : Int) else 0) + (if k = b then 1 else 0) + (if k = c then 1 else 0) else 0) = 3 := by
        rw [sm_congr (f2 := fun k => (if k = a then (1 : Int) else 0) + (if k = b then 1 else 0) + (if k = c then 1 else 0)) (fun k _ => if_pos t), sm_add, sm_add, sm_pick ha (fun _ => 1), sm_pick hb (fun _ => 1), sm_pick hc (fun _ => 1)]
        rfl
      rw [e3, if_pos t]; omega
    · rw [sm_zero (fun k _ => if_neg t), if_neg t]; omega
/-- how often a node is met is at how many violated triangles it is -/
theorem cQ_o {g : Nat → Nat → Int} {r : Int} (hg : gB g r) (w o : Nat → Int) {k : Nat} (hk : k < gN g) : (cQ g w o).2 k = sVa g k (gN g) (gN g) := by
  have hN := gN_eq hg
  have sw := fun (a b c : Nat) (ha : a < gN g) (hb : b < gN g) (hc : c < gN g) => sExc_swap hg (show a < 10 by omega) (show b < 10 by omega) (show c < 10 by omega)
  have h := cA_add (g := g) (q := (zset (zset (zset w 4 0) 5 0) 6 (-1000005), zfil o 10 0)) (F := fun q => q.2 k) (d := fun a b c => if 1 ≤ sExc g a b c then (if k = a then 1 else 0) + (if k = b then 1 else 0) + (if k = c then 1 else 0) else 0) (n := gN g) (N := gN g) (Nat.le_refl _) (fun a b c q' ha hb hc => tO_at g a b c k q'.2) (gN g) (Nat.le_refl _)
  have e0 : zfil o 10 0 k = 0 := if_pos (by omega)
  dsimp only at h
  rw [e0, Int.zero_add] at h
  unfold cQ
  rw [h]
  have p1 : ∀ a b, a < gN g → b < gN g → (if a < b then sm (gN g) (fun c => if b < c then (if 1 ≤ sExc g a b c then (if k = a then (1 : Int) else 0) + (if k = b then 1 else 0) + (if k = c then 1 else 0) else 0) else 0) else 0) = (if a = k then sm (gN g) (fun c => if k < b ∧ b < c then iv g k b c else 0) else 0) + ((if b = k then sm (gN g) (fun c => if a < k ∧ k < c then iv g a k c else 0) else 0) + (if a < b ∧ b < k then iv g a b k else 0)) := by
    intro a b ha hb
    by_cases c1 : a < b
    · rw [if_pos c1]
      have e1 : sm (gN g) (fun c => if b < c then (if 1 ≤ sExc g a b c then (if k = a then (1 : Int) else 0) + (if k = b then 1 else 0) + (if k = c then 1 else 0) else 0) else 0) = sm (gN g) (fun c => (if a = k then (if k < b ∧ b < c then iv g k b c else 0) else 0) + ((if b = k then (if a < k ∧ k < c then iv g a k c else 0) else 0) + (if c = k then (if a < b ∧ b < c then iv g a b c else 0) else 0))) := sm_congr (fun c hc => by
        unfold iv
        by_cases ka : a = k
        · subst ka
          omega
        · by_cases kb : b = k
          · subst kb
            omega
          · omega)
      rw [e1, sm_add, sm_add, sm_pick hk (fun c => if a < b ∧ b < c then iv g a b c else 0)]
      congr 1
      · split
        · rfl
        · exact sm_zero (fun _ _ => rfl)
      · congr 1
        split
        · rfl
        · exact sm_zero (fun _ _ => rfl)
    · rw [if_neg c1, if_neg (c := a < b ∧ b < k) (by omega)]
      have z1 : (if a = k then sm (gN g) (fun c => if k < b ∧ b < c then iv g k b c else 0) else 0) = 0 := by
        split
        · exact sm_zero (fun c _ => if_neg (by omega))
        · rfl
      have z2 : (if b = k then sm (gN g) (fun c => if a < k ∧ k < c then iv g a k c else 0) else 0) = 0 := by
        split
        · exact sm_zero (fun c _ => if_neg (by omega))
        · rfl
      rw [z1, z2]; rfl
  have p2 : sm (gN g) (fun a => sm (gN g) (fun b => if a < b then sm (gN g) (fun c => if b < c then (if 1 ≤ sExc g a b c then (if k = a then (1 : Int) else 0) + (if k = b then 1 else 0) + (if k = c then 1 else 0) else 0) else 0) else 0)) = sm (gN g) (fun b => sm (gN g) (fun c => if k < b ∧ b < c then iv g k b c else 0)) + (sm (gN g) (fun a => sm (gN g) (fun c => if a < k ∧ k < c then iv g a k c else 0)) + sm (gN g) (fun a => sm (gN g) (fun b => if a < b ∧ b < k then iv g a b k else 0))) := by
    rw [sm_congr (fun a ha => (sm_congr (fun b hb => p1 a b ha hb)).trans ((sm_add _ _ _).trans (congrArg _ (sm_add _ _ _)))), sm_add, sm_add]
    congr 1
    · rw [sm_congr (f2 := fun a => if a = k then sm (gN g) (fun b => sm (gN g) (fun c => if k < b ∧ b < c then iv g k b c else 0)) else 0) (fun a _ => by
        by_cases q : a = k
        · rw [if_pos q]; exact sm_congr (fun b _ => if_pos q)
        · rw [if_neg q]; exact sm_zero (fun b _ => if_neg q))]
      exact sm_pick hk (fun _ => sm (gN g) (fun b => sm (gN g) (fun c => if k < b ∧ b < c then iv g k b c else 0)))
    · congr 1
      exact sm_congr (fun a _ => sm_pick hk (fun _ => sm (gN g) (fun c => if a < k ∧ k < c then iv g a k c else 0)))
  rw [p2]
  unfold sVa sVb
  rw [← sm_add, ← sm_add]
  refine sm_congr (fun b hb => ?_)
  rw [← sm_add, ← sm_add]
  refine sm_congr (fun c hc => ?_)
  have s1 := (sw k b c hk hb hc).1
  have s2 := (sw k b c hk hb hc).2
  have s3 := (sw b c k hb hc hk).2
  unfold sVc iv
  rw [s3, ← s1]
  omega
theorem sVa_bd {g : Nat → Nat → Int} {k n : Nat} (hn : n ≤ 10) : 0 ≤ sVa g k n n ∧ sVa g k n n ≤ 100 := by
  have h1 : ∀ b, 0 ≤ sVb g k b n ∧ sVb g k b n ≤ 10 := fun b => by
    have := sm_bd (n := n) (f := fun c => sVc g k b c) (c := 1) (fun i _ => by unfold sVc; split <;> omega)
    unfold sVb
    omega
  have := sm_bd (n := n) (f := fun b => sVb g k b n) (c := 10) (fun i _ => h1 i)
  unfold sVa
  omega
/-- all nodes' triangles -/
def sVs (g : Nat → Nat → Int) (n i : Nat) : Int := sm i (fun k => sVa g k n n)
theorem cQ_5 {g : Nat → Nat → Int} {r : Int} (hg : gB g r) (w o : Nat → Int) : (sVs g (gN g) (gN g)).tdiv 3 = (cQ g w o).1 5 ∧ 0 ≤ sVs g (gN g) (gN g) ∧ sVs g (gN g) (gN g) ≤ 1000 ∧ sVs g (gN g) (gN g) = 3 * (cQ g w o).1 5 := by
  have hN := gN_eq hg
  have h1 := cQ_sum (g := g) w o hN.2.2
  rw [sm_congr (fun k hk => cQ_o hg w o hk)] at h1
  have h2 := sm_bd (n := gN g) (f := fun k => sVa g k (gN g) (gN g)) (c := 100) (fun i _ => sVa_bd hN.2.2)
  unfold sVs
  refine ⟨?_, by omega, by omega, h1⟩
  rw [Int.tdiv_eq_ediv_of_nonneg h2.1]
  omega
/-- the greatest excess, 0 for none -/
def xC (g : Nat → Nat → Int) (a b : Nat) (x : Int) : Nat → Int
  | 0 => x
  | k + 1 => if b < k then sMx (xC g a b x k) (sExc g a b k) else xC g a b x k
def xB (g : Nat → Nat → Int) (n a : Nat) (x : Int) : Nat → Int
  | 0 => x
  | k + 1 => if a < k then xC g a k (xB g n a x k) n else xB g n a x k
def xA (g : Nat → Nat → Int) (n : Nat) : Nat → Int
  | 0 => 0
  | k + 1 => xB g n k (xA g n k) n
theorem xC_0 (g : Nat → Nat → Int) (a b : Nat) (x : Int) : ∀ k, k ≤ b + 1 → xC g a b x k = x := by
  intro k
  induction k with
  | zero => exact fun _ => rfl
  | succ k ih =>
    intro h
    unfold xC
    rw [if_neg (by omega)]
    exact ih (by omega)
theorem xB_0 (g : Nat → Nat → Int) (n a : Nat) (x : Int) : ∀ k, k ≤ a + 1 → xB g n a x k = x := by
  intro k
  induction k with
  | zero => exact fun _ => rfl
  | succ k ih =>
    intro h
    unfold xB
    rw [if_neg (by omega)]
    exact ih (by omega)
def xq (x : Int) (q : (Nat → Int) × (Nat → Int)) : Prop := (0 ≤ x ∧ x ≤ 40000) ∧ q.1 6 = if x = 0 then -1000005 else x
theorem xq_s {g : Nat → Nat → Int} {r : Int} (hg : gB g r) {a b c : Nat} (ha : a < 10) (hb : b < 10) (hc : c < 10) {x : Int} {q : (Nat → Int) × (Nat → Int)} (h : xq x q) : xq (sMx x (sExc g a b c)) (tS g a b c q) := by
  have h1 := sExc_bd hg ha hb hc
  obtain ⟨h2, h3⟩ := h
  refine ⟨sMx_bd h2 h1.2.2, ?_⟩
  unfold tS tW
  dsimp only
  by_cases t : 1 ≤ g 6 (10 * a + b) ∧ 1 ≤ g 6 (10 * b + c) ∧ 1 ≤ g 6 (10 * a + c)
  · rw [if_pos t]
    have e : sExc g a b c = sMx 0 (sOv g a b c) := if_pos t
    by_cases v : 1 ≤ sOv g a b c
    · have e2 : sExc g a b c = sOv g a b c := by rw [e]; exact if_pos (by omega)
      rw [if_pos v, zset_at, h3, e2]
      unfold sMx
      omega
    · have e2 : sExc g a b c = 0 := by
        rw [e]
        unfold sMx
        split <;> omega
      rw [if_neg v, zset_ne (by decide), h3, e2, show sMx x 0 = x from if_neg (by omega)]
  · have e : sExc g a b c = 0 := if_neg t
    rw [if_neg t, h3, e, show sMx x 0 = x from if_neg (by omega)]
theorem xC_q {g : Nat → Nat → Int} {r : Int} (hg : gB g r) {a b : Nat} (ha : a < 10) (hb : b < 10) {x : Int} {q : (Nat → Int) × (Nat → Int)} (h : xq x q) : ∀ k, k ≤ 10 → xq (xC g a b x k) (cC g a b q k) := by
  intro k
  induction k with
  | zero => exact fun _ => h
  | succ k ih =>
    intro hk
    unfold xC cC
    by_cases c : b < k
    · rw [if_pos c, if_pos c]
      exact xq_s hg ha hb (by omega) (ih (by omega))
    · rw [if_neg c, if_neg c]
      exact ih (by omega)
theorem xB_q {g : Nat → Nat → Int} {r : Int} (hg : gB g r) {n a : Nat} (hn : n ≤ 10) (ha : a < 10) {x : Int} {q : (Nat → Int) × (Nat → Int)} (h : xq x q) : ∀ k, k ≤ 10 → xq (xB g n a x k) (cB g n a q k) := by
  intro k
  induction k with
  | zero => exact fun _ => h
  | succ k ih =>
    intro hk
    unfold xB cB
    by_cases c : a < k
    · rw [if_pos c, if_pos c]
      exact xC_q hg ha (by omega) (ih (by omega)) n hn
    · rw [if_neg c, if_neg c]
      exact ih (by omega)
theorem xA_q {g : Nat → Nat → Int} {r : Int} (hg : gB g r) {n : Nat} (hn : n ≤ 10) {q : (Nat → Int) × (Nat → Int)} (h : xq 0 q) : ∀ k, k ≤ 10 → xq (xA g n k) (cA g n q k) := by
  intro k
  induction k with
  | zero => exact fun _ => h
  | succ k ih =>
    intro hk
    unfold xA cA
    exact xB_q hg hn (by omega) (ih (by omega)) n hn
theorem cQ_6 {g : Nat → Nat → Int} {r : Int} (hg : gB g r) (w o : Nat → Int) : (if xA g (gN g) (gN g) = 0 then -1000005 else xA g (gN g) (gN g)) = (cQ g w o).1 6 := by
  have hN := gN_eq hg
  exact (xA_q hg hN.2.2 (q := (zset (zset (zset w 4 0) 5 0) 6 (-1000005), zfil o 10 0)) ⟨by omega, rfl⟩ (gN g) hN.2.2).2.symm
/-- the first node that is most often met, the one way and the other -/
def sSb (o : Nat → Int) : Nat → Nat
  | 0 => 0
  | k + 1 => if o (sSb o k) < o k then k else sSb o k
def sCs (g : Nat → Nat → Int) (n : Nat) : Nat → Int × Int
  | 0 => (-1000005, 0)
  | k + 1 => if (sCs g n k).2 < sVa g k n n then ((k : Int), sVa g k n n) else sCs g n k
theorem sSb_lt (o : Nat → Int) : ∀ k, sSb o (k + 1) < k + 1 := by
  intro k
  induction k with
  | zero =>
    show (if o 0 < o 0 then 0 else 0) < 0 + 1
    split <;> omega
  | succ k ih =>
    show (if o (sSb o (k + 1)) < o (k + 1) then k + 1 else sSb o (k + 1)) < k + 1 + 1
    split <;> omega
theorem sCs_bd {g : Nat → Nat → Int} {n : Nat} (hn : n ≤ 10) : ∀ k, 0 ≤ (sCs g n k).2 ∧ (sCs g n k).2 ≤ 100 := by
  intro k
  induction k with
  | zero => unfold sCs; omega
  | succ k ih =>
    have := sVa_bd (g := g) (k := k) hn
    unfold sCs
    split
    · exact this
    · exact ih
theorem sus_k {g : Nat → Nat → Int} {n : Nat} (hn : n ≤ 10) {o : Nat → Int} (ho : ∀ k, k < n → o k = sVa g k n n) : ∀ k, k + 1 ≤ n → ((∀ j, j < k + 1 → sVa g j n n = 0) ∧ sCs g n (k + 1) = (-1000005, 0)) ∨ (0 < sVa g (sSb o (k + 1)) n n ∧ sCs g n (k + 1) = ((sSb o (k + 1) : Int), sVa g (sSb o (k + 1)) n n)) := by
  intro k
  induction k with
  | zero =>
    intro hk
    have e : sSb o 1 = 0 := by
      unfold sSb
      exact if_neg (Int.lt_irrefl _)
    have hb := sVa_bd (g := g) (k := 0) hn
    rw [show (0 : Nat) + 1 = 1 from rfl, e, show sCs g n 1 = (if (0 : Int) < sVa g 0 n n then (((0 : Nat) : Int), sVa g 0 n n) else (-1000005, 0)) from rfl]
    by_cases c : 0 < sVa g 0 n n
    · exact Or.inr ⟨c, if_pos c⟩
    · refine Or.inl ⟨fun j hj => ?_, if_neg c⟩
      rw [show j = 0 by omega]
      omega
  | succ k ih =>
    intro hk
    have hl := sSb_lt o k
    have hb := sVa_bd (g := g) (k := k + 1) hn
    rw [show sCs g n (k + 1 + 1) = (if (sCs g n (k + 1)).2 < sVa g (k + 1) n n then (((k + 1 : Nat) : Int), sVa g (k + 1) n n) else sCs g n (k + 1)) from rfl, show sSb o (k + 1 + 1) = (if o (sSb o (k + 1)) < o (k + 1) then k + 1 else sSb o (k + 1)) from rfl, ho (sSb o (k + 1)) (by omega), ho (k + 1) (by omega)]
    rcases ih (by omega) with ⟨h1, h2⟩ | ⟨h1, h2⟩
    · rw [h2, h1 _ hl]
      by_cases c : 0 < sVa g (k + 1) n n
      · rw [if_pos c, if_pos c]
        exact Or.inr ⟨c, rfl⟩
      · rw [if_neg c, if_neg c]
        refine Or.inl ⟨fun j hj => ?_, rfl⟩
        by_cases q : j < k + 1
        · exact h1 j q
        · rw [show j = k + 1 by omega]
          omega
    · rw [h2]
      by_cases c : sVa g (sSb o (k + 1)) n n < sVa g (k + 1) n n
      · rw [if_pos c, if_pos c]
        exact Or.inr ⟨by omega, rfl⟩
      · rw [if_neg c, if_neg c]
        exact Or.inr ⟨h1, rfl⟩
def aSusM (g : Nat → Nat → Int) (w o : Nat → Int) : Int := if (cQ g w o).1 5 = 0 then -1000005 else ((sSb (cQ g w o).2 (gN g) : Nat) : Int)
theorem aSus_eq {g : Nat → Nat → Int} {r : Int} (hg : gB g r) (w o : Nat → Int) : (sCs g (gN g) (gN g)).1 = aSusM g w o := by
  have hN := gN_eq hg
  have h5 := (cQ_5 hg w o).2.2.2
  have hs := sus_k (g := g) (n := gN g) hN.2.2 (o := (cQ g w o).2) (fun k hk => cQ_o hg w o hk) (gN g - 1) (by omega)
  rw [show gN g - 1 + 1 = gN g by omega] at hs
  unfold aSusM
  rcases hs with ⟨h1, h2⟩ | ⟨h1, h2⟩
  · have e : sVs g (gN g) (gN g) = 0 := sm_zero (fun k hk => h1 k hk)
    rw [h2, if_pos (by omega)]
  · have hl := sSb_lt (cQ g w o).2 (gN g - 1)
    rw [show gN g - 1 + 1 = gN g by omega] at hl
    have := sm_ge (n := gN g) (f := fun k => sVa g k (gN g) (gN g)) (fun i _ => (sVa_bd hN.2.2).1) hl
    rw [h2, if_neg (by unfold sVs at h5; omega)]
