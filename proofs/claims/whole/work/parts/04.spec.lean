/-! OWN ROWS: what is computed, over integers -/
def sqB (v : Int) : Nat → Int → Int
  | 0, r => r
  | k + 1, r => sqB v k (if (r + 2 ^ k) * (r + 2 ^ k) ≤ v then r + 2 ^ k else r)
def sqr (v : Int) : Int := sqB v 19 0
theorem sq_self {a b : Int} (h0 : 0 ≤ a) (h : a ≤ b) : a * a ≤ b * b := Int.mul_le_mul h h h0 (by omega)
theorem sqB_spec (v : Int) : ∀ (k : Nat) (r : Int), 0 ≤ r → r * r ≤ v → v < (r + 2 ^ k) * (r + 2 ^ k) → 0 ≤ sqB v k r ∧ sqB v k r * sqB v k r ≤ v ∧ v < (sqB v k r + 1) * (sqB v k r + 1) := by
  intro k
  induction k with
  | zero =>
    intro r h0 h1 h2
    exact ⟨h0, h1, h2⟩
  | succ k ih =>
    intro r h0 h1 h2
    have hp : (0 : Int) < 2 ^ k := Int.pow_pos (by decide)
    have he : (2 : Int) ^ (k + 1) = 2 ^ k * 2 := Int.pow_succ 2 k
    generalize hP : (2 : Int) ^ k = P at *
    unfold sqB
    rw [hP]
    split
    · rename_i hc
      refine ih _ (by omega) hc ?_
      rw [he] at h2
      rw [show r + P + P = r + P * 2 by omega]
      exact h2
    · rename_i hc
      exact ih _ h0 h1 (by omega)
theorem sq_one {v a b : Int} (a0 : 0 ≤ a) (a1 : a * a ≤ v) (a2 : v < (a + 1) * (a + 1)) (b0 : 0 ≤ b) (b1 : b * b ≤ v) (b2 : v < (b + 1) * (b + 1)) : a = b := by
  rcases Int.lt_trichotomy a b with h | h | h
  · have := sq_self (a := a + 1) (b := b) (by omega) (by omega)
    omega
  · exact h
  · have := sq_self (a := b + 1) (b := a) (by omega) (by omega)
    omega
theorem sqr_spec {v : Int} (h0 : 0 ≤ v) (h1 : v < 274877906944) : 0 ≤ sqr v ∧ sqr v * sqr v ≤ v ∧ v < (sqr v + 1) * (sqr v + 1) := sqB_spec v 19 0 (by decide) (by omega) (by
  show v < (0 + 2 ^ 19) * (0 + 2 ^ 19)
  omega)
theorem sqr_le {v c : Int} (h0 : 0 ≤ v) (h1 : v < 274877906944) (hc : 0 ≤ c) (h : v < (c + 1) * (c + 1)) : 0 ≤ sqr v ∧ sqr v ≤ c := by
  obtain ⟨a, b, -⟩ := sqr_spec h0 h1
  refine ⟨a, ?_⟩
  rcases Int.lt_or_le c (sqr v) with q | q
  · have := sq_self (a := c + 1) (b := sqr v) (by omega) (by omega)
    omega
  · exact q
theorem z_mul {a b A B : Int} (ha : -A ≤ a ∧ a ≤ A) (hb : -B ≤ b ∧ b ≤ B) : -(A * B) ≤ a * b ∧ a * b ≤ A * B := by
  have h1 := Int.mul_nonneg (show 0 ≤ A - a by omega) (show 0 ≤ B + b by omega)
  have h2 := Int.mul_nonneg (show 0 ≤ A + a by omega) (show 0 ≤ B - b by omega)
  have h3 := Int.mul_nonneg (show 0 ≤ A - a by omega) (show 0 ≤ B - b by omega)
  have h4 := Int.mul_nonneg (show 0 ≤ A + a by omega) (show 0 ≤ B + b by omega)
  simp only [Int.sub_mul, Int.add_mul, Int.mul_add, Int.mul_sub] at h1 h2 h3 h4
  omega
theorem z_mul0 {a b A B : Int} (ha : 0 ≤ a ∧ a ≤ A) (hb : 0 ≤ b ∧ b ≤ B) : 0 ≤ a * b ∧ a * b ≤ A * B :=
  ⟨Int.mul_nonneg ha.1 hb.1, Int.mul_le_mul ha.2 hb.2 hb.1 (by omega)⟩
theorem z_tdiv0 {a b c : Int} (ha : 0 ≤ a) (hb : 1 ≤ b) (h : a ≤ c * b) : 0 ≤ a.tdiv b ∧ a.tdiv b ≤ c := by
  rw [Int.tdiv_eq_ediv_of_nonneg ha]
  exact ⟨Int.ediv_nonneg ha (by omega), Int.ediv_le_of_le_mul (by omega) h⟩
theorem z_tdivs {a b : Int} (ha : 0 ≤ a) (hb : 1 ≤ b) : 0 ≤ a.tdiv b ∧ a.tdiv b ≤ a := z_tdiv0 ha hb (by
  have := Int.mul_le_mul_of_nonneg_left hb ha
  omega)
theorem z_tdiv {a b A : Int} (ha : -A ≤ a ∧ a ≤ A) (hb : 1 ≤ b) : -A ≤ a.tdiv b ∧ a.tdiv b ≤ A := by
  rcases Int.lt_or_le a 0 with h | h
  · have := z_tdivs (a := -a) (b := b) (by omega) hb
    rw [Int.neg_tdiv] at this
    omega
  · have := z_tdivs h hb
    omega
def sDst (g : Nat → Nat → Int) (a b : Nat) : Int := sqr ((g 1 a - g 1 b) * (g 1 a - g 1 b) + (g 2 a - g 2 b) * (g 2 a - g 2 b))
def sPrd (g : Nat → Nat → Int) (a b : Nat) : Int := sDst g a b + g 3 a + g 3 b
def sSmp (g : Nat → Nat → Int) (a b : Nat) : Int := g 6 (10 * a + b) + g 5 b
def sWgt (g : Nat → Nat → Int) (a b : Nat) : Int := (1000 * g 4 a).tdiv (g 4 a + g 4 b)
def sVe (g : Nat → Nat → Int) (a b : Nat) : Int := (g 0 2 * sWgt g a b).tdiv 1000
def sVm (g : Nat → Nat → Int) (a b : Nat) : Int := (g 0 3 * sWgt g a b).tdiv 1000
def sAbs (z : Int) : Int := if z < 0 then -z else z
def sLim (v lo hi : Int) : Int := if v < lo then lo else if hi < v then hi else v
def sEs (g : Nat → Nat → Int) (a b : Nat) (d : Int) : Int := if 1000 < (1000 * sAbs (d - sSmp g a b)).tdiv (sSmp g a b) then 1000 else (1000 * sAbs (d - sSmp g a b)).tdiv (sSmp g a b)
def sErr (g : Nat → Nat → Int) (a b : Nat) (d : Int) : Int := if (sEs g a b d * sVe g a b + g 4 a * (1000 - sVe g a b)).tdiv 1000 < 1 then 1 else (sEs g a b d * sVe g a b + g 4 a * (1000 - sVe g a b)).tdiv 1000
def sStp (g : Nat → Nat → Int) (a b : Nat) (d : Int) : Int := sLim (((sSmp g a b - d) * sVm g a b).tdiv 1000) (-(g 0 4)) (g 0 4)
def sX (g : Nat → Nat → Int) (a b : Nat) (st d : Int) : Int := sLim (g 1 a + (if d = 0 then st else (st * (g 1 a - g 1 b)).tdiv d)) (-100000) 100000
def sY (g : Nat → Nat → Int) (a b : Nat) (st d : Int) : Int := sLim (g 2 a + (if d = 0 then 0 else (st * (g 2 a - g 2 b)).tdiv d)) (-100000) 100000
def sH (g : Nat → Nat → Int) (a b : Nat) (st d : Int) : Int := sLim (g 3 a + (if d = 0 then 0 else (st * (g 3 a + g 3 b)).tdiv d)) 0 100000
def sSet (g : Nat → Nat → Int) (a : Nat) (x y h e : Int) : Nat → Nat → Int := gset (gset (gset (gset g 1 a x) 2 a y) 3 a h) 4 a e
def sUpd (g : Nat → Nat → Int) (a b : Nat) : Nat → Nat → Int := sSet g a (sX g a b (sStp g a b (sPrd g a b)) (sPrd g a b)) (sY g a b (sStp g a b (sPrd g a b)) (sPrd g a b)) (sH g a b (sStp g a b (sPrd g a b)) (sPrd g a b)) (sErr g a b (sPrd g a b))
def sRel (g : Nat → Nat → Int) (a b : Nat) : Int := (1000 * sAbs (sPrd g a b - g 6 (10 * a + b))).tdiv (g 6 (10 * a + b))
def gN (g : Nat → Nat → Int) : Nat := (g 0 0).toNat
/-- the ranges of the document; r bounds the round counter -/
def gB (g : Nat → Nat → Int) (r : Int) : Prop :=
  (2 ≤ g 0 0 ∧ g 0 0 ≤ 10 ∧ 0 ≤ g 0 1 ∧ g 0 1 ≤ r ∧ 1 ≤ g 0 2 ∧ g 0 2 ≤ 1000 ∧ 1 ≤ g 0 3 ∧ g 0 3 ≤ 1000 ∧ 1 ≤ g 0 4 ∧ g 0 4 ≤ 20000) ∧
  (∀ k, k < 10 → -100000 ≤ g 1 k ∧ g 1 k ≤ 100000 ∧ -100000 ≤ g 2 k ∧ g 2 k ≤ 100000 ∧ 0 ≤ g 3 k ∧ g 3 k ≤ 100000 ∧ 1 ≤ g 4 k ∧ g 4 k ≤ 1000 ∧ 0 ≤ g 5 k ∧ g 5 k ≤ 20000) ∧
  (∀ i j, i < 10 → j < 10 → 0 ≤ g 6 (10 * i + j) ∧ g 6 (10 * i + j) ≤ 20000 ∧ g 6 (10 * i + j) = g 6 (10 * j + i))
theorem gN_eq {g : Nat → Nat → Int} {r : Int} (h : gB g r) : g 0 0 = (gN g : Int) ∧ 2 ≤ gN g ∧ gN g ≤ 10 := by
  have := h.1
  unfold gN
  omega
section SB
variable {g : Nat → Nat → Int} {r : Int} {a b : Nat}
theorem sDst_bd (h : gB g r) (ha : a < 10) (hb : b < 10) : 0 ≤ sDst g a b ∧ sDst g a b ≤ 282842 := by
  have h1 := h.2.1 a ha
  have h2 := h.2.1 b hb
  have m1 := z_mul (a := g 1 a - g 1 b) (b := g 1 a - g 1 b) (A := 200000) (B := 200000) (by omega) (by omega)
  have m2 := z_mul (a := g 2 a - g 2 b) (b := g 2 a - g 2 b) (A := 200000) (B := 200000) (by omega) (by omega)
  have p1 : 0 ≤ (g 1 a - g 1 b) * (g 1 a - g 1 b) := by
    rcases Int.le_total 0 (g 1 a - g 1 b) with q | q
    · exact Int.mul_nonneg q q
    · exact Int.mul_nonneg_of_nonpos_of_nonpos q q
  have p2 : 0 ≤ (g 2 a - g 2 b) * (g 2 a - g 2 b) := by
    rcases Int.le_total 0 (g 2 a - g 2 b) with q | q
    · exact Int.mul_nonneg q q
    · exact Int.mul_nonneg_of_nonpos_of_nonpos q q
  unfold sDst
  exact sqr_le (by omega) (by omega) (by decide) (by omega)
theorem sPrd_bd (h : gB g r) (ha : a < 10) (hb : b < 10) : 0 ≤ sPrd g a b ∧ sPrd g a b ≤ 482842 := by
  have h1 := h.2.1 a ha
  have h2 := h.2.1 b hb
  have h3 := sDst_bd h ha hb
  unfold sPrd
  omega
theorem sSmp_bd (h : gB g r) (ha : a < 10) (hb : b < 10) : g 6 (10 * a + b) ≤ sSmp g a b ∧ sSmp g a b ≤ 40000 := by
  have h2 := h.2.1 b hb
  have h3 := h.2.2 a b ha hb
  unfold sSmp
  omega
theorem sWgt_bd (h : gB g r) (ha : a < 10) (hb : b < 10) : 0 ≤ sWgt g a b ∧ sWgt g a b ≤ 1000 := by
  have h1 := h.2.1 a ha
  have h2 := h.2.1 b hb
  exact z_tdiv0 (by omega) (by omega) (by omega)
theorem sVe_bd (h : gB g r) (ha : a < 10) (hb : b < 10) : 0 ≤ sVe g a b ∧ sVe g a b ≤ 1000 := by
  have h1 := h.1
  have h3 := z_mul0 (a := g 0 2) (b := sWgt g a b) (A := 1000) (B := 1000) (by omega) (sWgt_bd h ha hb)
  exact z_tdiv0 (by omega) (by omega) (by omega)
theorem sVm_bd (h : gB g r) (ha : a < 10) (hb : b < 10) : 0 ≤ sVm g a b ∧ sVm g a b ≤ 1000 := by
  have h1 := h.1
  have h3 := z_mul0 (a := g 0 3) (b := sWgt g a b) (A := 1000) (B := 1000) (by omega) (sWgt_bd h ha hb)
  exact z_tdiv0 (by omega) (by omega) (by omega)
theorem sAbs_bd {z A : Int} (h : -A ≤ z ∧ z ≤ A) : 0 ≤ sAbs z ∧ sAbs z ≤ A := by
  unfold sAbs
  split <;> omega
theorem sEs_bd {d : Int} (h : gB g r) (ha : a < 10) (hb : b < 10) (hk : 1 ≤ g 6 (10 * a + b)) (hd : 0 ≤ d ∧ d ≤ 482842) : 0 ≤ (1000 * sAbs (d - sSmp g a b)).tdiv (sSmp g a b) ∧ (1000 * sAbs (d - sSmp g a b)).tdiv (sSmp g a b) ≤ 482842000 ∧ 0 ≤ sEs g a b d ∧ sEs g a b d ≤ 1000 := by
  have h1 := sSmp_bd h ha hb
  have h2 := sAbs_bd (z := d - sSmp g a b) (A := 482842) (by omega)
  have h3 := z_tdivs (a := 1000 * sAbs (d - sSmp g a b)) (b := sSmp g a b) (by omega) (by omega)
  unfold sEs
  split <;> omega
theorem sErr_bd {d : Int} (h : gB g r) (ha : a < 10) (hb : b < 10) (hk : 1 ≤ g 6 (10 * a + b)) (hd : 0 ≤ d ∧ d ≤ 482842) : (0 ≤ sEs g a b d * sVe g a b ∧ sEs g a b d * sVe g a b ≤ 1000000) ∧ (0 ≤ g 4 a * (1000 - sVe g a b) ∧ g 4 a * (1000 - sVe g a b) ≤ 1000000) ∧ (0 ≤ (sEs g a b d * sVe g a b + g 4 a * (1000 - sVe g a b)).tdiv 1000 ∧ (sEs g a b d * sVe g a b + g 4 a * (1000 - sVe g a b)).tdiv 1000 ≤ 1000) ∧ 1 ≤ sErr g a b d ∧ sErr g a b d ≤ 1000 := by
  have h1 := h.2.1 a ha
  have hv := sVe_bd h ha hb
  have he := (sEs_bd h ha hb hk hd).2.2
  have m1 := z_mul0 (a := sEs g a b d) (b := sVe g a b) (A := 1000) (B := sVe g a b) he ⟨hv.1, Int.le_refl _⟩
  have m2 := z_mul0 (a := g 4 a) (b := 1000 - sVe g a b) (A := 1000) (B := 1000 - sVe g a b) (by omega) ⟨by omega, Int.le_refl _⟩
  have h4 := z_tdiv0 (a := sEs g a b d * sVe g a b + g 4 a * (1000 - sVe g a b)) (b := 1000) (c := 1000) (by omega) (by omega) (by omega)
  refine ⟨by omega, by omega, h4, ?_⟩
  unfold sErr
  split <;> omega
theorem sLim_bd {v lo hi : Int} (h : lo ≤ hi) : lo ≤ sLim v lo hi ∧ sLim v lo hi ≤ hi := by
  unfold sLim
  repeat' split
  all_goals omega
theorem sStp_bd {d : Int} (h : gB g r) (ha : a < 10) (hb : b < 10) (hd : 0 ≤ d ∧ d ≤ 482842) : (-482842000 ≤ (sSmp g a b - d) * sVm g a b ∧ (sSmp g a b - d) * sVm g a b ≤ 482842000) ∧ (-482842000 ≤ ((sSmp g a b - d) * sVm g a b).tdiv 1000 ∧ ((sSmp g a b - d) * sVm g a b).tdiv 1000 ≤ 482842000) ∧ -20000 ≤ sStp g a b d ∧ sStp g a b d ≤ 20000 := by
  have h1 := h.1
  have h2 := h.2.2 a b ha hb
  have h3 := sSmp_bd h ha hb
  have hv := sVm_bd h ha hb
  have m1 := z_mul (a := sSmp g a b - d) (b := sVm g a b) (A := 482842) (B := 1000) (by omega) (by omega)
  have m2 := z_tdiv (A := 482842000) (b := 1000) m1 (by omega)
  have m3 := sLim_bd (v := ((sSmp g a b - d) * sVm g a b).tdiv 1000) (lo := -(g 0 4)) (hi := g 0 4) (by omega)
  unfold sStp
  omega
theorem sRel_bd (h : gB g r) (ha : a < 10) (hb : b < 10) (hk : 1 ≤ g 6 (10 * a + b)) : 0 ≤ sRel g a b ∧ sRel g a b ≤ 482842000 := by
  have h1 := sPrd_bd h ha hb
  have h3 := h.2.2 a b ha hb
  have h2 := sAbs_bd (z := sPrd g a b - g 6 (10 * a + b)) (A := 482842) (by omega)
  have h3 := z_tdivs (a := 1000 * sAbs (sPrd g a b - g 6 (10 * a + b))) (b := g 6 (10 * a + b)) (by omega) (by omega)
  unfold sRel
  omega
end SB
