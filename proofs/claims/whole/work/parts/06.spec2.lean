/-! OWN ROWS: sums, ranks, triangles, rounds -/
def sm : Nat → (Nat → Int) → Int
  | 0, _ => 0
  | k + 1, f => sm k f + f k
theorem sm_succ (k : Nat) (f : Nat → Int) : sm (k + 1) f = sm k f + f k := rfl
theorem sm_0 (f : Nat → Int) : sm 0 f = 0 := rfl
theorem sm_congr {n : Nat} {f f2 : Nat → Int} (h : ∀ i, i < n → f i = f2 i) : sm n f = sm n f2 := by
  induction n with
  | zero => rfl
  | succ n ih => rw [sm_succ, sm_succ, ih (fun i hi => h i (by omega)), h n (by omega)]
theorem sm_zero {n : Nat} {f : Nat → Int} (h : ∀ i, i < n → f i = 0) : sm n f = 0 := by
  induction n with
  | zero => rfl
  | succ n ih => rw [sm_succ, ih (fun i hi => h i (by omega)), h n (by omega)]; rfl
theorem sm_bd {n : Nat} {f : Nat → Int} {c : Int} (h : ∀ i, i < n → 0 ≤ f i ∧ f i ≤ c) : 0 ≤ sm n f ∧ sm n f ≤ n * c := by
  induction n with
  | zero => rw [sm_0]; omega
  | succ n ih =>
    have h1 := ih (fun i hi => h i (by omega))
    have h2 := h n (by omega)
    rw [sm_succ]
    have e : ((n + 1 : Nat) : Int) * c = n * c + c := by
      rw [Int.natCast_succ, Int.add_mul, Int.one_mul]
    omega
def sRk (g : Nat → Nat → Int) (a b k : Nat) : Int := sm k (fun q => if q ≠ a ∧ q ≠ b ∧ (sPrd g a q < sPrd g a b ∨ sPrd g a q = sPrd g a b ∧ q < b) then 1 else 0)
def sTri (g : Nat → Nat → Int) (a b c : Nat) : Prop := 1 ≤ g 6 (10 * a + b) ∧ 1 ≤ g 6 (10 * b + c) ∧ 1 ≤ g 6 (10 * a + c)
def sMx (a b : Int) : Int := if a < b then b else a
def sG3 (g : Nat → Nat → Int) (a b c : Nat) : Int := sMx (g 6 (10 * a + b)) (sMx (g 6 (10 * b + c)) (g 6 (10 * a + c)))
def sOv (g : Nat → Nat → Int) (a b c : Nat) : Int := sG3 g a b c - (g 6 (10 * a + b) + g 6 (10 * b + c) + g 6 (10 * a + c) - sG3 g a b c)
def sExc (g : Nat → Nat → Int) (a b c : Nat) : Int := if 1 ≤ g 6 (10 * a + b) ∧ 1 ≤ g 6 (10 * b + c) ∧ 1 ≤ g 6 (10 * a + c) then sMx 0 (sOv g a b c) else 0
theorem sMx_bd {a b c : Int} (ha : 0 ≤ a ∧ a ≤ c) (hb : 0 ≤ b ∧ b ≤ c) : 0 ≤ sMx a b ∧ sMx a b ≤ c := by
  unfold sMx
  split <;> omega
theorem sExc_bd {g : Nat → Nat → Int} {r : Int} (hg : gB g r) {a b c : Nat} (ha : a < 10) (hb : b < 10) (hc : c < 10) : (0 ≤ sG3 g a b c ∧ sG3 g a b c ≤ 20000) ∧ (-60000 ≤ sOv g a b c ∧ sOv g a b c ≤ 40000) ∧ 0 ≤ sExc g a b c ∧ sExc g a b c ≤ 40000 := by
  have h1 := hg.2.2 a b ha hb
  have h2 := hg.2.2 b c hb hc
  have h3 := hg.2.2 a c ha hc
  have h4 : 0 ≤ sG3 g a b c ∧ sG3 g a b c ≤ 20000 := sMx_bd ⟨h1.1, h1.2.1⟩ (sMx_bd ⟨h2.1, h2.2.1⟩ ⟨h3.1, h3.2.1⟩)
  have h5 : -60000 ≤ sOv g a b c ∧ sOv g a b c ≤ 40000 := by
    unfold sOv
    omega
  refine ⟨h4, h5, ?_⟩
  unfold sExc
  split
  · unfold sMx
    split <;> omega
  · omega
/-- at how many violated triangles a node is: pairs b, c with b below i, and for b = i with c below j -/
def sVc (g : Nat → Nat → Int) (a b c : Nat) : Int := if b < c ∧ b ≠ a ∧ c ≠ a ∧ 1 ≤ sExc g a b c then 1 else 0
def sVb (g : Nat → Nat → Int) (a b j : Nat) : Int := sm j (fun c => sVc g a b c)
def sVa (g : Nat → Nat → Int) (a : Nat) (n i : Nat) : Int := sm i (fun b => sVb g a b n)
theorem sVb_0 (g : Nat → Nat → Int) (a b : Nat) : sVb g a b (b + 1) = 0 := sm_zero (fun c hc => by unfold sVc; exact if_neg (by omega))
def sB (n sh i : Nat) : Nat := if i + 1 + sh < n then i + 1 + sh else i + 1 + sh - n
theorem sB_bd {n sh i : Nat} (hi : i < n) (hs : sh + 1 < n) : sB n sh i < n ∧ sB n sh i ≠ i := by
  unfold sB
  split <;> omega
def sShf (g : Nat → Nat → Int) : Nat := (g 0 1 % (g 0 0 - 1)).toNat
def sRow (n sh : Nat) (g : Nat → Nat → Int) : Nat → Nat → Nat → Int
  | 0 => g
  | i + 1 => if 1 ≤ g 6 (10 * i + sB n sh i) then sUpd (sRow n sh g i) i (sB n sh i) else sRow n sh g i
def sCnt (n sh : Nat) (g : Nat → Nat → Int) (k : Nat) : Int := sm k (fun i => if 1 ≤ g 6 (10 * i + sB n sh i) then 1 else 0)
def sRnd (g : Nat → Nat → Int) : Nat → Nat → Int := gset (sRow (gN g) (sShf g) g (gN g)) 0 1 (g 0 1 + 1)
def sRndC (g : Nat → Nat → Int) : Int := sCnt (gN g) (sShf g) g (gN g)
def sRun (g : Nat → Nat → Int) : Nat → Nat → Nat → Int
  | 0 => g
  | k + 1 => sRnd (sRun g k)
def sRunC (g : Nat → Nat → Int) (k : Nat) : Int := sm k (fun i => sRndC (sRun g i))
theorem zset_at (f : Nat → Int) (i : Nat) (z : Int) : zset f i z i = z := if_pos rfl
theorem zset_ne {f : Nat → Int} {i k : Nat} {z : Int} (h : k ≠ i) : zset f i z k = f k := if_neg h
theorem zset_all {P : Int → Prop} {f : Nat → Int} {i k : Nat} {z : Int} (hz : P z) (hf : P (f k)) : P (zset f i z k) := by
  unfold zset
  split <;> assumption
theorem sSet_gB {g : Nat → Nat → Int} {r : Int} (hg : gB g r) {a : Nat} {x y h e : Int} (hx : -100000 ≤ x ∧ x ≤ 100000) (hy : -100000 ≤ y ∧ y ≤ 100000) (hh : 0 ≤ h ∧ h ≤ 100000) (he : 1 ≤ e ∧ e ≤ 1000) : gB (sSet g a x y h e) r := by
  refine ⟨hg.1, fun k hk => ?_, hg.2.2⟩
  have h1 := hg.2.1 k hk
  have z1 : -100000 ≤ zset (g 1) a x k ∧ zset (g 1) a x k ≤ 100000 := zset_all (P := fun z => -100000 ≤ z ∧ z ≤ 100000) hx ⟨h1.1, h1.2.1⟩
  have z2 : -100000 ≤ zset (g 2) a y k ∧ zset (g 2) a y k ≤ 100000 := zset_all (P := fun z => -100000 ≤ z ∧ z ≤ 100000) hy ⟨h1.2.2.1, h1.2.2.2.1⟩
  have z3 : 0 ≤ zset (g 3) a h k ∧ zset (g 3) a h k ≤ 100000 := zset_all (P := fun z => 0 ≤ z ∧ z ≤ 100000) hh ⟨h1.2.2.2.2.1, h1.2.2.2.2.2.1⟩
  have z4 : 1 ≤ zset (g 4) a e k ∧ zset (g 4) a e k ≤ 1000 := zset_all (P := fun z => 1 ≤ z ∧ z ≤ 1000) he ⟨h1.2.2.2.2.2.2.1, h1.2.2.2.2.2.2.2.1⟩
  exact ⟨z1.1, z1.2, z2.1, z2.2, z3.1, z3.2, z4.1, z4.2, h1.2.2.2.2.2.2.2.2⟩
theorem sUpd_gB {g : Nat → Nat → Int} {r : Int} (hg : gB g r) {a b : Nat} (ha : a < 10) (hb : b < 10) (hk : 1 ≤ g 6 (10 * a + b)) : gB (sUpd g a b) r :=
  sSet_gB hg (sLim_bd (by omega)) (sLim_bd (by omega)) (sLim_bd (by omega)) (sErr_bd hg ha hb hk (sPrd_bd hg ha hb)).2.2.2
theorem sRow_inv {g : Nat → Nat → Int} {r : Int} (hg : gB g r) {n sh : Nat} (hn : n ≤ 10) (hs : sh + 1 < n) : ∀ i, i ≤ n → gB (sRow n sh g i) r ∧ sRow n sh g i 0 = g 0 ∧ sRow n sh g i 5 = g 5 ∧ sRow n sh g i 6 = g 6 := by
  intro i
  induction i with
  | zero => exact fun _ => ⟨hg, rfl, rfl, rfl⟩
  | succ i ih =>
    intro hi
    obtain ⟨h1, h2, h3, h4⟩ := ih (by omega)
    have hb := sB_bd (n := n) (sh := sh) (i := i) (by omega) hs
    unfold sRow
    split
    · rename_i hk
      exact ⟨sUpd_gB h1 (by omega) (by omega) (by rw [h4]; exact hk), h2, h3, h4⟩
    · exact ⟨h1, h2, h3, h4⟩
theorem sShf_bd {g : Nat → Nat → Int} {r : Int} (hg : gB g r) : sShf g + 1 < gN g ∧ (sShf g : Int) = g 0 1 % (g 0 0 - 1) := by
  have h1 := hg.1
  have h2 := gN_eq hg
  have h3 := Int.emod_nonneg (g 0 1) (show g 0 0 - 1 ≠ 0 by omega)
  have h4 := Int.emod_lt_of_pos (g 0 1) (show 0 < g 0 0 - 1 by omega)
  unfold sShf
  omega
theorem sRnd_inv {g : Nat → Nat → Int} {r : Int} (hg : gB g r) : gB (sRnd g) (r + 1) := by
  have h2 := gN_eq hg
  have h3 := sShf_bd hg
  obtain ⟨a1, a2, -, -⟩ := sRow_inv hg h2.2.2 h3.1 (gN g) (Nat.le_refl _)
  have h1 := hg.1
  refine ⟨?_, a1.2.1, a1.2.2⟩
  have b0 : sRnd g 0 0 = g 0 0 := by show zset (sRow (gN g) (sShf g) g (gN g) 0) 1 (g 0 1 + 1) 0 = _; rw [a2]; rfl
  have b1 : sRnd g 0 1 = g 0 1 + 1 := rfl
  have b2 : sRnd g 0 2 = g 0 2 := by show zset (sRow (gN g) (sShf g) g (gN g) 0) 1 (g 0 1 + 1) 2 = _; rw [a2]; rfl
  have b3 : sRnd g 0 3 = g 0 3 := by show zset (sRow (gN g) (sShf g) g (gN g) 0) 1 (g 0 1 + 1) 3 = _; rw [a2]; rfl
  have b4 : sRnd g 0 4 = g 0 4 := by show zset (sRow (gN g) (sShf g) g (gN g) 0) 1 (g 0 1 + 1) 4 = _; rw [a2]; rfl
  rw [b0, b1, b2, b3, b4]
  omega
theorem sRun_inv {g : Nat → Nat → Int} {r : Int} (hg : gB g r) (k : Nat) : gB (sRun g k) (r + k) := by
  induction k with
  | zero =>
    show gB g (r + (0 : Nat))
    rw [show r + ((0 : Nat) : Int) = r by omega]
    exact hg
  | succ k ih =>
    have := sRnd_inv ih
    rw [show r + (k : Int) + 1 = r + ((k + 1 : Nat) : Int) by omega] at this
    exact this
