/-! OWN ROWS: what makes objects; the slots -/
def al_Pc (dC : Nat → ClassId) (dI : Nat → Nat → Nat) (cI cZ cS : ClassId) (sz : Nat) (w : va_W) (av : List Value) : Array Value → State → Prop := va_Pc av (fun U => U.heap.size = sz ∧ va_P (dC, dI) vwCl w U.heap ∧ kK dC dI cI cZ cS U ∧ va_D (fun _ => True) w)
def al_Qc (dC : Nat → ClassId) (dI : Nat → Nat → Nat) (sz : Nat) (w : va_W) (B : va_W → Prop) (v : Option Value) : Array Value → State → Outcome → State → Prop := fun _ st oc t => oc = .returned v ∧ (∃ w2, B w2 ∧ va_P (dC, dI) vwCl w2 t.heap ∧ va_D (va_A w sz) w2) ∧ va_F (va_A w sz) st t
section ZA
variable {l : Launch} {y : MethodName} {ws ws' : List Cond} {rm : Room} {cc : ByteArray} {maxL mc ms sz : Nat} {ret : Option FieldType} {w : va_W} {B : va_W → Prop} {av : List Value} {v : Option Value}
variable {dC : Nat → ClassId} {dI : Nat → Nat → Nat} {cI cZ cS : ClassId}
theorem al_met (hy : plainName y.cls = true) (hw : ws = Cond.code y cc maxL ret :: ws') (hlen : (lg_sl av).length ≤ maxL)
    (body : ∀ (p : Program) (e : Env) (s : State) (m : MethodId) (below : List Frame) (meth : Method) (c : Code) (ls : Array Slot), p.tables.exec = Jvm.exec → c.code = cc → c.maxLocals = maxL → meth.sig.returnType = ret → meth.locks = false → (∀ x ∈ ws, x.before av.toArray s = true) → s.vm.findClass y.cls = some m.cls → meth.name = y.name → va_P (dC, dI) vwCl w s.heap → va_D (va_A w s.heap.size) w → va_S (va_A w s.heap.size) s.heap s.heap [] → (∀ q, s.heap.size ≤ q → va_A w s.heap.size q) → kK dC dI cI cZ cS s → lv_has ls maxL (lv_args 0 av) →
      W p l e rm s m av.toArray below meth c s.heap [] 0 0 (MQ below (al_Qc dC dI s.heap.size w B v) av.toArray s mc ms (va_A w s.heap.size)) (F0 m 0 ls [])) : Met l y ws rm (al_Pc dC dI cI cZ cS sz w av) (al_Qc dC dI sz w B v) mc ms (va_A w sz) := by
  refine Met.ofW (cc := cc) (maxL := maxL) (ret := ret) hy hw ?_
  intro p e s m args below meth c s₁ B1 hml hv
  obtain ⟨rfl, rfl, hP, hK, hD⟩ := hv
  rw [lg_entry_eq]
  exact body p e s m below meth c _ B1.exec B1.bytes hml B1.returns B1.notSynchronized (atoms_spec (ws := ws) B1.pre) (findClass_of_methodNamed B1.named) (name_of_methodNamed B1.named B1.method).1 hP hD.self va_S.rf (fun q h => Or.inr h) hK (lv_entry av hlen)
theorem al_blind : FrameBlind (al_Pc dC dI cI cZ cS sz w av) := fun _ _ _ _ q => ⟨q.1, q.2.1, q.2.2.1, q.2.2.2.1.call, q.2.2.2.2⟩
end ZA
section ZG
variable {p : Program} {l : Launch} {e : Env} {R : Room} {s : State} {m : MethodId} {args : Array Value} {below : List Frame} {meth : Method} {c : Code} {H : Heap} {locs : List Loc} {cells slots mc ms : Nat} {Q : State → Prop}
variable {cc : ByteArray} {pc : Nat} {ls : Array Slot} {rest st0 : List Value} {dC : Nat → ClassId} {dI : Nat → Nat → Nat} {cI cZ cS : ClassId} {w : va_W} {B : va_W → Prop} {v : Option Value} {a : Array Value} {A0 : Nat → Prop} {H0 : Heap}
theorem al_go (hr : va_Run p l e R s m args below meth c H locs cells slots mc ms (F0 m pc ls st0) rest (al_Qc dC dI H.size w B v a) (va_A w H.size)) (hA : ∀ q, va_A w H.size q → A0 q) (hS : va_S A0 H0 H locs)
    (kk : ∀ (w2 : va_W) (H1 : Heap) (locs1 : List Loc), B w2 → va_P (dC, dI) vwCl w2 H1 → va_D (va_A w H.size) w2 → (∀ q : Nat, q < H.size → ¬ va_A w H.size q → H1[q]? = H[q]?) → va_S A0 H0 H1 locs1 → W p l e R s m args below meth c H1 locs1 (cells + mc) (slots + ms) Q (F0 m (pc + 3) ls (v.toList ++ rest))) : W p l e R s m args below meth c H locs cells slots Q (F0 m pc ls st0) := by
  intro T hT X
  obtain ⟨v', st₀, t, T', L, h0, X', hL, e1, e2, ⟨hv, ⟨w2, hB, hP, hD⟩, hz, hk⟩, st⟩ := hr T hT X
  cases hv
  rw [h0] at hz hk
  obtain ⟨t2, a1, b1⟩ := kk w2 T'.heap (locs ++ L) hB (by rw [e1]; exact hP) hD (fun q h1 h2 => by rw [e1]; exact hk q h1 h2)
    ⟨Nat.le_trans hS.1 (by rw [e1]; exact hz), fun q h1 h2 => by rw [e1, hk q (Nat.lt_of_lt_of_le h1 hS.1) (fun z => h2 (hA q z))]; exact hS.2.1 q h1 h2, fun q hq => by
      rcases List.mem_append.mp hq with h | h
      · exact hS.2.2 q h
      · exact hA _ (hL q h)⟩ T' rfl X'
  exact ⟨t2, st t2 a1, b1⟩
variable {y : MethodName} {bytes : ByteArray} {maxL nL n index : Nat} {ret : Option FieldType} {wsY : List Cond} {rm : Room} {Ts : List Cond} {own C : String} {b : Addr} {As : List Value} {r : Value}
theorem al_callI (S : CallFix p m c cc nL s args Ts own) (hM : Met l y wsY rm (al_Pc dC dI cI cZ cS H.size w (.ref b :: As)) (al_Qc dC dI H.size w B none) mc ms (va_A w H.size)) (cw : CallB R s args own index y bytes maxL none wsY rm mc ms n ∧ y.name = "<init>" ∧ (Cond.instanceMethod y).before args s = true) (hP : va_P (dC, dI) vwCl w H) (hD : va_D A0 w) (hA : ∀ q, va_A w H.size q → A0 q) (hS : va_S A0 H0 H locs) (hK : kK dC dI cI cZ cS s)
    (hn : As.length = n) (hsize : ls.size = nL) (hstack : st0 = As.reverse ++ .ref b :: rest) (hW : (rest.map fun v => v.category).sum ≤ 8) (hdg : decode cc pc = .ok (.invokespecial index, 3)) (hf : cells + mc ≤ R.cells ∧ slots + ms ≤ R.slots)
    (kk : ∀ (w2 : va_W) (H1 : Heap) (locs1 : List Loc), B w2 → va_P (dC, dI) vwCl w2 H1 → va_D (va_A w H.size) w2 → (∀ q : Nat, q < H.size → ¬ va_A w H.size q → H1[q]? = H[q]?) → va_S A0 H0 H1 locs1 → W p l e R s m args below meth c H1 locs1 (cells + mc) (slots + ms) Q (F0 m (pc + 3) ls rest)) : W p l e R s m args below meth c H locs cells slots Q (F0 m pc ls st0) :=
  al_go (va_runI (g := F0 m pc ls st0) S hM cw ⟨al_blind, fun _ hU hW => ⟨rfl, by rw [hU], by rw [hU]; exact hP, hK.moved hW, hD.weaken (fun _ _ _ _ => trivial)⟩⟩ rfl hn hsize hstack (lv_room hW) hdg hf) hA hS kk
theorem al_callVi (S : CallFix p m c cc nL s args Ts own) (hM : Met l y wsY rm (al_Pc dC dI cI cZ cS H.size w (.ref b :: As)) (al_Qc dC dI H.size w B (some r)) mc ms (va_A w H.size)) (cw : CallW R s args own C index y bytes maxL ret wsY rm mc ms n) (hP : va_P (dC, dI) vwCl w H) (hD : va_D A0 w) (hA : ∀ q, va_A w H.size q → A0 q) (hS : va_S A0 H0 H locs) (hK : kK dC dI cI cZ cS s) (q0 : Nat) {ci N : Nat} {T : u_T} {fs : List Value} (he : w[q0]? = some (b, .inr (ci, fs))) (hc : vwCl[ci]? = some (C, T, N))
    (hn : As.length = n) (hsize : ls.size = nL) (hstack : st0 = As.reverse ++ .ref b :: rest) (hW : (rest.map fun v => v.category).sum ≤ 8) (hdg : decode cc pc = .ok (.invokevirtual index, 3)) (hf : cells + mc ≤ R.cells ∧ slots + ms ≤ R.slots)
    (kk : ∀ (w2 : va_W) (H1 : Heap) (locs1 : List Loc), B w2 → va_P (dC, dI) vwCl w2 H1 → va_D (va_A w H.size) w2 → (∀ q : Nat, q < H.size → ¬ va_A w H.size q → H1[q]? = H[q]?) → va_S A0 H0 H1 locs1 → W p l e R s m args below meth c H1 locs1 (cells + mc) (slots + ms) Q (F0 m (pc + 3) ls (r :: rest))) : W p l e R s m args below meth c H locs cells slots Q (F0 m pc ls st0) :=
  al_go (va_runV (g := F0 m pc ls st0) S hM cw ⟨al_blind, va_recv hK.1 hP hc he, fun _ hU hW => ⟨rfl, by rw [hU], by rw [hU]; exact hP, hK.moved hW, hD.weaken (fun _ _ _ _ => trivial)⟩⟩ rfl hn hsize hstack (lv_room hW) hdg hf) hA hS kk
theorem al_vret (hx : p.tables.exec = Jvm.exec) (hb : c.code = cc) (hr : meth.sig.returnType = none) (hlocks : meth.locks = false) {w2 : va_W} (hB : B w2) (hP : va_P (dC, dI) vwCl w2 H) (hD : va_D (va_A w s.heap.size) w2) (hS : va_S (va_A w s.heap.size) s.heap H locs) (hdg : decode cc pc = .ok (.return_, 1)) :
    W p l e R s m args below meth c H locs cells slots (MQ below (al_Qc dC dI s.heap.size w B none) args s cells slots (va_A w s.heap.size)) (F0 m pc ls []) :=
  W.vret hx hb hr (fun t ht _ => ⟨rfl, ⟨w2, hB, by rw [ht]; exact hP, hD⟩, hS.F ht⟩) hS.2.2 hdg hlocks
theorem al_iret (hx : p.tables.exec = Jvm.exec) (hb : c.code = cc) (hr : meth.sig.returnType = some .int) (hlocks : meth.locks = false) {w2 : va_W} (hB : B w2) (hP : va_P (dC, dI) vwCl w2 H) (hD : va_D (va_A w s.heap.size) w2) (hS : va_S (va_A w s.heap.size) s.heap H locs) {x z : Int} (hv : x = z) (hdg : decode cc pc = .ok (.ireturn, 1)) :
    W p l e R s m args below meth c H locs cells slots (MQ below (al_Qc dC dI s.heap.size w B (some (.int (zI z)))) args s cells slots (va_A w s.heap.size)) (F0 m pc ls [.int (zI x)]) := by
  subst hv
  exact W.iret hx hb hr (fun t ht _ => ⟨rfl, ⟨w2, hB, by rw [ht]; exact hP, hD⟩, hS.F ht⟩) hS.2.2 hdg hlocks
variable {A : Nat → Prop} {ws : va_W}
theorem z_00 : (0 : Int32) = zI 0 := by decide
theorem zr_newi (hx : p.tables.exec = Jvm.exec) (hb : c.code = cc) (harr : (Cond.arrayClass .int).before args s = true) (hK : kK dC dI cI cZ cS s) (hP : va_P (dC, dI) vwCl ws H) (hD : va_D A ws) (hS : va_S A H0 H locs) (hA : ∀ q, H0.size ≤ q → A q) {z : Int} (N : Nat) (hz : z = (N : Int)) (hN : N ≤ 1000) (hcells : cells + 1 ≤ R.cells) (hslots : slots + N ≤ R.slots) (hdg : decode cc pc = .ok (.newarray .int, 2))
    (kk : ∀ (q : Nat) (H1 : Heap), va_P (dC, dI) vwCl (ws ++ [(q, .inl (cI, N, .inl (fun _ => zI 0)))]) H1 → va_D A (ws ++ [(q, .inl (cI, N, .inl (fun _ => zI 0)))]) → va_S A H0 H1 locs →
      W p l e R s m args below meth c H1 locs (cells + 1) (slots + N) Q (F0 m (pc + 2) ls (.ref q :: rest))) : W p l e R s m args below meth c H locs cells slots Q (F0 m pc ls (.int (zI z) :: rest)) := by
  have nn : ¬ zI z < 0 := fun h => by
    have := (zI_lt (a := z) (b := 0) (by omega) (by omega)).mp h
    omega
  refine va_newa (atype := .int) hx hb harr rfl hK.1 hP hD hS hA (N' := N) (a0 := (N, .inl (fun _ => zI 0))) (fun cA => by show arrV cA N (fun _ => .int (zI 0)) = arrV cA N (fun _ => .int 0); rw [z_00]) nn (zI_clamp hz (by omega)) (by show N * 4 ≤ _; omega) hcells hslots hdg (fun q cA H1 hK1 g1 g2 g3 => ?_)
  have e1 : cA = cI := Option.some.inj ((hK1.2 3 _ rfl).2.symm.trans (hK.1.2 0 _ rfl).2)
  subst e1
  exact kk q H1 g1 g2 g3
theorem zr_newz (hx : p.tables.exec = Jvm.exec) (hb : c.code = cc) (harr : (Cond.arrayClass .boolean).before args s = true) (hK : kK dC dI cI cZ cS s) (hP : va_P (dC, dI) vwCl ws H) (hD : va_D A ws) (hS : va_S A H0 H locs) (hA : ∀ q, H0.size ≤ q → A q) {z : Int} (N : Nat) (hz : z = (N : Int)) (hN : N ≤ 1000) (hcells : cells + 1 ≤ R.cells) (hslots : slots + N ≤ R.slots) (hdg : decode cc pc = .ok (.newarray .boolean, 2))
    (kk : ∀ (q : Nat) (H1 : Heap), va_P (dC, dI) vwCl (ws ++ [(q, .inl (cZ, N, .inl (fun _ => zI 0)))]) H1 → va_D A (ws ++ [(q, .inl (cZ, N, .inl (fun _ => zI 0)))]) → va_S A H0 H1 locs →
      W p l e R s m args below meth c H1 locs (cells + 1) (slots + N) Q (F0 m (pc + 2) ls (.ref q :: rest))) : W p l e R s m args below meth c H locs cells slots Q (F0 m pc ls (.int (zI z) :: rest)) := by
  have nn : ¬ zI z < 0 := fun h => by
    have := (zI_lt (a := z) (b := 0) (by omega) (by omega)).mp h
    omega
  refine va_newa (atype := .boolean) hx hb harr rfl hK.1 hP hD hS hA (N' := N) (a0 := (N, .inl (fun _ => zI 0))) (fun cA => by show arrV cA N (fun _ => .int (zI 0)) = arrV cA N (fun _ => .int 0); rw [z_00]) nn (zI_clamp hz (by omega)) (by show N * 1 ≤ _; omega) hcells hslots hdg (fun q cA H1 hK1 g1 g2 g3 => ?_)
  have e1 : cA = cZ := Option.some.inj ((hK1.2 3 _ rfl).2.symm.trans (hK.1.2 1 _ rfl).2)
  subst e1
  exact kk q H1 g1 g2 g3
theorem zr_newq (hx : p.tables.exec = Jvm.exec) (hb : c.code = cc) (hown : s.vm.findClass own = some m.cls) (hclink : (Cond.classLink own index RX0).before args s = true) (hK : kK dC dI cI cZ cS s) (hP : va_P (dC, dI) vwCl ws H) (hD : va_D A ws) (hS : va_S A H0 H locs) (hA : ∀ q, H0.size ≤ q → A q) {z : Int} (N : Nat) (hz : z = (N : Int)) (hN : N ≤ 1000) (hcells : cells + 1 ≤ R.cells) (hslots : slots + N ≤ R.slots) (hdg : decode cc pc = .ok (.anewarray index, 3))
    (kk : ∀ (q : Nat) (H1 : Heap), va_P (dC, dI) vwCl (ws ++ [(q, .inl (cS, N, .inr (.inr (.inr (.inr (fun _ => none))))))]) H1 → va_D A (ws ++ [(q, .inl (cS, N, .inr (.inr (.inr (.inr (fun _ => none))))))]) → va_S A H0 H1 locs →
      W p l e R s m args below meth c H1 locs (cells + 1) (slots + N) Q (F0 m (pc + 3) ls (.ref q :: rest))) : W p l e R s m args below meth c H locs cells slots Q (F0 m pc ls (.int (zI z) :: rest)) := by
  have nn : ¬ zI z < 0 := fun h => by
    have := (zI_lt (a := z) (b := 0) (by omega) (by omega)).mp h
    omega
  refine va_newq hx hb hown hclink hK.2.2 hK.1 hP hD hS hA (N' := N) nn (zI_clamp hz (by omega)) (by omega) hcells hslots hdg (fun q cA H1 hK1 g1 g2 g3 => ?_)
  obtain ⟨k1, c1, -, -, -, f1⟩ := (hK1.2 3 _ rfl).2
  obtain ⟨k2, c2, -, -, -, f2⟩ := (hK.1.2 2 _ rfl).2
  have e1 : cA = cS := Option.some.inj (f1.symm.trans f2)
  subst e1
  exact kk q H1 g1 g2 g3
theorem zr_aald (hx : p.tables.exec = Jvm.exec) (hb : c.code = cc) (hK : kK dC dI cI cZ cS s) (hP : va_P (dC, dI) vwCl ws H) (q0 : Nat) {a1 n1 : Nat} {f : Nat → Option Nat} (ha : ws[q0]? = some (a1, .inl (cS, n1, .inr (.inr (.inr (.inr f)))))) {zi : Int} (k : Nat) (o : Option Nat) (hi : zi = (k : Int)) (hk : k < n1) (hn : n1 < 2147483648) (ho : f k = o) (hdg : decode cc pc = .ok (.aaload, 1))
    (kk : W p l e R s m args below meth c H locs cells slots Q (F0 m (pc + 1) ls (va_rf o :: rest))) : W p l e R s m args below meth c H locs cells slots Q (F0 m pc ls (.int (zI zi) :: .ref a1 :: rest)) := by
  subst ho
  refine va_aldq hx hb hK.1 hP q0 2 ha rfl (zI_in hi hk hn) hdg ?_
  rw [zI_clamp hi (by omega)]
  exact kk
theorem zr_aast (hx : p.tables.exec = Jvm.exec) (hb : c.code = cc) (hK : kK dC dI cI cZ cS s) (hP : va_P (dC, dI) vwCl ws H) (hD : va_D A ws) (hS : va_S A H0 H locs) (q0 qk : Nat) {a1 n1 v1 : Nat} {vs : List Value} {f : Nat → Option Nat} (ha : ws[q0]? = some (a1, .inl (cS, n1, .inr (.inr (.inr (.inr f)))))) (hv : ws[qk]? = some (v1, .inr (0, vs))) {zi : Int} (k : Nat) (hi : zi = (k : Int)) (hk : k < n1) (hn : n1 < 2147483648) (hdg : decode cc pc = .ok (.aastore, 1))
    (kk : ∀ (H1 : Heap) (locs1 : List Loc), va_P (dC, dI) vwCl (ws.set q0 (a1, .inl (cS, n1, .inr (.inr (.inr (.inr (va_up f k (some v1)))))))) H1 → va_D A (ws.set q0 (a1, .inl (cS, n1, .inr (.inr (.inr (.inr (va_up f k (some v1)))))))) → va_S A H0 H1 locs1 → W p l e R s m args below meth c H1 locs1 cells slots Q (F0 m (pc + 1) ls rest)) : W p l e R s m args below meth c H locs cells slots Q (F0 m pc ls (.ref v1 :: .int (zI zi) :: .ref a1 :: rest)) := by
  refine va_astq hx hb hK.1 hP hD hS q0 2 qk 0 ha rfl hv rfl (zI_in hi hk hn) hdg (fun H1 locs1 g1 g2 g3 => ?_)
  rw [zI_clamp hi (by omega)] at g1 g2
  exact kk H1 locs1 g1 g2 g3
end ZG
def ad7 (q0 q1 q2 q3 q4 q5 q6 : Nat) : Nat → Nat
  | 0 => q0
  | 1 => q1
  | 2 => q2
  | 3 => q3
  | 4 => q4
  | 5 => q5
  | _ => q6
def ad5 (q0 q1 q2 q3 q4 : Nat) : Nat → Nat
  | 0 => q0
  | 1 => q1
  | 2 => q2
  | 3 => q3
  | _ => q4
def gZ (q : Nat) : Nat → Int := cond (Nat.beq q 0) (fun k => if k = 2 then 250 else if k = 3 then 250 else if k = 4 then 2000 else 0) (fun _ => 0)
def gNi : Nat → Nat → Int := sBeg gZ 5
abbrev fr0 (q : Nat) : va_W := [(q, .inr (0, [.int (zI 0), .int (zI 0), .int (zI 0), .int (zI 0), .int (zI 0), .null, .null, .null, .null, .null, .null]))]
abbrev fr1 (q : Nat) : va_W := [(q, .inr (1, [.null, .null]))]
abbrev fr2 (q : Nat) : va_W := [(q, .inr (2, [.null, .null, .null, .int (zI 0), .int (zI 0), .int (zI 0), .int (zI 0), .int (zI 0), .int (zI 0), .int (zI 0), .null]))]
abbrev slw (cS : ClassId) (hs : Nat) (sf : Nat → Option Nat) : va_W := [(hs, .inl (cS, 2, .inr (.inr (.inr (.inr sf)))))]
theorem flat_Z : (zset (zset (zset (fun _ => 0) 2 250) 3 250) 4 2000) = flat gZ := by
  refine flat_ext (fun k hk => ?_) (fun k hk => ?_) (fun k hk => ?_) (fun k hk => ?_) (fun k hk => ?_) (fun k hk => ?_) (fun k => ?_)
  · show (if k = 4 then (2000 : Int) else if k = 3 then 250 else if k = 2 then 250 else 0) = (if k = 2 then 250 else if k = 3 then 250 else if k = 4 then 2000 else 0)
    omega
  all_goals (rw [zset_ne (by omega), zset_ne (by omega), zset_ne (by omega)]; rfl)
/-- behind a call that wrote in the cells wc alone, which lie at the places isC: the others, at isR -/
theorem wr_join {A0 : Nat → Prop} {D : va_G} {cl : List vw_C} {ws wc wr w1 : va_W} {H H1 : Heap} (hP : va_P D cl ws H) (hD : va_D A0 ws) (isC isR : List Nat) (hC : isC.map (fun i => ws[i]?) = wc.map some) (hR : isR.map (fun i => ws[i]?) = wr.map some) (hdis : ∀ i ∈ isR, i ∉ isC)
    (hk : ∀ q : Nat, q < H.size → ¬ wr_ad wc q → H1[q]? = H[q]?) (hP1 : va_P D cl w1 H1) : va_P D cl (wr ++ w1) H1 := by
  have at' : ∀ {is : List Nat} {w : va_W}, is.map (fun i => ws[i]?) = w.map some → ∀ (k : Nat) (q : Nat × va_E), w[k]? = some q → ∃ i, is[k]? = some i ∧ ws[i]? = some q := by
    intro is w hs k q hq
    have h1 : (is.map (fun i => ws[i]?))[k]? = some (some q) := by rw [hs, List.getElem?_map, hq]; rfl
    rw [List.getElem?_map] at h1
    cases hi : is[k]? with
    | none => rw [hi] at h1; cases h1
    | some i => rw [hi] at h1; exact ⟨i, rfl, Option.some.inj h1⟩
  refine va_P.app (fun k q hq => ?_) hP1
  obtain ⟨i, h1, h2⟩ := at' hR k q hq
  refine (hP i q h2).kept (hk q.1 ((hP i q h2).lt) ?_)
  rintro ⟨k2, e, h⟩
  obtain ⟨j, h3, h4⟩ := at' hC k2 (q.1, e) h
  have hij := hD.1 i j q (q.1, e) h2 h4 rfl
  subst hij
  exact hdis i (List.mem_of_getElem? h1) (List.mem_of_getElem? h3)
set_option maxHeartbeats 4000000 in
set_option maxRecDepth 100000 in
/-- State() -/
theorem c_X0_init (l : Launch) (dC : Nat → ClassId) (dI : Nat → Nat → Nat) (cI cZ cS : ClassId) (sz : Nat) (q : Nat) : Met l yX0_init wsX0_init ({ frames := 2, cells := 6, slots := 150, locals := 47 } : Room) (al_Pc dC dI cI cZ cS sz (fr0 q) [.ref q]) (al_Qc dC dI sz (fr0 q) (fun w2 => ∃ a : Nat → Nat, a 0 = q ∧ w2 = stw cI a gNi) none) 6 150 (va_A (fr0 q) sz) := by
  refine al_met (cc := cX0_init) (maxL := 1) (ret := none) (by decide) rfl (Nat.le_of_ble_eq_true rfl) ?_
  intro p e s m below meth c ls hx hb hml hr hlocks hts hown hin0 hP hD hS hA hK hl
  have hl : lv_has ls 1 [(0, .ref q)] := hl
  have hinX0 : ∀ w ∈ u_ws RX0 TX0 11, w ∈ wsX0_init := by decide +kernel
  have f_9 := hts (.fieldLink RX0 9 "NetworkCoordinates$State" "errorGain" "I") (by decide +kernel)
  have f_15 := hts (.fieldLink RX0 15 "NetworkCoordinates$State" "moveGain" "I") (by decide +kernel)
  have f_18 := hts (.fieldLink RX0 18 "NetworkCoordinates$State" "maxStep" "I") (by decide +kernel)
  have f_21 := hts (.fieldLink RX0 21 "NetworkCoordinates$State" "xs" "[I") (by decide +kernel)
  have f_25 := hts (.fieldLink RX0 25 "NetworkCoordinates$State" "ys" "[I") (by decide +kernel)
  have f_28 := hts (.fieldLink RX0 28 "NetworkCoordinates$State" "heights" "[I") (by decide +kernel)
  have f_31 := hts (.fieldLink RX0 31 "NetworkCoordinates$State" "errors" "[I") (by decide +kernel)
  have f_34 := hts (.fieldLink RX0 34 "NetworkCoordinates$State" "lies" "[I") (by decide +kernel)
  have f_37 := hts (.fieldLink RX0 37 "NetworkCoordinates$State" "rtts" "[I") (by decide +kernel)
  refine lv_aload_n hx hb dX0_init_0 rfl (lv_at hl 0 rfl) ?_
  refine W.objInit hx hb hown (hts (.methodLink RX0 3 objectInit) (by decide +kernel)) (hts (.instanceMethod objectInit) (by decide +kernel)) (hts (.code objectInit ⟨#[0xb1]⟩ 1 none) (by decide +kernel)) rfl (by rw [hml]; exact hl.1) rfl dX0_init_1 (Nat.le_of_ble_eq_true rfl) (Nat.le_of_ble_eq_true rfl) ?_
  refine W.eq (g2 := F0 m 4 ls []) rfl ?_
  refine lv_aload_n hx hb dX0_init_4 rfl (lv_at hl 0 rfl) ?_
  refine zr_sipush hx hb dX0_init_5 (by decide) ?_
  refine va_put (D := (dC, dI)) (ci := 0) (v := .int (zI 250)) (ty := .int) (C := RX0) (T := TX0) (N := 11) hx hb hts hinX0 tyX0 tyX0_ok nmX0 hown hK.1 hP hD hS 0 rfl rfl 2 (by decide) f_9 (fun _ h9 => h9) rfl (by decide +kernel) rfl rfl (Nat.le_of_ble_eq_true rfl) dX0_init_8 (fun H locs hP hD hS => ?_)
  refine lv_aload_n hx hb dX0_init_11 rfl (lv_at hl 0 rfl) ?_
  refine zr_sipush hx hb dX0_init_12 (by decide) ?_
  refine va_put (D := (dC, dI)) (ci := 0) (v := .int (zI 250)) (ty := .int) (C := RX0) (T := TX0) (N := 11) hx hb hts hinX0 tyX0 tyX0_ok nmX0 hown hK.1 hP hD hS 0 rfl rfl 3 (by decide) f_15 (fun _ h9 => h9) rfl (by decide +kernel) rfl rfl (Nat.le_of_ble_eq_true rfl) dX0_init_15 (fun H locs hP hD hS => ?_)
  refine lv_aload_n hx hb dX0_init_18 rfl (lv_at hl 0 rfl) ?_
  refine zr_sipush hx hb dX0_init_19 (by decide) ?_
  refine va_put (D := (dC, dI)) (ci := 0) (v := .int (zI 2000)) (ty := .int) (C := RX0) (T := TX0) (N := 11) hx hb hts hinX0 tyX0 tyX0_ok nmX0 hown hK.1 hP hD hS 0 rfl rfl 4 (by decide) f_18 (fun _ h9 => h9) rfl (by decide +kernel) rfl rfl (Nat.le_of_ble_eq_true rfl) dX0_init_22 (fun H locs hP hD hS => ?_)
  refine lv_aload_n hx hb dX0_init_25 rfl (lv_at hl 0 rfl) ?_
  refine zr_bipush hx hb dX0_init_26 (by decide) ?_
  refine zr_newi hx hb (hts (.arrayClass .int) (by decide +kernel)) hK hP hD hS hA 10 rfl (Nat.le_of_ble_eq_true rfl) (Nat.le_of_ble_eq_true rfl) (Nat.le_of_ble_eq_true rfl) dX0_init_28 (fun q1 H hP hD hS => ?_)
  refine va_putF (D := (dC, dI)) (ci := 0) (v := .ref q1) (ty := (.array .int)) (C := RX0) (T := TX0) (N := 11) hx hb hts hinX0 tyX0 tyX0_ok nmX0 hown hK.1 hP hD hS 0 rfl rfl 5 (by decide) f_21 (fun _ h9 => h9) rfl hin0 rfl (by decide +kernel) rfl rfl (Nat.le_of_ble_eq_true rfl) dX0_init_30 (fun H locs hP hD hS => ?_)
  refine lv_aload_n hx hb dX0_init_33 rfl (lv_at hl 0 rfl) ?_
  refine zr_bipush hx hb dX0_init_34 (by decide) ?_
  refine zr_newi hx hb (hts (.arrayClass .int) (by decide +kernel)) hK hP hD hS hA 10 rfl (Nat.le_of_ble_eq_true rfl) (Nat.le_of_ble_eq_true rfl) (Nat.le_of_ble_eq_true rfl) dX0_init_36 (fun q2 H hP hD hS => ?_)
  refine va_putF (D := (dC, dI)) (ci := 0) (v := .ref q2) (ty := (.array .int)) (C := RX0) (T := TX0) (N := 11) hx hb hts hinX0 tyX0 tyX0_ok nmX0 hown hK.1 hP hD hS 0 rfl rfl 6 (by decide) f_25 (fun _ h9 => h9) rfl hin0 rfl (by decide +kernel) rfl rfl (Nat.le_of_ble_eq_true rfl) dX0_init_38 (fun H locs hP hD hS => ?_)
  refine lv_aload_n hx hb dX0_init_41 rfl (lv_at hl 0 rfl) ?_
  refine zr_bipush hx hb dX0_init_42 (by decide) ?_
  refine zr_newi hx hb (hts (.arrayClass .int) (by decide +kernel)) hK hP hD hS hA 10 rfl (Nat.le_of_ble_eq_true rfl) (Nat.le_of_ble_eq_true rfl) (Nat.le_of_ble_eq_true rfl) dX0_init_44 (fun q3 H hP hD hS => ?_)
  refine va_putF (D := (dC, dI)) (ci := 0) (v := .ref q3) (ty := (.array .int)) (C := RX0) (T := TX0) (N := 11) hx hb hts hinX0 tyX0 tyX0_ok nmX0 hown hK.1 hP hD hS 0 rfl rfl 7 (by decide) f_28 (fun _ h9 => h9) rfl hin0 rfl (by decide +kernel) rfl rfl (Nat.le_of_ble_eq_true rfl) dX0_init_46 (fun H locs hP hD hS => ?_)
  refine lv_aload_n hx hb dX0_init_49 rfl (lv_at hl 0 rfl) ?_
  refine zr_bipush hx hb dX0_init_50 (by decide) ?_
  refine zr_newi hx hb (hts (.arrayClass .int) (by decide +kernel)) hK hP hD hS hA 10 rfl (Nat.le_of_ble_eq_true rfl) (Nat.le_of_ble_eq_true rfl) (Nat.le_of_ble_eq_true rfl) dX0_init_52 (fun q4 H hP hD hS => ?_)
  refine va_putF (D := (dC, dI)) (ci := 0) (v := .ref q4) (ty := (.array .int)) (C := RX0) (T := TX0) (N := 11) hx hb hts hinX0 tyX0 tyX0_ok nmX0 hown hK.1 hP hD hS 0 rfl rfl 8 (by decide) f_31 (fun _ h9 => h9) rfl hin0 rfl (by decide +kernel) rfl rfl (Nat.le_of_ble_eq_true rfl) dX0_init_54 (fun H locs hP hD hS => ?_)
  refine lv_aload_n hx hb dX0_init_57 rfl (lv_at hl 0 rfl) ?_
  refine zr_bipush hx hb dX0_init_58 (by decide) ?_
  refine zr_newi hx hb (hts (.arrayClass .int) (by decide +kernel)) hK hP hD hS hA 10 rfl (Nat.le_of_ble_eq_true rfl) (Nat.le_of_ble_eq_true rfl) (Nat.le_of_ble_eq_true rfl) dX0_init_60 (fun q5 H hP hD hS => ?_)
  refine va_putF (D := (dC, dI)) (ci := 0) (v := .ref q5) (ty := (.array .int)) (C := RX0) (T := TX0) (N := 11) hx hb hts hinX0 tyX0 tyX0_ok nmX0 hown hK.1 hP hD hS 0 rfl rfl 9 (by decide) f_34 (fun _ h9 => h9) rfl hin0 rfl (by decide +kernel) rfl rfl (Nat.le_of_ble_eq_true rfl) dX0_init_62 (fun H locs hP hD hS => ?_)
  refine lv_aload_n hx hb dX0_init_65 rfl (lv_at hl 0 rfl) ?_
  refine zr_bipush hx hb dX0_init_66 (by decide) ?_
  refine zr_newi hx hb (hts (.arrayClass .int) (by decide +kernel)) hK hP hD hS hA 100 rfl (Nat.le_of_ble_eq_true rfl) (Nat.le_of_ble_eq_true rfl) (Nat.le_of_ble_eq_true rfl) dX0_init_68 (fun q6 H hP hD hS => ?_)
  refine va_putF (D := (dC, dI)) (ci := 0) (v := .ref q6) (ty := (.array .int)) (C := RX0) (T := TX0) (N := 11) hx hb hts hinX0 tyX0 tyX0_ok nmX0 hown hK.1 hP hD hS 0 rfl rfl 10 (by decide) f_37 (fun _ h9 => h9) rfl hin0 rfl (by decide +kernel) rfl rfl (Nat.le_of_ble_eq_true rfl) dX0_init_70 (fun H locs hP hD hS => ?_)
  refine lv_aload_n hx hb dX0_init_73 rfl (lv_at hl 0 rfl) ?_
  refine zr_iconst hx hb dX0_init_74 ?_
  have hP : va_P (dC, dI) vwCl (stw cI (ad7 q q1 q2 q3 q4 q5 q6) gZ) H := hP
  have hD : va_D (va_A (fr0 q) s.heap.size) (stw cI (ad7 q q1 q2 q3 q4 q5 q6) gZ) := hD
  refine wr_callV (As := [.int (zI 5)]) (rest := []) ⟨hx, hb, hml, hown, hts⟩ (c_X0_begin l dC dI cI cZ cS (ad7 q q1 q2 q3 q4 q5 q6) gZ 5) (cwV 1 hts gX0_init_X0_begin rfl rfl rfl (by decide +kernel) ⟨(Nat.le_of_ble_eq_true rfl), (Nat.le_of_ble_eq_true rfl)⟩) hP hD hS hK 0 rfl rfl rfl hl.1 rfl (Nat.le_of_ble_eq_true rfl) dX0_init_75 ⟨(Nat.le_of_ble_eq_true rfl), (Nat.le_of_ble_eq_true rfl)⟩ (fun H locs hP1 hk1 hS => ?_)
  exact al_vret hx hb hr hlocks ⟨ad7 q q1 q2 q3 q4 q5 q6, rfl, rfl⟩ hP1 (va_D_adr hD rfl) hS dX0_init_78
set_option maxHeartbeats 4000000 in
set_option maxRecDepth 100000 in
/-- NetworkCoordinates() -/
theorem c_X1_init (l : Launch) (dC : Nat → ClassId) (dI : Nat → Nat → Nat) (cI cZ cS : ClassId) (sz : Nat) (q : Nat) : Met l yX1_init wsX1_init ({ frames := 3, cells := 8, slots := 163, locals := 67 } : Room) (al_Pc dC dI cI cZ cS sz (fr1 q) [.ref q]) (al_Qc dC dI sz (fr1 q) (fun w2 => ∃ (a : Nat → Nat) (hs : Nat), w2 = stw cI a gNi ++ mnw a q hs ++ slw cS hs (fun _ => none)) none) 8 163 (va_A (fr1 q) sz) := by
  refine al_met (cc := cX1_init) (maxL := 1) (ret := none) (by decide) rfl (Nat.le_of_ble_eq_true rfl) ?_
  intro p e s m below meth c ls hx hb hml hr hlocks hts hown hin0 hP hD hS hA hK hl
  have hl : lv_has ls 1 [(0, .ref q)] := hl
  have hinX0 : ∀ w ∈ u_ws RX0 TX0 11, w ∈ wsX1_init := by decide +kernel
  have hinX1 : ∀ w ∈ u_ws RX1 TX1 2, w ∈ wsX1_init := by decide +kernel
  have f_10 := hts (.fieldLink RX1 10 "NetworkCoordinates" "now" "LNetworkCoordinates$State;") (by decide +kernel)
  have f_16 := hts (.fieldLink RX1 16 "NetworkCoordinates" "slots" "[LNetworkCoordinates$State;") (by decide +kernel)
  refine lv_aload_n hx hb dX1_init_0 rfl (lv_at hl 0 rfl) ?_
  refine W.objInit hx hb hown (hts (.methodLink RX1 1 objectInit) (by decide +kernel)) (hts (.instanceMethod objectInit) (by decide +kernel)) (hts (.code objectInit ⟨#[0xb1]⟩ 1 none) (by decide +kernel)) rfl (by rw [hml]; exact hl.1) rfl dX1_init_1 (Nat.le_of_ble_eq_true rfl) (Nat.le_of_ble_eq_true rfl) ?_
  refine W.eq (g2 := F0 m 4 ls []) rfl ?_
  refine lv_aload_n hx hb dX1_init_4 rfl (lv_at hl 0 rfl) ?_
  refine va_new (ci := 0) (fs := [.int (zI 0), .int (zI 0), .int (zI 0), .int (zI 0), .int (zI 0), .null, .null, .null, .null, .null, .null]) (C := RX0) (T := TX0) (N := 11) hx hb hts hinX0 tyX0 tyX0_ok hown (hts (.classLink RX1 7 RX0) (by decide +kernel)) (hts (.instantiable RX0 11) (by decide +kernel)) (hts (.initialized RX0) (by decide +kernel)) hK.1 hP hD hS hA rfl (fun j hj => by rcases (show j = 0 ∨ j = 1 ∨ j = 2 ∨ j = 3 ∨ j = 4 ∨ j = 5 ∨ j = 6 ∨ j = 7 ∨ j = 8 ∨ j = 9 ∨ j = 10 by omega) with rfl | rfl | rfl | rfl | rfl | rfl | rfl | rfl | rfl | rfl | rfl <;> first | rfl | exact congrArg Value.int z_00) (Nat.le_of_ble_eq_true rfl) (Nat.le_of_ble_eq_true rfl) dX1_init_5 (fun q5 H hP hD hS => ?_)
  refine lv_dup hx hb dX1_init_8 rfl ?_
  have hPc : va_P (dC, dI) vwCl (fr0 q5) H := hP.sub [1] rfl
  have hDc : va_D _ (fr0 q5) := hD.sub [1] (by decide) rfl
  have hFc := va_free (wc := fr0 q5) hD hS hA [1] rfl
  refine al_callI (As := []) (rest := .ref q5 :: [.ref q]) ⟨hx, hb, hml, hown, hts⟩ (c_X0_init l dC dI cI cZ cS H.size q5) (cwI 0 hts gX1_init_X0_init rfl rfl rfl (hts (.initialized RX0) (by decide +kernel)) (hts (.methodLink RX1 9 yX0_init) (by decide +kernel)) (hts (.instanceMethod yX0_init) (by decide +kernel)) rfl (by decide +kernel) ⟨(Nat.le_of_ble_eq_true rfl), (Nat.le_of_ble_eq_true rfl)⟩) hPc hDc hFc hS hK rfl hl.1 rfl (Nat.le_of_ble_eq_true rfl) dX1_init_9 ⟨(Nat.le_of_ble_eq_true rfl), (Nat.le_of_ble_eq_true rfl)⟩ (fun w2 H locs hB hP1 hD1 hk1 hS => ?_)
  obtain ⟨a, ha0, rfl⟩ := hB
  subst ha0
  obtain ⟨hP, hD⟩ := va_join (wr := fr1 q) (w1 := stw cI a gNi) hP hD [1] [0] rfl rfl (by decide) (by decide) hk1 hFc hP1 hD1
  have hP : va_P (dC, dI) vwCl (fr1 q ++ stw cI a gNi) H := hP
  have hD : va_D (va_A (fr1 q) s.heap.size) (fr1 q ++ stw cI a gNi) := hD
  refine va_putF (D := (dC, dI)) (ci := 1) (v := .ref (a 0)) (ty := (.object "NetworkCoordinates$State")) (C := RX1) (T := TX1) (N := 2) hx hb hts hinX1 tyX1 tyX1_ok nmX1 hown hK.1 hP hD hS 0 rfl rfl 0 (by decide) f_10 (fun _ h9 => h9) rfl hin0 rfl (by decide +kernel) rfl rfl (Nat.le_of_ble_eq_true rfl) dX1_init_12 (fun H locs hP hD hS => ?_)
  refine lv_aload_n hx hb dX1_init_15 rfl (lv_at hl 0 rfl) ?_
  refine zr_iconst hx hb dX1_init_16 ?_
  refine zr_newq hx hb hown (hts (.classLink RX1 7 RX0) (by decide +kernel)) hK hP hD hS hA 2 rfl (Nat.le_of_ble_eq_true rfl) (Nat.le_of_ble_eq_true rfl) (Nat.le_of_ble_eq_true rfl) dX1_init_17 (fun hs H hP hD hS => ?_)
  refine va_putF (D := (dC, dI)) (ci := 1) (v := .ref hs) (ty := (.array (.object "NetworkCoordinates$State"))) (C := RX1) (T := TX1) (N := 2) hx hb hts hinX1 tyX1 tyX1_ok nmX1 hown hK.1 hP hD hS 0 rfl rfl 1 (by decide) f_16 (fun _ h9 => h9) rfl hin0 rfl (by decide +kernel) rfl rfl (Nat.le_of_ble_eq_true rfl) dX1_init_20 (fun H locs hP hD hS => ?_)
  have hP9 : va_P (dC, dI) vwCl (stw cI a gNi ++ mnw a q hs ++ slw cS hs (fun _ => none)) H := hP.sub [1, 2, 3, 4, 5, 6, 7, 0, 8] rfl
  have hD9 : va_D (va_A (fr1 q) s.heap.size) (stw cI a gNi ++ mnw a q hs ++ slw cS hs (fun _ => none)) := hD.sub [1, 2, 3, 4, 5, 6, 7, 0, 8] (by decide) rfl
  exact al_vret hx hb hr hlocks ⟨a, hs, rfl⟩ hP9 hD9 hS dX1_init_23
set_option maxHeartbeats 4000000 in
set_option maxRecDepth 100000 in
/-- NetworkCoordinatesModel() -/
theorem c_X2_init (l : Launch) (dC : Nat → ClassId) (dI : Nat → Nat → Nat) (cI cZ cS : ClassId) (sz : Nat) (q : Nat) : Met l yX2_init wsX2_init ({ frames := 1, cells := 4, slots := 477, locals := 30 } : Room) (al_Pc dC dI cI cZ cS sz (fr2 q) [.ref q]) (al_Qc dC dI sz (fr2 q) (fun w2 => ∃ b : Nat → Nat, w2 = mdw cI cZ b gNi (fun _ => 0) (fun _ => 0) (fun _ => 0) (fun _ => 0) ∧ b 0 = q) none) 4 477 (va_A (fr2 q) sz) := by
  refine al_met (cc := cX2_init) (maxL := 1) (ret := none) (by decide) rfl (Nat.le_of_ble_eq_true rfl) ?_
  intro p e s m below meth c ls hx hb hml hr hlocks hts hown hin0 hP hD hS hA hK hl
  have hl : lv_has ls 1 [(0, .ref q)] := hl
  have hinX2 : ∀ w ∈ u_ws RX2 TX2 11, w ∈ wsX2_init := by decide +kernel
  have f_7 := hts (.fieldLink RX2 7 "NetworkCoordinatesModel" "state" "[I") (by decide +kernel)
  have f_13 := hts (.fieldLink RX2 13 "NetworkCoordinatesModel" "slots" "[I") (by decide +kernel)
  have f_16 := hts (.fieldLink RX2 16 "NetworkCoordinatesModel" "isSaved" "[Z") (by decide +kernel)
  have f_20 := hts (.fieldLink RX2 20 "NetworkCoordinatesModel" "often" "[I") (by decide +kernel)
  refine lv_aload_n hx hb dX2_init_0 rfl (lv_at hl 0 rfl) ?_
  refine W.objInit hx hb hown (hts (.methodLink RX2 1 objectInit) (by decide +kernel)) (hts (.instanceMethod objectInit) (by decide +kernel)) (hts (.code objectInit ⟨#[0xb1]⟩ 1 none) (by decide +kernel)) rfl (by rw [hml]; exact hl.1) rfl dX2_init_1 (Nat.le_of_ble_eq_true rfl) (Nat.le_of_ble_eq_true rfl) ?_
  refine W.eq (g2 := F0 m 4 ls []) rfl ?_
  refine lv_aload_n hx hb dX2_init_4 rfl (lv_at hl 0 rfl) ?_
  refine zr_sipush hx hb dX2_init_5 (by decide) ?_
  refine zr_newi hx hb (hts (.arrayClass .int) (by decide +kernel)) hK hP hD hS hA 155 rfl (Nat.le_of_ble_eq_true rfl) (Nat.le_of_ble_eq_true rfl) (Nat.le_of_ble_eq_true rfl) dX2_init_8 (fun q1 H hP hD hS => ?_)
  refine va_putF (D := (dC, dI)) (ci := 2) (v := .ref q1) (ty := (.array .int)) (C := RX2) (T := TX2) (N := 11) hx hb hts hinX2 tyX2 tyX2_ok nmX2 hown hK.1 hP hD hS 0 rfl rfl 0 (by decide) f_7 (fun _ h9 => h9) rfl hin0 rfl (by decide +kernel) rfl rfl (Nat.le_of_ble_eq_true rfl) dX2_init_10 (fun H locs hP hD hS => ?_)
  refine lv_aload_n hx hb dX2_init_13 rfl (lv_at hl 0 rfl) ?_
  refine zr_sipush hx hb dX2_init_14 (by decide) ?_
  refine zr_newi hx hb (hts (.arrayClass .int) (by decide +kernel)) hK hP hD hS hA 310 rfl (Nat.le_of_ble_eq_true rfl) (Nat.le_of_ble_eq_true rfl) (Nat.le_of_ble_eq_true rfl) dX2_init_17 (fun q2 H hP hD hS => ?_)
  refine va_putF (D := (dC, dI)) (ci := 2) (v := .ref q2) (ty := (.array .int)) (C := RX2) (T := TX2) (N := 11) hx hb hts hinX2 tyX2 tyX2_ok nmX2 hown hK.1 hP hD hS 0 rfl rfl 1 (by decide) f_13 (fun _ h9 => h9) rfl hin0 rfl (by decide +kernel) rfl rfl (Nat.le_of_ble_eq_true rfl) dX2_init_19 (fun H locs hP hD hS => ?_)
  refine lv_aload_n hx hb dX2_init_22 rfl (lv_at hl 0 rfl) ?_
  refine zr_iconst hx hb dX2_init_23 ?_
  refine zr_newz hx hb (hts (.arrayClass .boolean) (by decide +kernel)) hK hP hD hS hA 2 rfl (Nat.le_of_ble_eq_true rfl) (Nat.le_of_ble_eq_true rfl) (Nat.le_of_ble_eq_true rfl) dX2_init_24 (fun q3 H hP hD hS => ?_)
  refine va_putF (D := (dC, dI)) (ci := 2) (v := .ref q3) (ty := (.array .boolean)) (C := RX2) (T := TX2) (N := 11) hx hb hts hinX2 tyX2 tyX2_ok nmX2 hown hK.1 hP hD hS 0 rfl rfl 2 (by decide) f_16 (fun _ h9 => h9) rfl hin0 rfl (by decide +kernel) rfl rfl (Nat.le_of_ble_eq_true rfl) dX2_init_26 (fun H locs hP hD hS => ?_)
  refine lv_aload_n hx hb dX2_init_29 rfl (lv_at hl 0 rfl) ?_
  refine zr_bipush hx hb dX2_init_30 (by decide) ?_
  refine zr_newi hx hb (hts (.arrayClass .int) (by decide +kernel)) hK hP hD hS hA 10 rfl (Nat.le_of_ble_eq_true rfl) (Nat.le_of_ble_eq_true rfl) (Nat.le_of_ble_eq_true rfl) dX2_init_32 (fun q4 H hP hD hS => ?_)
  refine va_putF (D := (dC, dI)) (ci := 2) (v := .ref q4) (ty := (.array .int)) (C := RX2) (T := TX2) (N := 11) hx hb hts hinX2 tyX2 tyX2_ok nmX2 hown hK.1 hP hD hS 0 rfl rfl 10 (by decide) f_20 (fun _ h9 => h9) rfl hin0 rfl (by decide +kernel) rfl rfl (Nat.le_of_ble_eq_true rfl) dX2_init_34 (fun H locs hP hD hS => ?_)
  refine lv_aload_n hx hb dX2_init_37 rfl (lv_at hl 0 rfl) ?_
  refine va_get (D := (dC, dI)) (ci := 2) (v := .ref q1) (C := RX2) (T := TX2) (N := 11) hx hb hts hinX2 hown hK.1 hP 0 rfl rfl 0 (by decide) f_7 (fun _ h9 => h9) rfl dX2_init_38 ?_
  refine zr_iconst hx hb dX2_init_41 ?_
  refine zr_sipush hx hb dX2_init_42 (by decide) ?_
  refine zr_iast hx hb hK.1 hP hD hS 1 0 rfl rfl 2 (zset (fun _ => 0) 2 250) (by omega) (by omega) (Nat.le_of_ble_eq_true rfl) rfl dX2_init_45 (fun H locs hP hD hS => ?_)
  refine lv_aload_n hx hb dX2_init_46 rfl (lv_at hl 0 rfl) ?_
  refine va_get (D := (dC, dI)) (ci := 2) (v := .ref q1) (C := RX2) (T := TX2) (N := 11) hx hb hts hinX2 hown hK.1 hP 0 rfl rfl 0 (by decide) f_7 (fun _ h9 => h9) rfl dX2_init_47 ?_
  refine zr_iconst hx hb dX2_init_50 ?_
  refine zr_sipush hx hb dX2_init_51 (by decide) ?_
  refine zr_iast hx hb hK.1 hP hD hS 1 0 rfl rfl 3 (zset (zset (fun _ => 0) 2 250) 3 250) (by omega) (by omega) (Nat.le_of_ble_eq_true rfl) rfl dX2_init_54 (fun H locs hP hD hS => ?_)
  refine lv_aload_n hx hb dX2_init_55 rfl (lv_at hl 0 rfl) ?_
  refine va_get (D := (dC, dI)) (ci := 2) (v := .ref q1) (C := RX2) (T := TX2) (N := 11) hx hb hts hinX2 hown hK.1 hP 0 rfl rfl 0 (by decide) f_7 (fun _ h9 => h9) rfl dX2_init_56 ?_
  refine zr_iconst hx hb dX2_init_59 ?_
  refine zr_sipush hx hb dX2_init_60 (by decide) ?_
  refine zr_iast hx hb hK.1 hP hD hS 1 0 rfl rfl 4 (zset (zset (zset (fun _ => 0) 2 250) 3 250) 4 2000) (by omega) (by omega) (Nat.le_of_ble_eq_true rfl) rfl dX2_init_63 (fun H locs hP hD hS => ?_)
  refine lv_aload_n hx hb dX2_init_64 rfl (lv_at hl 0 rfl) ?_
  refine zr_iconst hx hb dX2_init_65 ?_
  have hP : va_P (dC, dI) vwCl (mdw cI cZ (ad5 q q1 q2 q3 q4) gZ (fun _ => 0) (fun _ => 0) (fun _ => 0) (fun _ => 0)) H := mdf_of (b := (ad5 q q1 q2 q3 q4)) (w := (fun _ => 0)) (S := (fun _ => 0)) (V := (fun _ => 0)) (o := (fun _ => 0)) flat_Z hP
  have hD : va_D (va_A (fr2 q) s.heap.size) (mdw cI cZ (ad5 q q1 q2 q3 q4) gZ (fun _ => 0) (fun _ => 0) (fun _ => 0) (fun _ => 0)) := va_D_adr hD rfl
  refine wr_callV (As := [.int (zI 5)]) (rest := []) ⟨hx, hb, hml, hown, hts⟩ (c_X2_begin l dC dI cI cZ cS (ad5 q q1 q2 q3 q4) gZ (fun _ => 0) (fun _ => 0) (fun _ => 0) (fun _ => 0) 5 (by omega)) (cwV 1 hts gX2_init_X2_begin rfl rfl rfl (by decide +kernel) ⟨(Nat.le_of_ble_eq_true rfl), (Nat.le_of_ble_eq_true rfl)⟩) hP hD hS hK 0 rfl rfl rfl hl.1 rfl (Nat.le_of_ble_eq_true rfl) dX2_init_66 ⟨(Nat.le_of_ble_eq_true rfl), (Nat.le_of_ble_eq_true rfl)⟩ (fun H locs hP1 hk1 hS => ?_)
  exact al_vret hx hb hr hlocks ⟨(ad5 q q1 q2 q3 q4), rfl, rfl⟩ hP1 (va_D_adr hD rfl) hS dX2_init_69
set_option maxHeartbeats 4000000 in
set_option maxRecDepth 100000 in
/-- save beyond its slots -/
theorem c_X1_save_bad (l : Launch) (dC : Nat → ClassId) (dI : Nat → Nat → Nat) (cI cZ cS : ClassId) (a : Nat → Nat) (h hs : Nat) (g : Nat → Nat → Int) (u : Int) (hu : -2147483648 ≤ u ∧ u ≤ 2147483647) (hu2 : ¬ (0 ≤ u ∧ u ≤ 1)) : Met l yX1_save wsX1_save ({ frames := 1, cells := 0, slots := 0, locals := 22 } : Room) (rd_Pc dC dI cI cZ cS (stw cI a g ++ mnw a h hs) [.ref h, .int (zI u)]) (rd_Qc (some (.int (zI (-1000002))))) 0 0 nf := by
  refine rd_met (cc := cX1_save) (maxL := 3) (ret := (some .int)) (by decide) rfl (Nat.le_of_ble_eq_true rfl) ?_
  intro p e s m below meth c ls hx hb hml hr hlocks hts hown hP hK hl
  have hl : lv_has ls 3 [(0, .ref h), (1, .int (zI u))] := hl
  have k_24 := hts (.constant RX1 24 (-1000002)) (by decide +kernel)
  refine lv_iload_n hx hb dX1_save_0 rfl (lv_at hl 1 rfl) ?_
  refine zr_iconst hx hb dX1_save_1 ?_
  refine zr_iconst hx hb dX1_save_2 ?_
  refine rd_callS (As := [.int (zI u), .int (zI 0), .int (zI 1)]) (rest := []) ⟨hx, hb, hml, hown, hts⟩ (c_X1_isWithin l dC dI cI cZ cS u 0 1 (by omega) (by omega) (by omega)) (va_cwS 3 hts gX1_save_X1_isWithin rfl rfl rfl (by decide +kernel) ⟨Nat.le_of_ble_eq_true rfl, Nat.le_of_ble_eq_true rfl⟩) va_P_nil hK rfl hl.1 rfl (Nat.le_of_ble_eq_true rfl) dX1_save_3 ⟨Nat.zero_le _, Nat.zero_le _⟩ ?_
  refine zr_bif_ne (tgt := 12) hx hb dX1_save_6 (by decide) (fun c_6 => absurd c_6 hu2) (fun c_6 => ?_)
  refine zr_ldc hx hb (-1000002) hown k_24 (by decide) dX1_save_9 ?_
  exact rd_iret hx hb hr hlocks rfl dX1_save_11
set_option maxHeartbeats 4000000 in
set_option maxRecDepth 100000 in
/-- restore beyond its slots -/
theorem c_X1_restore_bad (l : Launch) (dC : Nat → ClassId) (dI : Nat → Nat → Nat) (cI cZ cS : ClassId) (a : Nat → Nat) (h hs : Nat) (g : Nat → Nat → Int) (u : Int) (hu : -2147483648 ≤ u ∧ u ≤ 2147483647) (hu2 : ¬ (0 ≤ u ∧ u ≤ 1)) : Met l yX1_restore wsX1_restore ({ frames := 1, cells := 0, slots := 0, locals := 22 } : Room) (rd_Pc dC dI cI cZ cS (stw cI a g ++ mnw a h hs) [.ref h, .int (zI u)]) (rd_Qc (some (.int (zI (-1000002))))) 0 0 nf := by
  refine rd_met (cc := cX1_restore) (maxL := 3) (ret := (some .int)) (by decide) rfl (Nat.le_of_ble_eq_true rfl) ?_
  intro p e s m below meth c ls hx hb hml hr hlocks hts hown hP hK hl
  have hl : lv_has ls 3 [(0, .ref h), (1, .int (zI u))] := hl
  have k_24 := hts (.constant RX1 24 (-1000002)) (by decide +kernel)
  refine lv_iload_n hx hb dX1_restore_0 rfl (lv_at hl 1 rfl) ?_
  refine zr_iconst hx hb dX1_restore_1 ?_
  refine zr_iconst hx hb dX1_restore_2 ?_
  refine rd_callS (As := [.int (zI u), .int (zI 0), .int (zI 1)]) (rest := []) ⟨hx, hb, hml, hown, hts⟩ (c_X1_isWithin l dC dI cI cZ cS u 0 1 (by omega) (by omega) (by omega)) (va_cwS 3 hts gX1_restore_X1_isWithin rfl rfl rfl (by decide +kernel) ⟨Nat.le_of_ble_eq_true rfl, Nat.le_of_ble_eq_true rfl⟩) va_P_nil hK rfl hl.1 rfl (Nat.le_of_ble_eq_true rfl) dX1_restore_3 ⟨Nat.zero_le _, Nat.zero_le _⟩ ?_
  refine zr_bif_ne (tgt := 12) hx hb dX1_restore_6 (by decide) (fun c_6 => absurd c_6 hu2) (fun c_6 => ?_)
  refine zr_ldc hx hb (-1000002) hown k_24 (by decide) dX1_restore_9 ?_
  exact rd_iret hx hb hr hlocks rfl dX1_restore_11
set_option maxHeartbeats 4000000 in
set_option maxRecDepth 100000 in
/-- restore of an empty slot -/
theorem c_X1_restore_none (l : Launch) (dC : Nat → ClassId) (dI : Nat → Nat → Nat) (cI cZ cS : ClassId) (a : Nat → Nat) (h hs : Nat) (sf : Nat → Option Nat) (g : Nat → Nat → Int) (A : Nat) (hA2 : A < 2) (hn : sf A = none) : Met l yX1_restore wsX1_restore ({ frames := 1, cells := 0, slots := 0, locals := 22 } : Room) (rd_Pc dC dI cI cZ cS (stw cI a g ++ mnw a h hs ++ slw cS hs sf) [.ref h, .int (zI (A : Int))]) (rd_Qc (some (.int (zI (-1000006))))) 0 0 nf := by
  refine rd_met (cc := cX1_restore) (maxL := 3) (ret := (some .int)) (by decide) rfl (Nat.le_of_ble_eq_true rfl) ?_
  intro p e s m below meth c ls hx hb hml hr hlocks hts hown hP hK hl
  have hl : lv_has ls 3 [(0, .ref h), (1, .int (zI (A : Int)))] := hl
  have hinX1 : ∀ w ∈ u_ws RX1 TX1 2, w ∈ wsX1_restore := by decide +kernel
  have f_16 := hts (.fieldLink RX1 16 "NetworkCoordinates" "slots" "[LNetworkCoordinates$State;") (by decide +kernel)
  have k_141 := hts (.constant RX1 141 (-1000006)) (by decide +kernel)
  refine lv_iload_n hx hb dX1_restore_0 rfl (lv_at hl 1 rfl) ?_
  refine zr_iconst hx hb dX1_restore_1 ?_
  refine zr_iconst hx hb dX1_restore_2 ?_
  refine rd_callS (As := [.int (zI (A : Int)), .int (zI 0), .int (zI 1)]) (rest := []) ⟨hx, hb, hml, hown, hts⟩ (c_X1_isWithin l dC dI cI cZ cS (A : Int) 0 1 (by omega) (by omega) (by omega)) (va_cwS 3 hts gX1_restore_X1_isWithin rfl rfl rfl (by decide +kernel) ⟨Nat.le_of_ble_eq_true rfl, Nat.le_of_ble_eq_true rfl⟩) va_P_nil hK rfl hl.1 rfl (Nat.le_of_ble_eq_true rfl) dX1_restore_3 ⟨Nat.zero_le _, Nat.zero_le _⟩ ?_
  refine zr_bif_ne (tgt := 12) hx hb dX1_restore_6 (by decide) (fun c_6 => ?_) (fun c_6 => absurd c_6 (by omega))
  refine lv_aload_n hx hb dX1_restore_12 rfl (lv_at hl 0 rfl) ?_
  refine va_get (D := (dC, dI)) (ci := 1) (v := .ref hs) (C := RX1) (T := TX1) (N := 2) hx hb hts hinX1 hown hK.1 hP 7 rfl rfl 1 (by decide) f_16 (fun _ h9 => h9) rfl dX1_restore_13 ?_
  refine lv_iload_n hx hb dX1_restore_16 rfl (lv_at hl 1 rfl) ?_
  refine zr_aald hx hb hK hP 8 rfl A none rfl (by omega) (Nat.le_of_ble_eq_true rfl) hn dX1_restore_17 ?_
  refine W.eq (g2 := F0 m 18 ls [.null]) rfl ?_
  refine lv_astore_nN (lv' := [(2, .null), (0, .ref h), (1, .int (zI (A : Int)))]) hx hb dX1_restore_18 rfl hl (by decide) rfl (fun ls hl => ?_)
  refine lv_aload_nN hx hb dX1_restore_19 rfl (lv_at hl 0 rfl) ?_
  refine lv_ifnonnullN hx hb dX1_restore_20 ?_
  refine zr_ldc hx hb (-1000006) hown k_141 (by decide) dX1_restore_23 ?_
  exact rd_iret hx hb hr hlocks rfl dX1_restore_25
set_option maxHeartbeats 4000000 in
set_option maxRecDepth 100000 in
/-- restore -/
theorem c_X1_restore_some (l : Launch) (dC : Nat → ClassId) (dI : Nat → Nat → Nat) (cI cZ cS : ClassId) (a b : Nat → Nat) (h hs : Nat) (sf : Nat → Option Nat) (g g2 : Nat → Nat → Int) (A : Nat) (hA2 : A < 2) (hn : sf A = some (b 0)) : Met l yX1_restore wsX1_restore ({ frames := 2, cells := 0, slots := 0, locals := 81 } : Room) (wr_Pc dC dI cI cZ cS (stw cI a g ++ mnw a h hs ++ slw cS hs sf ++ stw cI b g2) [.ref h, .int (zI (A : Int))]) (wr_Qc dC dI (stw cI a g ++ mnw a h hs ++ slw cS hs sf ++ stw cI b g2) (stw cI a (sCpy g g2) ++ mnw a h hs ++ slw cS hs sf ++ stw cI b g2) (some (.int (zI 1)))) 0 0 (wr_ad (stw cI a g ++ mnw a h hs ++ slw cS hs sf ++ stw cI b g2)) := by
  refine wr_met (cc := cX1_restore) (maxL := 3) (ret := (some .int)) (by decide) rfl (Nat.le_of_ble_eq_true rfl) ?_
  intro p e s m below meth c ls hx hb hml hr hlocks hts hown hP hD hS hK hl
  have hl : lv_has ls 3 [(0, .ref h), (1, .int (zI (A : Int)))] := hl
  have hinX1 : ∀ w ∈ u_ws RX1 TX1 2, w ∈ wsX1_restore := by decide +kernel
  have f_16 := hts (.fieldLink RX1 16 "NetworkCoordinates" "slots" "[LNetworkCoordinates$State;") (by decide +kernel)
  have f_10 := hts (.fieldLink RX1 10 "NetworkCoordinates" "now" "LNetworkCoordinates$State;") (by decide +kernel)
  refine lv_iload_n hx hb dX1_restore_0 rfl (lv_at hl 1 rfl) ?_
  refine zr_iconst hx hb dX1_restore_1 ?_
  refine zr_iconst hx hb dX1_restore_2 ?_
  refine rd_callS (As := [.int (zI (A : Int)), .int (zI 0), .int (zI 1)]) (rest := []) ⟨hx, hb, hml, hown, hts⟩ (c_X1_isWithin l dC dI cI cZ cS (A : Int) 0 1 (by omega) (by omega) (by omega)) (va_cwS 3 hts gX1_restore_X1_isWithin rfl rfl rfl (by decide +kernel) ⟨Nat.le_of_ble_eq_true rfl, Nat.le_of_ble_eq_true rfl⟩) va_P_nil hK rfl hl.1 rfl (Nat.le_of_ble_eq_true rfl) dX1_restore_3 ⟨Nat.zero_le _, Nat.zero_le _⟩ ?_
  refine zr_bif_ne (tgt := 12) hx hb dX1_restore_6 (by decide) (fun c_6 => ?_) (fun c_6 => absurd c_6 (by omega))
  refine lv_aload_n hx hb dX1_restore_12 rfl (lv_at hl 0 rfl) ?_
  refine va_get (D := (dC, dI)) (ci := 1) (v := .ref hs) (C := RX1) (T := TX1) (N := 2) hx hb hts hinX1 hown hK.1 hP 7 rfl rfl 1 (by decide) f_16 (fun _ h9 => h9) rfl dX1_restore_13 ?_
  refine lv_iload_n hx hb dX1_restore_16 rfl (lv_at hl 1 rfl) ?_
  refine zr_aald hx hb hK hP 8 rfl A (some (b 0)) rfl (by omega) (Nat.le_of_ble_eq_true rfl) hn dX1_restore_17 ?_
  refine W.eq (g2 := F0 m 18 ls [.ref (b 0)]) rfl ?_
  refine lv_astore_n (lv' := [(2, .ref (b 0)), (0, .ref h), (1, .int (zI (A : Int)))]) hx hb dX1_restore_18 rfl hl (by decide) rfl (fun ls hl => ?_)
  refine lv_aload_n hx hb dX1_restore_19 rfl (lv_at hl 0 rfl) ?_
  refine lv_ifnonnull (tgt := 26) hx hb dX1_restore_20 (by decide) ?_
  refine lv_aload_n hx hb dX1_restore_26 rfl (lv_at hl 1 rfl) ?_
  refine va_get (D := (dC, dI)) (ci := 1) (v := .ref (a 0)) (C := RX1) (T := TX1) (N := 2) hx hb hts hinX1 hown hK.1 hP 7 rfl rfl 0 (by decide) f_10 (fun _ h9 => h9) rfl dX1_restore_27 ?_
  refine lv_aload_n hx hb dX1_restore_30 rfl (lv_at hl 0 rfl) ?_
  have hPc : va_P (dC, dI) vwCl (stw cI a g ++ stw cI b g2) s.heap := hP.sub [0, 1, 2, 3, 4, 5, 6, 9, 10, 11, 12, 13, 14, 15] rfl
  have hDc := hD.sub (ws' := (stw cI a g ++ stw cI b g2)) [0, 1, 2, 3, 4, 5, 6, 9, 10, 11, 12, 13, 14, 15] (by decide) rfl
  refine wr_callV (As := [.ref (b 0)]) (rest := []) ⟨hx, hb, hml, hown, hts⟩ (c_X0_copyFrom l dC dI cI cZ cS a b g g2) (cwV 1 hts gX1_restore_X0_copyFrom rfl rfl rfl (by decide +kernel) ⟨(Nat.le_of_ble_eq_true rfl), (Nat.le_of_ble_eq_true rfl)⟩) hPc hDc hS hK 0 rfl rfl rfl hl.1 rfl (Nat.le_of_ble_eq_true rfl) dX1_restore_31 ⟨(Nat.le_of_ble_eq_true rfl), (Nat.le_of_ble_eq_true rfl)⟩ (fun H locs hP1 hk1 hS => ?_)
  have hP := wr_join (wr := mnw a h hs ++ slw cS hs sf) hP hD [0, 1, 2, 3, 4, 5, 6, 9, 10, 11, 12, 13, 14, 15] [7, 8] rfl rfl (by decide) hk1 hP1
  have hP : va_P (dC, dI) vwCl (stw cI a (sCpy g g2) ++ mnw a h hs ++ slw cS hs sf ++ stw cI b g2) H := hP.sub [2, 3, 4, 5, 6, 7, 8, 0, 1, 9, 10, 11, 12, 13, 14, 15] rfl
  refine zr_iconst hx hb dX1_restore_34 ?_
  exact wr_iret hx hb hr hlocks hP hS rfl dX1_restore_35
set_option maxHeartbeats 4000000 in
set_option maxRecDepth 100000 in
/-- save over what was saved -/
theorem c_X1_save_old (l : Launch) (dC : Nat → ClassId) (dI : Nat → Nat → Nat) (cI cZ cS : ClassId) (a b : Nat → Nat) (h hs : Nat) (sf : Nat → Option Nat) (g g2 : Nat → Nat → Int) (A : Nat) (hA2 : A < 2) (hn : sf A = some (b 0)) : Met l yX1_save wsX1_save ({ frames := 2, cells := 0, slots := 0, locals := 81 } : Room) (wr_Pc dC dI cI cZ cS (stw cI a g ++ mnw a h hs ++ slw cS hs sf ++ stw cI b g2) [.ref h, .int (zI (A : Int))]) (wr_Qc dC dI (stw cI a g ++ mnw a h hs ++ slw cS hs sf ++ stw cI b g2) (stw cI a g ++ mnw a h hs ++ slw cS hs sf ++ stw cI b (sCpy g2 g)) (some (.int (zI 1)))) 0 0 (wr_ad (stw cI a g ++ mnw a h hs ++ slw cS hs sf ++ stw cI b g2)) := by
  refine wr_met (cc := cX1_save) (maxL := 3) (ret := (some .int)) (by decide) rfl (Nat.le_of_ble_eq_true rfl) ?_
  intro p e s m below meth c ls hx hb hml hr hlocks hts hown hP hD hS hK hl
  have hl : lv_has ls 3 [(0, .ref h), (1, .int (zI (A : Int)))] := hl
  have hinX1 : ∀ w ∈ u_ws RX1 TX1 2, w ∈ wsX1_save := by decide +kernel
  have f_16 := hts (.fieldLink RX1 16 "NetworkCoordinates" "slots" "[LNetworkCoordinates$State;") (by decide +kernel)
  have f_10 := hts (.fieldLink RX1 10 "NetworkCoordinates" "now" "LNetworkCoordinates$State;") (by decide +kernel)
  refine lv_iload_n hx hb dX1_save_0 rfl (lv_at hl 1 rfl) ?_
  refine zr_iconst hx hb dX1_save_1 ?_
  refine zr_iconst hx hb dX1_save_2 ?_
  refine rd_callS (As := [.int (zI (A : Int)), .int (zI 0), .int (zI 1)]) (rest := []) ⟨hx, hb, hml, hown, hts⟩ (c_X1_isWithin l dC dI cI cZ cS (A : Int) 0 1 (by omega) (by omega) (by omega)) (va_cwS 3 hts gX1_save_X1_isWithin rfl rfl rfl (by decide +kernel) ⟨Nat.le_of_ble_eq_true rfl, Nat.le_of_ble_eq_true rfl⟩) va_P_nil hK rfl hl.1 rfl (Nat.le_of_ble_eq_true rfl) dX1_save_3 ⟨Nat.zero_le _, Nat.zero_le _⟩ ?_
  refine zr_bif_ne (tgt := 12) hx hb dX1_save_6 (by decide) (fun c_6 => ?_) (fun c_6 => absurd c_6 (by omega))
  refine lv_aload_n hx hb dX1_save_12 rfl (lv_at hl 0 rfl) ?_
  refine va_get (D := (dC, dI)) (ci := 1) (v := .ref hs) (C := RX1) (T := TX1) (N := 2) hx hb hts hinX1 hown hK.1 hP 7 rfl rfl 1 (by decide) f_16 (fun _ h9 => h9) rfl dX1_save_13 ?_
  refine lv_iload_n hx hb dX1_save_16 rfl (lv_at hl 1 rfl) ?_
  refine zr_aald hx hb hK hP 8 rfl A (some (b 0)) rfl (by omega) (Nat.le_of_ble_eq_true rfl) hn dX1_save_17 ?_
  refine W.eq (g2 := F0 m 18 ls [.ref (b 0)]) rfl ?_
  refine lv_astore_n (lv' := [(2, .ref (b 0)), (0, .ref h), (1, .int (zI (A : Int)))]) hx hb dX1_save_18 rfl hl (by decide) rfl (fun ls hl => ?_)
  refine lv_aload_n hx hb dX1_save_19 rfl (lv_at hl 0 rfl) ?_
  refine lv_ifnonnull (tgt := 38) hx hb dX1_save_20 (by decide) ?_
  refine lv_aload_n hx hb dX1_save_38 rfl (lv_at hl 0 rfl) ?_
  refine lv_aload_n hx hb dX1_save_39 rfl (lv_at hl 1 rfl) ?_
  refine va_get (D := (dC, dI)) (ci := 1) (v := .ref (a 0)) (C := RX1) (T := TX1) (N := 2) hx hb hts hinX1 hown hK.1 hP 7 rfl rfl 0 (by decide) f_10 (fun _ h9 => h9) rfl dX1_save_40 ?_
  have hPc : va_P (dC, dI) vwCl (stw cI b g2 ++ stw cI a g) s.heap := hP.sub [9, 10, 11, 12, 13, 14, 15, 0, 1, 2, 3, 4, 5, 6] rfl
  have hDc := hD.sub (ws' := (stw cI b g2 ++ stw cI a g)) [9, 10, 11, 12, 13, 14, 15, 0, 1, 2, 3, 4, 5, 6] (by decide) rfl
  refine wr_callV (As := [.ref (a 0)]) (rest := []) ⟨hx, hb, hml, hown, hts⟩ (c_X0_copyFrom l dC dI cI cZ cS b a g2 g) (cwV 1 hts gX1_save_X0_copyFrom rfl rfl rfl (by decide +kernel) ⟨(Nat.le_of_ble_eq_true rfl), (Nat.le_of_ble_eq_true rfl)⟩) hPc hDc hS hK 0 rfl rfl rfl hl.1 rfl (Nat.le_of_ble_eq_true rfl) dX1_save_43 ⟨(Nat.le_of_ble_eq_true rfl), (Nat.le_of_ble_eq_true rfl)⟩ (fun H locs hP1 hk1 hS => ?_)
  have hP := wr_join (wr := mnw a h hs ++ slw cS hs sf) hP hD [9, 10, 11, 12, 13, 14, 15, 0, 1, 2, 3, 4, 5, 6] [7, 8] rfl rfl (by decide) hk1 hP1
  have hP : va_P (dC, dI) vwCl (stw cI a g ++ mnw a h hs ++ slw cS hs sf ++ stw cI b (sCpy g2 g)) H := hP.sub [9, 10, 11, 12, 13, 14, 15, 0, 1, 2, 3, 4, 5, 6, 7, 8] rfl
  refine zr_iconst hx hb dX1_save_46 ?_
  exact wr_iret hx hb hr hlocks hP hS rfl dX1_save_47
set_option maxHeartbeats 4000000 in
set_option maxRecDepth 100000 in
/-- save, the first time -/
theorem c_X1_save_new (l : Launch) (dC : Nat → ClassId) (dI : Nat → Nat → Nat) (cI cZ cS : ClassId) (sz : Nat) (a : Nat → Nat) (h hs : Nat) (sf : Nat → Option Nat) (g : Nat → Nat → Int) (A : Nat) (hA2 : A < 2) (hn : sf A = none) : Met l yX1_save wsX1_save ({ frames := 3, cells := 7, slots := 161, locals := 81 } : Room) (al_Pc dC dI cI cZ cS sz (stw cI a g ++ mnw a h hs ++ slw cS hs sf) [.ref h, .int (zI (A : Int))]) (al_Qc dC dI sz (stw cI a g ++ mnw a h hs ++ slw cS hs sf) (fun w2 => ∃ b : Nat → Nat, w2 = stw cI a g ++ mnw a h hs ++ slw cS hs (va_up sf A (some (b 0))) ++ stw cI b (sCpy gNi g)) (some (.int (zI 1)))) 7 161 (va_A (stw cI a g ++ mnw a h hs ++ slw cS hs sf) sz) := by
  refine al_met (cc := cX1_save) (maxL := 3) (ret := (some .int)) (by decide) rfl (Nat.le_of_ble_eq_true rfl) ?_
  intro p e s m below meth c ls hx hb hml hr hlocks hts hown hin0 hP hD hS hA hK hl
  have hl : lv_has ls 3 [(0, .ref h), (1, .int (zI (A : Int)))] := hl
  have hinX0 : ∀ w ∈ u_ws RX0 TX0 11, w ∈ wsX1_save := by decide +kernel
  have hinX1 : ∀ w ∈ u_ws RX1 TX1 2, w ∈ wsX1_save := by decide +kernel
  have f_16 := hts (.fieldLink RX1 16 "NetworkCoordinates" "slots" "[LNetworkCoordinates$State;") (by decide +kernel)
  have f_10 := hts (.fieldLink RX1 10 "NetworkCoordinates" "now" "LNetworkCoordinates$State;") (by decide +kernel)
  refine lv_iload_n hx hb dX1_save_0 rfl (lv_at hl 1 rfl) ?_
  refine zr_iconst hx hb dX1_save_1 ?_
  refine zr_iconst hx hb dX1_save_2 ?_
  refine rd_callS (As := [.int (zI (A : Int)), .int (zI 0), .int (zI 1)]) (rest := []) ⟨hx, hb, hml, hown, hts⟩ (c_X1_isWithin l dC dI cI cZ cS (A : Int) 0 1 (by omega) (by omega) (by omega)) (va_cwS 3 hts gX1_save_X1_isWithin rfl rfl rfl (by decide +kernel) ⟨Nat.le_of_ble_eq_true rfl, Nat.le_of_ble_eq_true rfl⟩) va_P_nil hK rfl hl.1 rfl (Nat.le_of_ble_eq_true rfl) dX1_save_3 ⟨Nat.zero_le _, Nat.zero_le _⟩ ?_
  refine zr_bif_ne (tgt := 12) hx hb dX1_save_6 (by decide) (fun c_6 => ?_) (fun c_6 => absurd c_6 (by omega))
  refine lv_aload_n hx hb dX1_save_12 rfl (lv_at hl 0 rfl) ?_
  refine va_get (D := (dC, dI)) (ci := 1) (v := .ref hs) (C := RX1) (T := TX1) (N := 2) hx hb hts hinX1 hown hK.1 hP 7 rfl rfl 1 (by decide) f_16 (fun _ h9 => h9) rfl dX1_save_13 ?_
  refine lv_iload_n hx hb dX1_save_16 rfl (lv_at hl 1 rfl) ?_
  refine zr_aald hx hb hK hP 8 rfl A none rfl (by omega) (Nat.le_of_ble_eq_true rfl) hn dX1_save_17 ?_
  refine W.eq (g2 := F0 m 18 ls [.null]) rfl ?_
  refine lv_astore_nN (lv' := [(2, .null), (0, .ref h), (1, .int (zI (A : Int)))]) hx hb dX1_save_18 rfl hl (by decide) rfl (fun ls hl => ?_)
  refine lv_aload_nN hx hb dX1_save_19 rfl (lv_at hl 0 rfl) ?_
  refine lv_ifnonnullN hx hb dX1_save_20 ?_
  refine va_new (ci := 0) (fs := [.int (zI 0), .int (zI 0), .int (zI 0), .int (zI 0), .int (zI 0), .null, .null, .null, .null, .null, .null]) (C := RX0) (T := TX0) (N := 11) hx hb hts hinX0 tyX0 tyX0_ok hown (hts (.classLink RX1 7 RX0) (by decide +kernel)) (hts (.instantiable RX0 11) (by decide +kernel)) (hts (.initialized RX0) (by decide +kernel)) hK.1 hP hD hS hA rfl (fun j hj => by rcases (show j = 0 ∨ j = 1 ∨ j = 2 ∨ j = 3 ∨ j = 4 ∨ j = 5 ∨ j = 6 ∨ j = 7 ∨ j = 8 ∨ j = 9 ∨ j = 10 by omega) with rfl | rfl | rfl | rfl | rfl | rfl | rfl | rfl | rfl | rfl | rfl <;> first | rfl | exact congrArg Value.int z_00) (Nat.le_of_ble_eq_true rfl) (Nat.le_of_ble_eq_true rfl) dX1_save_23 (fun q5 H hP hD hS => ?_)
  refine lv_dup hx hb dX1_save_26 rfl ?_
  have hPc : va_P (dC, dI) vwCl (fr0 q5) H := hP.sub [9] rfl
  have hDc : va_D _ (fr0 q5) := hD.sub [9] (by decide) rfl
  have hFc := va_free (wc := fr0 q5) hD hS hA [9] rfl
  refine al_callI (As := []) (rest := .ref q5 :: []) ⟨hx, hb, hml, hown, hts⟩ (c_X0_init l dC dI cI cZ cS H.size q5) (cwI 0 hts gX1_save_X0_init rfl rfl rfl (hts (.initialized RX0) (by decide +kernel)) (hts (.methodLink RX1 9 yX0_init) (by decide +kernel)) (hts (.instanceMethod yX0_init) (by decide +kernel)) rfl (by decide +kernel) ⟨(Nat.le_of_ble_eq_true rfl), (Nat.le_of_ble_eq_true rfl)⟩) hPc hDc hFc hS hK rfl hl.1 rfl (Nat.le_of_ble_eq_true rfl) dX1_save_27 ⟨(Nat.le_of_ble_eq_true rfl), (Nat.le_of_ble_eq_true rfl)⟩ (fun w2 H locs hB hP1 hD1 hk1 hS => ?_)
  obtain ⟨b, hb0, rfl⟩ := hB
  subst hb0
  obtain ⟨hP, hD⟩ := va_join (wr := stw cI a g ++ mnw a h hs ++ slw cS hs sf) (w1 := stw cI b gNi) hP hD [9] [0, 1, 2, 3, 4, 5, 6, 7, 8] rfl rfl (by decide) (by decide) hk1 hFc hP1 hD1
  have hP : va_P (dC, dI) vwCl (stw cI a g ++ mnw a h hs ++ slw cS hs sf ++ stw cI b gNi) H := hP
  have hD : va_D (va_A (stw cI a g ++ mnw a h hs ++ slw cS hs sf) s.heap.size) (stw cI a g ++ mnw a h hs ++ slw cS hs sf ++ stw cI b gNi) := hD
  refine lv_astore_n (lv' := [(2, .ref (b 0)), (0, .ref h), (1, .int (zI (A : Int)))]) hx hb dX1_save_30 rfl hl (by decide) rfl (fun ls hl => ?_)
  refine lv_aload_n hx hb dX1_save_31 rfl (lv_at hl 1 rfl) ?_
  refine va_get (D := (dC, dI)) (ci := 1) (v := .ref hs) (C := RX1) (T := TX1) (N := 2) hx hb hts hinX1 hown hK.1 hP 7 rfl rfl 1 (by decide) f_16 (fun _ h9 => h9) rfl dX1_save_32 ?_
  refine lv_iload_n hx hb dX1_save_35 rfl (lv_at hl 2 rfl) ?_
  refine lv_aload_n hx hb dX1_save_36 rfl (lv_at hl 0 rfl) ?_
  refine zr_aast hx hb hK hP hD hS 8 9 rfl rfl A rfl (by omega) (Nat.le_of_ble_eq_true rfl) dX1_save_37 (fun H locs hP hD hS => ?_)
  have hP : va_P (dC, dI) vwCl (stw cI a g ++ mnw a h hs ++ slw cS hs (va_up sf A (some (b 0))) ++ stw cI b gNi) H := hP
  have hD : va_D (va_A (stw cI a g ++ mnw a h hs ++ slw cS hs sf) s.heap.size) (stw cI a g ++ mnw a h hs ++ slw cS hs (va_up sf A (some (b 0))) ++ stw cI b gNi) := hD
  refine lv_aload_n hx hb dX1_save_38 rfl (lv_at hl 0 rfl) ?_
  refine lv_aload_n hx hb dX1_save_39 rfl (lv_at hl 1 rfl) ?_
  refine va_get (D := (dC, dI)) (ci := 1) (v := .ref (a 0)) (C := RX1) (T := TX1) (N := 2) hx hb hts hinX1 hown hK.1 hP 7 rfl rfl 0 (by decide) f_10 (fun _ h9 => h9) rfl dX1_save_40 ?_
  have hPc : va_P (dC, dI) vwCl (stw cI b gNi ++ stw cI a g) H := hP.sub [9, 10, 11, 12, 13, 14, 15, 0, 1, 2, 3, 4, 5, 6] rfl
  have hDc := hD.sub (ws' := (stw cI b gNi ++ stw cI a g)) [9, 10, 11, 12, 13, 14, 15, 0, 1, 2, 3, 4, 5, 6] (by decide) rfl
  refine wr_callV (As := [.ref (a 0)]) (rest := []) ⟨hx, hb, hml, hown, hts⟩ (c_X0_copyFrom l dC dI cI cZ cS b a gNi g) (cwV 1 hts gX1_save_X0_copyFrom rfl rfl rfl (by decide +kernel) ⟨(Nat.le_of_ble_eq_true rfl), (Nat.le_of_ble_eq_true rfl)⟩) hPc hDc hS hK 0 rfl rfl rfl hl.1 rfl (Nat.le_of_ble_eq_true rfl) dX1_save_43 ⟨(Nat.le_of_ble_eq_true rfl), (Nat.le_of_ble_eq_true rfl)⟩ (fun H locs hP1 hk1 hS => ?_)
  have hP := wr_join (wr := mnw a h hs ++ slw cS hs (va_up sf A (some (b 0)))) hP hD [9, 10, 11, 12, 13, 14, 15, 0, 1, 2, 3, 4, 5, 6] [7, 8] rfl rfl (by decide) hk1 hP1
  have hP : va_P (dC, dI) vwCl (stw cI a g ++ mnw a h hs ++ slw cS hs (va_up sf A (some (b 0))) ++ stw cI b (sCpy gNi g)) H := hP.sub [9, 10, 11, 12, 13, 14, 15, 0, 1, 2, 3, 4, 5, 6, 7, 8] rfl
  have hD : va_D (va_A (stw cI a g ++ mnw a h hs ++ slw cS hs sf) s.heap.size) (stw cI a g ++ mnw a h hs ++ slw cS hs (va_up sf A (some (b 0))) ++ stw cI b (sCpy gNi g)) := va_D_adr hD rfl
  refine zr_iconst hx hb dX1_save_46 ?_
  exact al_iret hx hb hr hlocks ⟨b, rfl⟩ hP hD hS rfl dX1_save_47
