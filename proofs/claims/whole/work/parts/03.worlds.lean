/-! OWN ROWS: worlds and contracts -/
def gset (g : Nat → Nat → Int) (r i : Nat) (z : Int) : Nat → Nat → Int := fun q => cond (Nat.beq q r) (zset (g q) i z) (g q)
abbrev stf (a : Nat → Nat) (g : Nat → Nat → Int) : List Value := [.int (zI (g 0 0)), .int (zI (g 0 1)), .int (zI (g 0 2)), .int (zI (g 0 3)), .int (zI (g 0 4)), .ref (a 1), .ref (a 2), .ref (a 3), .ref (a 4), .ref (a 5), .ref (a 6)]
abbrev stw (cI : ClassId) (a : Nat → Nat) (g : Nat → Nat → Int) : va_W := [(a 0, .inr (0, stf a g)), (a 1, .inl (cI, 10, .inl (fun k => zI (g 1 k)))), (a 2, .inl (cI, 10, .inl (fun k => zI (g 2 k)))), (a 3, .inl (cI, 10, .inl (fun k => zI (g 3 k)))), (a 4, .inl (cI, 10, .inl (fun k => zI (g 4 k)))), (a 5, .inl (cI, 10, .inl (fun k => zI (g 5 k)))), (a 6, .inl (cI, 100, .inl (fun k => zI (g 6 k))))]
abbrev mnw (a : Nat → Nat) (h hs : Nat) : va_W := [(h, .inr (1, [.ref (a 0), .ref hs]))]
def flat (g : Nat → Nat → Int) (k : Nat) : Int := if k < 5 then g 0 k else if k < 15 then g 1 (k - 5) else if k < 25 then g 2 (k - 15) else if k < 35 then g 3 (k - 25) else if k < 45 then g 4 (k - 35) else if k < 55 then g 5 (k - 45) else g 6 (k - 55)
/-- the reference's cells: its object, its state, slots, which are saved, how often a node is met; w: its seven numbers -/
abbrev mdw (cI cZ : ClassId) (b : Nat → Nat) (g : Nat → Nat → Int) (w : Nat → Int) (S B o : Nat → Int) : va_W := [(b 0, .inr (2, [.ref (b 1), .ref (b 2), .ref (b 3), .int (zI (w 0)), .int (zI (w 1)), .int (zI (w 2)), .int (zI (w 3)), .int (zI (w 4)), .int (zI (w 5)), .int (zI (w 6)), .ref (b 4)])), (b 1, .inl (cI, 155, .inl (fun k => zI (flat g k)))), (b 2, .inl (cI, 310, .inl (fun k => zI (S k)))), (b 3, .inl (cZ, 2, .inl (fun k => zI (B k)))), (b 4, .inl (cI, 10, .inl (fun k => zI (o k))))]
abbrev zT (cI cZ cS : ClassId) : List (ClassId × FieldType) := [(cI, .int), (cZ, .boolean), (cS, .object RX0)]
def nw_ws : List Cond := [.fieldLinkNest RX1 25 RX0 "nodes" "I" RX1, .fieldLinkNest RX1 97 RX0 "round" "I" RX1, .fieldLinkNest RX1 56 RX0 "errorGain" "I" RX1, .fieldLinkNest RX1 59 RX0 "moveGain" "I" RX1, .fieldLinkNest RX1 62 RX0 "maxStep" "I" RX1, .fieldLinkNest RX1 74 RX0 "xs" "[I" RX1, .fieldLinkNest RX1 77 RX0 "ys" "[I" RX1, .fieldLinkNest RX1 80 RX0 "heights" "[I" RX1, .fieldLinkNest RX1 67 RX0 "errors" "[I" RX1, .fieldLinkNest RX1 52 RX0 "lies" "[I" RX1, .methodLinkNest RX0 64 yX1_planarDistance RX1, .methodLinkNest RX0 103 yX1_quotient RX1, .methodLinkNest RX0 124 yX1_limited RX1, .methodLinkNest RX0 128 yX1_share RX1]
def kK (dC : Nat → ClassId) (dI : Nat → Nat → Nat) (cI cZ cS : ClassId) (U : State) : Prop := va_K (dC, dI) vwCl (zT cI cZ cS) U ∧ (∀ w ∈ nw_ws, va_Nw w U) ∧ va_AO RX0 U
theorem nw_at (i : Nat) {w : Cond} (h : nw_ws[i]? = some w) : w ∈ nw_ws := List.mem_of_getElem? h
theorem nw_all {P : Cond → Prop} (h0 : P (.fieldLinkNest RX1 25 RX0 "nodes" "I" RX1)) (h1 : P (.fieldLinkNest RX1 97 RX0 "round" "I" RX1)) (h2 : P (.fieldLinkNest RX1 56 RX0 "errorGain" "I" RX1)) (h3 : P (.fieldLinkNest RX1 59 RX0 "moveGain" "I" RX1)) (h4 : P (.fieldLinkNest RX1 62 RX0 "maxStep" "I" RX1)) (h5 : P (.fieldLinkNest RX1 74 RX0 "xs" "[I" RX1)) (h6 : P (.fieldLinkNest RX1 77 RX0 "ys" "[I" RX1)) (h7 : P (.fieldLinkNest RX1 80 RX0 "heights" "[I" RX1)) (h8 : P (.fieldLinkNest RX1 67 RX0 "errors" "[I" RX1)) (h9 : P (.fieldLinkNest RX1 52 RX0 "lies" "[I" RX1)) (h10 : P (.methodLinkNest RX0 64 yX1_planarDistance RX1)) (h11 : P (.methodLinkNest RX0 103 yX1_quotient RX1)) (h12 : P (.methodLinkNest RX0 124 yX1_limited RX1)) (h13 : P (.methodLinkNest RX0 128 yX1_share RX1)) : ∀ w ∈ nw_ws, P w := by
  intro w hw
  unfold nw_ws at hw
  simp only [List.mem_cons, List.not_mem_nil, or_false] at hw
  rcases hw with rfl | rfl | rfl | rfl | rfl | rfl | rfl | rfl | rfl | rfl | rfl | rfl | rfl | rfl <;> assumption
theorem nw_moved {s U : State} (hW : s.WarmedH U.vm) (h : ∀ w ∈ nw_ws, va_Nw w s) : ∀ w ∈ nw_ws, va_Nw w U :=
  nw_all (P := fun w => va_Nw w U) (va_Nw.warmF hW (h _ (nw_at 0 rfl))) (va_Nw.warmF hW (h _ (nw_at 1 rfl))) (va_Nw.warmF hW (h _ (nw_at 2 rfl))) (va_Nw.warmF hW (h _ (nw_at 3 rfl))) (va_Nw.warmF hW (h _ (nw_at 4 rfl))) (va_Nw.warmF hW (h _ (nw_at 5 rfl))) (va_Nw.warmF hW (h _ (nw_at 6 rfl))) (va_Nw.warmF hW (h _ (nw_at 7 rfl))) (va_Nw.warmF hW (h _ (nw_at 8 rfl))) (va_Nw.warmF hW (h _ (nw_at 9 rfl))) (va_Nw.warmM hW (h _ (nw_at 10 rfl))) (va_Nw.warmM hW (h _ (nw_at 11 rfl))) (va_Nw.warmM hW (h _ (nw_at 12 rfl))) (va_Nw.warmM hW (h _ (nw_at 13 rfl)))
theorem nw_on : ∀ w ∈ nw_ws, w.onTables = true := nw_all (P := fun w => w.onTables = true) rfl rfl rfl rfl rfl rfl rfl rfl rfl rfl rfl rfl rfl rfl
section ZK
variable {dC : Nat → ClassId} {dI : Nat → Nat → Nat} {cI cZ cS : ClassId}
theorem kK.moved {s U : State} (hW : s.WarmedH U.vm) (h : kK dC dI cI cZ cS s) : kK dC dI cI cZ cS U := ⟨va_K.moved hW.alike h.1, nw_moved hW h.2.1, va_AO.moved hW.alike h.2.2⟩
theorem kK.call {U : State} {g : JFrame} {mk : MethodId} {a : Array Value} (h : kK dC dI cI cZ cS U) : kK dC dI cI cZ cS (U.calling g mk a) :=
  ⟨va_K.moved (u := U) (U := U.calling g mk a) (Vm.Alike.refl U.vm) h.1, fun w hw => va_Nw.same (u := U) (U := U.calling g mk a) (nw_on w hw) rfl (h.2.1 w hw), va_AO.moved (u := U) (U := U.calling g mk a) (Vm.Alike.refl U.vm) h.2.2⟩
theorem kK.nw {U : State} (h : kK dC dI cI cZ cS U) (i : Nat) {A : Array Value} {w : Cond} (hw : nw_ws[i]? = some w) : w.before A U = true := va_Nw.use (nw_on w (nw_at i hw)) (h.2.1 w (nw_at i hw))
end ZK
def rd_Pc (dC : Nat → ClassId) (dI : Nat → Nat → Nat) (cI cZ cS : ClassId) (w : va_W) (av : List Value) : Array Value → State → Prop := va_Pc av (fun U => va_P (dC, dI) vwCl w U.heap ∧ kK dC dI cI cZ cS U)
def rd_Qc (v : Option Value) : Array Value → State → Outcome → State → Prop := fun _ st oc t => oc = .returned v ∧ t.heap = st.heap
def nf : Addr → Prop := fun _ => False
def wr_ad (w : va_W) : Nat → Prop := fun q => ∃ (k : Nat) (e : va_E), w[k]? = some (q, e)
def wr_Pc (dC : Nat → ClassId) (dI : Nat → Nat → Nat) (cI cZ cS : ClassId) (w : va_W) (av : List Value) : Array Value → State → Prop := va_Pc av (fun U => va_P (dC, dI) vwCl w U.heap ∧ kK dC dI cI cZ cS U ∧ va_D (fun _ => True) w)
def wr_Qc (dC : Nat → ClassId) (dI : Nat → Nat → Nat) (w w' : va_W) (v : Option Value) : Array Value → State → Outcome → State → Prop := fun _ st oc t => oc = .returned v ∧ va_P (dC, dI) vwCl w' t.heap ∧ va_F (wr_ad w) st t
theorem wr_adD {A : Nat → Prop} {w : va_W} (h : va_D A w) : ∀ q, wr_ad w q → A q := fun q ⟨k, e, hk⟩ => h.2 k (q, e) hk
theorem wr_self {A : Nat → Prop} {w : va_W} (h : va_D A w) : va_D (wr_ad w) w := ⟨h.1, fun k q hk => ⟨k, q.2, hk⟩⟩
theorem va_D_adr {A : Nat → Prop} {w w' : va_W} (h : va_D A w) (he : w'.map Prod.fst = w.map Prod.fst) : va_D A w' := by
  have key : ∀ (k : Nat) (q : Nat × va_E), w'[k]? = some q → ∃ q', w[k]? = some q' ∧ q'.1 = q.1 := by
    intro k q hq
    have h1 : (w'.map Prod.fst)[k]? = some q.1 := by rw [List.getElem?_map, hq]; rfl
    rw [he, List.getElem?_map] at h1
    cases hx : w[k]? with
    | none => rw [hx] at h1; cases h1
    | some q' => rw [hx] at h1; exact ⟨q', rfl, Option.some.inj h1⟩
  refine ⟨fun i j p q hi hj hpq => ?_, fun k q hq => ?_⟩
  · obtain ⟨p', a1, a2⟩ := key i p hi
    obtain ⟨q', b1, b2⟩ := key j q hj
    exact h.1 i j p' q' a1 b1 (by rw [a2, b2, hpq])
  · obtain ⟨q', a1, a2⟩ := key k q hq
    rw [← a2]
    exact h.2 k q' a1
theorem va_P_nil {D : va_G} {cl : List vw_C} {H : Heap} : va_P D cl [] H := fun k q h => by simp at h
theorem va_D_nil {A : Nat → Prop} : va_D A [] := ⟨fun i j p q h => by simp at h, fun k q h => by simp at h⟩
theorem va_P_left {D : va_G} {cl : List vw_C} {w x : va_W} {H : Heap} (h : va_P D cl (w ++ x) H) : va_P D cl w H := fun k q hk => h k q (by
  rw [List.getElem?_append_left (List.getElem?_eq_some_iff.mp hk).1]
  exact hk)
theorem va_P_right {D : va_G} {cl : List vw_C} {w x : va_W} {H : Heap} (h : va_P D cl (w ++ x) H) : va_P D cl x H := fun k q hk => h (w.length + k) q (by
  rw [List.getElem?_append_right (by omega), show w.length + k - w.length = k by omega]
  exact hk)
theorem va_D_left {A : Nat → Prop} {w x : va_W} (h : va_D A (w ++ x)) : va_D A w := by
  have z : ∀ (k : Nat) (q : Nat × va_E), w[k]? = some q → (w ++ x)[k]? = some q := fun k q hk => by
    rw [List.getElem?_append_left (List.getElem?_eq_some_iff.mp hk).1]
    exact hk
  exact ⟨fun i j p q hi hj => h.1 i j p q (z i p hi) (z j q hj), fun k q hk => h.2 k q (z k q hk)⟩
theorem va_D_right {A : Nat → Prop} {w x : va_W} (h : va_D A (w ++ x)) : va_D A x := by
  have z : ∀ (k : Nat) (q : Nat × va_E), x[k]? = some q → (w ++ x)[w.length + k]? = some q := fun k q hk => by
    rw [List.getElem?_append_right (by omega), show w.length + k - w.length = k by omega]
    exact hk
  exact ⟨fun i j p q hi hj hpq => by have := h.1 _ _ p q (z i p hi) (z j q hj) hpq; omega, fun k q hk => h.2 _ q (z k q hk)⟩
theorem va_D_cross {A : Nat → Prop} {w x : va_W} (h : va_D A (w ++ x)) {k : Nat} {q : Nat × va_E} (hk : x[k]? = some q) : ¬ wr_ad w q.1 := by
  rintro ⟨j, e, hj⟩
  have h1 : (w ++ x)[j]? = some (q.1, e) := by
    rw [List.getElem?_append_left (List.getElem?_eq_some_iff.mp hj).1]
    exact hj
  have h2 : (w ++ x)[w.length + k]? = some q := by
    rw [List.getElem?_append_right (by omega), show w.length + k - w.length = k by omega]
    exact hk
  have := h.1 _ _ _ _ h1 h2 rfl
  have := (List.getElem?_eq_some_iff.mp hj).1
  omega
/-- behind a call that wrote in the cells w alone: the caller's other cells x -/
theorem wr_tail {A : Nat → Prop} {D : va_G} {cl : List vw_C} {w w' x : va_W} {H H1 : Heap} (hP : va_P D cl (w ++ x) H) (hD : va_D A (w ++ x)) (hP1 : va_P D cl w' H1) (hk : ∀ q : Nat, q < H.size → ¬ wr_ad w q → H1[q]? = H[q]?) : va_P D cl (w' ++ x) H1 := by
  refine va_P.app hP1 (fun k q hq => ?_)
  exact (va_P_right hP k q hq).kept (hk q.1 ((va_P_right hP k q hq).lt) (va_D_cross hD hq))
section ZM
variable {l : Launch} {y : MethodName} {ws ws' : List Cond} {rm : Room} {cc : ByteArray} {maxL : Nat} {ret : Option FieldType} {w w2 : va_W} {av : List Value} {v : Option Value}
variable {dC : Nat → ClassId} {dI : Nat → Nat → Nat} {cI cZ cS : ClassId}
theorem rd_met (hy : plainName y.cls = true) (hw : ws = Cond.code y cc maxL ret :: ws') (hlen : (lg_sl av).length ≤ maxL)
    (body : ∀ (p : Program) (e : Env) (s : State) (m : MethodId) (below : List Frame) (meth : Method) (c : Code) (ls : Array Slot), p.tables.exec = Jvm.exec → c.code = cc → c.maxLocals = maxL → meth.sig.returnType = ret → meth.locks = false → (∀ x ∈ ws, x.before av.toArray s = true) → s.vm.findClass y.cls = some m.cls → va_P (dC, dI) vwCl w s.heap → kK dC dI cI cZ cS s → lv_has ls maxL (lv_args 0 av) →
      W p l e rm s m av.toArray below meth c s.heap [] 0 0 (MQ below (rd_Qc v) av.toArray s 0 0 nf) (F0 m 0 ls [])) : Met l y ws rm (rd_Pc dC dI cI cZ cS w av) (rd_Qc v) 0 0 nf := by
  refine Met.ofW (cc := cc) (maxL := maxL) (ret := ret) hy hw ?_
  intro p e s m args below meth c s₁ B hml hv
  obtain ⟨rfl, hP, hK⟩ := hv
  rw [lg_entry_eq]
  exact body p e s m below meth c _ B.exec B.bytes hml B.returns B.notSynchronized (atoms_spec (ws := ws) B.pre) (findClass_of_methodNamed B.named) hP hK (lv_entry av hlen)
theorem wr_met (hy : plainName y.cls = true) (hw : ws = Cond.code y cc maxL ret :: ws') (hlen : (lg_sl av).length ≤ maxL)
    (body : ∀ (p : Program) (e : Env) (s : State) (m : MethodId) (below : List Frame) (meth : Method) (c : Code) (ls : Array Slot), p.tables.exec = Jvm.exec → c.code = cc → c.maxLocals = maxL → meth.sig.returnType = ret → meth.locks = false → (∀ x ∈ ws, x.before av.toArray s = true) → s.vm.findClass y.cls = some m.cls → va_P (dC, dI) vwCl w s.heap → va_D (wr_ad w) w → va_S (wr_ad w) s.heap s.heap [] → kK dC dI cI cZ cS s → lv_has ls maxL (lv_args 0 av) →
      W p l e rm s m av.toArray below meth c s.heap [] 0 0 (MQ below (wr_Qc dC dI w w2 v) av.toArray s 0 0 (wr_ad w)) (F0 m 0 ls [])) : Met l y ws rm (wr_Pc dC dI cI cZ cS w av) (wr_Qc dC dI w w2 v) 0 0 (wr_ad w) := by
  refine Met.ofW (cc := cc) (maxL := maxL) (ret := ret) hy hw ?_
  intro p e s m args below meth c s₁ B hml hv
  obtain ⟨rfl, hP, hK, hD⟩ := hv
  rw [lg_entry_eq]
  exact body p e s m below meth c _ B.exec B.bytes hml B.returns B.notSynchronized (atoms_spec (ws := ws) B.pre) (findClass_of_methodNamed B.named) hP (wr_self hD) va_S.rf hK (lv_entry av hlen)
theorem rd_blind : FrameBlind (rd_Pc dC dI cI cZ cS w av) := fun _ _ _ _ q => ⟨q.1, q.2.1, q.2.2.call⟩
theorem wr_blind : FrameBlind (wr_Pc dC dI cI cZ cS w av) := fun _ _ _ _ q => ⟨q.1, q.2.1, q.2.2.1.call, q.2.2.2⟩
end ZM
section ZE
variable {p : Program} {l : Launch} {e : Env} {R : Room} {s : State} {m : MethodId} {args : Array Value} {below : List Frame} {meth : Method} {c : Code} {H : Heap} {locs : List Loc} {cells slots : Nat} {Q : State → Prop}
variable {cc : ByteArray} {pc : Nat} {ls : Array Slot} {rest st0 : List Value} {dC : Nat → ClassId} {dI : Nat → Nat → Nat} {cI cZ cS : ClassId} {w w2 : va_W}
theorem rd_iret (hx : p.tables.exec = Jvm.exec) (hb : c.code = cc) (hr : meth.sig.returnType = some .int) (hlocks : meth.locks = false) {a b : Int} (hv : a = b) (hdg : decode cc pc = .ok (.ireturn, 1)) :
    W p l e R s m args below meth c s.heap [] 0 0 (MQ below (rd_Qc (some (.int (zI b)))) args s 0 0 nf) (F0 m pc ls [.int (zI a)]) := by
  subst hv
  exact W.iret hx hb hr (fun t ht _ => ⟨rfl, ht⟩) (fun q h => by cases h) hdg hlocks
theorem rd_lret (hx : p.tables.exec = Jvm.exec) (hb : c.code = cc) (hr : meth.sig.returnType = some .long) (hlocks : meth.locks = false) {a b : Int} (hv : a = b) (hdg : decode cc pc = .ok (.lreturn, 1)) :
    W p l e R s m args below meth c s.heap [] 0 0 (MQ below (rd_Qc (some (.long (zL b)))) args s 0 0 nf) (F0 m pc ls [.long (zL a)]) := by
  subst hv
  exact W.lret hx hb hr (fun t ht _ => ⟨rfl, ht⟩) (fun q h => by cases h) hdg hlocks
theorem z_nar {a : Int} (h : a = 0 ∨ a = 1) : narrow .boolean (.int (zI a)) = .int (zI a) := by
  rcases h with rfl | rfl <;> rfl
theorem rd_zret (hx : p.tables.exec = Jvm.exec) (hb : c.code = cc) (hr : meth.sig.returnType = some .boolean) (hlocks : meth.locks = false) {a b : Int} (hv : a = b) (h01 : a = 0 ∨ a = 1) (hdg : decode cc pc = .ok (.ireturn, 1)) :
    W p l e R s m args below meth c s.heap [] 0 0 (MQ below (rd_Qc (some (.int (zI b)))) args s 0 0 nf) (F0 m pc ls [.int (zI a)]) := by
  subst hv
  exact W.zret hx hb hr (z_nar h01) (fun t ht _ => ⟨rfl, ht⟩) (fun q h => by cases h) hdg hlocks
theorem wr_iret (hx : p.tables.exec = Jvm.exec) (hb : c.code = cc) (hr : meth.sig.returnType = some .int) (hlocks : meth.locks = false) (hP : va_P (dC, dI) vwCl w2 H) (hS : va_S (wr_ad w) s.heap H locs) {a b : Int} (hv : a = b) (hdg : decode cc pc = .ok (.ireturn, 1)) :
    W p l e R s m args below meth c H locs cells slots (MQ below (wr_Qc dC dI w w2 (some (.int (zI b)))) args s cells slots (wr_ad w)) (F0 m pc ls [.int (zI a)]) := by
  subst hv
  exact W.iret hx hb hr (fun t ht _ => ⟨rfl, by rw [ht]; exact hP, hS.F ht⟩) hS.2.2 hdg hlocks
theorem wr_vret (hx : p.tables.exec = Jvm.exec) (hb : c.code = cc) (hr : meth.sig.returnType = none) (hlocks : meth.locks = false) (hP : va_P (dC, dI) vwCl w2 H) (hS : va_S (wr_ad w) s.heap H locs) (hdg : decode cc pc = .ok (.return_, 1)) :
    W p l e R s m args below meth c H locs cells slots (MQ below (wr_Qc dC dI w w2 none) args s cells slots (wr_ad w)) (F0 m pc ls []) :=
  W.vret hx hb hr (fun t ht _ => ⟨rfl, by rw [ht]; exact hP, hS.F ht⟩) hS.2.2 hdg hlocks
variable {y : MethodName} {bytes : ByteArray} {maxL nL n index : Nat} {ret : Option FieldType} {wsY : List Cond} {rm : Room} {Ts : List Cond} {own C host : String} {b : Addr} {As : List Value} {r : Value} {a : Array Value} {A0 : Nat → Prop} {H0 : Heap} {v : Option Value}
theorem rd_go (hr : va_Run p l e R s m args below meth c H locs cells slots 0 0 (F0 m pc ls st0) rest (rd_Qc (some r) a) nf)
    (kk : W p l e R s m args below meth c H locs cells slots Q (F0 m (pc + 3) ls (r :: rest))) : W p l e R s m args below meth c H locs cells slots Q (F0 m pc ls st0) := by
  intro T hT X
  obtain ⟨v, st₀, t, T', L, h0, X', hL, e1, e2, ⟨hv, hh⟩, st⟩ := hr T hT X
  cases hv
  have hL0 : L = [] := List.eq_nil_iff_forall_not_mem.mpr (fun q hq => hL q hq)
  subst hL0
  rw [List.append_nil] at X'
  obtain ⟨t2, a1, b1⟩ := kk T' (e1.trans (hh.trans h0)) X'
  exact ⟨t2, st t2 a1, b1⟩
theorem wr_go (hr : va_Run p l e R s m args below meth c H locs cells slots 0 0 (F0 m pc ls st0) rest (wr_Qc dC dI w w2 v a) (wr_ad w)) (hD : va_D A0 w) (hS : va_S A0 H0 H locs)
    (kk : ∀ (H1 : Heap) (locs1 : List Loc), va_P (dC, dI) vwCl w2 H1 → (∀ q : Nat, q < H.size → ¬ wr_ad w q → H1[q]? = H[q]?) → va_S A0 H0 H1 locs1 → W p l e R s m args below meth c H1 locs1 cells slots Q (F0 m (pc + 3) ls (v.toList ++ rest))) : W p l e R s m args below meth c H locs cells slots Q (F0 m pc ls st0) := by
  intro T hT X
  obtain ⟨v', st₀, t, T', L, h0, X', hL, e1, e2, ⟨hv, hP, hz, hk⟩, st⟩ := hr T hT X
  cases hv
  rw [h0] at hz hk
  have hA := wr_adD hD
  obtain ⟨t2, a1, b1⟩ := kk T'.heap (locs ++ L) (by rw [e1]; exact hP) (fun q h1 h2 => by rw [e1]; exact hk q h1 h2)
    ⟨Nat.le_trans hS.1 (by rw [e1]; exact hz), fun q h1 h2 => by rw [e1, hk q (Nat.lt_of_lt_of_le h1 hS.1) (fun z => h2 (hA q z))]; exact hS.2.1 q h1 h2, fun q hq => by
      rcases List.mem_append.mp hq with h | h
      · exact hS.2.2 q h
      · exact hA _ (hL q h)⟩ T' rfl X'
  exact ⟨t2, st t2 a1, b1⟩
theorem rd_callV (S : CallFix p m c cc nL s args Ts own) (hM : Met l y wsY rm (rd_Pc dC dI cI cZ cS w (.ref b :: As)) (rd_Qc (some r)) 0 0 nf) (cw : CallW R s args own C index y bytes maxL ret wsY rm 0 0 n) (hP : va_P (dC, dI) vwCl w H) (hK : kK dC dI cI cZ cS s) (q0 : Nat) {ci N : Nat} {T : u_T} {fs : List Value} (he : w[q0]? = some (b, .inr (ci, fs))) (hc : vwCl[ci]? = some (C, T, N))
    (hn : As.length = n) (hsize : ls.size = nL) (hstack : st0 = As.reverse ++ .ref b :: rest) (hW : (rest.map fun v => v.category).sum ≤ 8) (hdg : decode cc pc = .ok (.invokevirtual index, 3)) (hf : cells ≤ R.cells ∧ slots ≤ R.slots)
    (kk : W p l e R s m args below meth c H locs cells slots Q (F0 m (pc + 3) ls (r :: rest))) : W p l e R s m args below meth c H locs cells slots Q (F0 m pc ls st0) :=
  rd_go (va_runV (g := F0 m pc ls st0) S hM cw ⟨rd_blind, va_recv hK.1 hP hc he, fun _ hU hW => ⟨rfl, by rw [hU]; exact hP, hK.moved hW⟩⟩ rfl hn hsize hstack (lv_room hW) hdg hf) kk
theorem rd_callS (S : CallFix p m c cc nL s args Ts own) (hM : Met l y wsY rm (rd_Pc dC dI cI cZ cS w As) (rd_Qc (some r)) 0 0 nf) (cw : CallB R s args own index y bytes maxL ret wsY rm 0 0 n ∧ (Cond.static y).before args s = true) (hP : va_P (dC, dI) vwCl w H) (hK : kK dC dI cI cZ cS s)
    (hn : As.length = n) (hsize : ls.size = nL) (hstack : st0 = As.reverse ++ rest) (hW : (rest.map fun v => v.category).sum ≤ 8) (hdg : decode cc pc = .ok (.invokestatic index, 3)) (hf : cells ≤ R.cells ∧ slots ≤ R.slots)
    (kk : W p l e R s m args below meth c H locs cells slots Q (F0 m (pc + 3) ls (r :: rest))) : W p l e R s m args below meth c H locs cells slots Q (F0 m pc ls st0) :=
  rd_go (va_runS (g := F0 m pc ls st0) S hM cw ⟨rd_blind, fun _ hU hW => ⟨rfl, by rw [hU]; exact hP, hK.moved hW⟩⟩ rfl hn hsize hstack (lv_room hW) hdg hf) kk
theorem rd_callN (S : CallFix p m c cc nL s args Ts own) (hM : Met l y wsY rm (rd_Pc dC dI cI cZ cS w As) (rd_Qc (some r)) 0 0 nf) (cw : va_CN R s args own index y host bytes maxL ret wsY rm 0 0 n ∧ (Cond.static y).before args s = true ∧ True) (hP : va_P (dC, dI) vwCl w H) (hK : kK dC dI cI cZ cS s)
    (hn : As.length = n) (hsize : ls.size = nL) (hstack : st0 = As.reverse ++ rest) (hW : (rest.map fun v => v.category).sum ≤ 8) (hdg : decode cc pc = .ok (.invokestatic index, 3)) (hf : cells ≤ R.cells ∧ slots ≤ R.slots)
    (kk : W p l e R s m args below meth c H locs cells slots Q (F0 m (pc + 3) ls (r :: rest))) : W p l e R s m args below meth c H locs cells slots Q (F0 m pc ls st0) :=
  rd_go (va_runSN (g := F0 m pc ls st0) S hM cw ⟨rd_blind, fun _ hU hW => ⟨rfl, by rw [hU]; exact hP, hK.moved hW⟩⟩ rfl hn hsize hstack (lv_room hW) hdg hf) kk
theorem wr_callV (S : CallFix p m c cc nL s args Ts own) (hM : Met l y wsY rm (wr_Pc dC dI cI cZ cS w (.ref b :: As)) (wr_Qc dC dI w w2 none) 0 0 (wr_ad w)) (cw : CallW R s args own C index y bytes maxL ret wsY rm 0 0 n) (hP : va_P (dC, dI) vwCl w H) (hD : va_D A0 w) (hS : va_S A0 H0 H locs) (hK : kK dC dI cI cZ cS s) (q0 : Nat) {ci N : Nat} {T : u_T} {fs : List Value} (he : w[q0]? = some (b, .inr (ci, fs))) (hc : vwCl[ci]? = some (C, T, N))
    (hn : As.length = n) (hsize : ls.size = nL) (hstack : st0 = As.reverse ++ .ref b :: rest) (hW : (rest.map fun v => v.category).sum ≤ 8) (hdg : decode cc pc = .ok (.invokevirtual index, 3)) (hf : cells ≤ R.cells ∧ slots ≤ R.slots)
    (kk : ∀ (H1 : Heap) (locs1 : List Loc), va_P (dC, dI) vwCl w2 H1 → (∀ q : Nat, q < H.size → ¬ wr_ad w q → H1[q]? = H[q]?) → va_S A0 H0 H1 locs1 → W p l e R s m args below meth c H1 locs1 cells slots Q (F0 m (pc + 3) ls rest)) : W p l e R s m args below meth c H locs cells slots Q (F0 m pc ls st0) :=
  wr_go (va_runV (g := F0 m pc ls st0) S hM cw ⟨wr_blind, va_recv hK.1 hP hc he, fun _ hU hW => ⟨rfl, by rw [hU]; exact hP, hK.moved hW, hD.weaken (fun _ _ _ _ => trivial)⟩⟩ rfl hn hsize hstack (lv_room hW) hdg hf) hD hS kk
theorem wr_callVi (S : CallFix p m c cc nL s args Ts own) (hM : Met l y wsY rm (wr_Pc dC dI cI cZ cS w (.ref b :: As)) (wr_Qc dC dI w w2 (some r)) 0 0 (wr_ad w)) (cw : CallW R s args own C index y bytes maxL ret wsY rm 0 0 n) (hP : va_P (dC, dI) vwCl w H) (hD : va_D A0 w) (hS : va_S A0 H0 H locs) (hK : kK dC dI cI cZ cS s) (q0 : Nat) {ci N : Nat} {T : u_T} {fs : List Value} (he : w[q0]? = some (b, .inr (ci, fs))) (hc : vwCl[ci]? = some (C, T, N))
    (hn : As.length = n) (hsize : ls.size = nL) (hstack : st0 = As.reverse ++ .ref b :: rest) (hW : (rest.map fun v => v.category).sum ≤ 8) (hdg : decode cc pc = .ok (.invokevirtual index, 3)) (hf : cells ≤ R.cells ∧ slots ≤ R.slots)
    (kk : ∀ (H1 : Heap) (locs1 : List Loc), va_P (dC, dI) vwCl w2 H1 → (∀ q : Nat, q < H.size → ¬ wr_ad w q → H1[q]? = H[q]?) → va_S A0 H0 H1 locs1 → W p l e R s m args below meth c H1 locs1 cells slots Q (F0 m (pc + 3) ls (r :: rest))) : W p l e R s m args below meth c H locs cells slots Q (F0 m pc ls st0) :=
  wr_go (va_runV (g := F0 m pc ls st0) S hM cw ⟨wr_blind, va_recv hK.1 hP hc he, fun _ hU hW => ⟨rfl, by rw [hU]; exact hP, hK.moved hW, hD.weaken (fun _ _ _ _ => trivial)⟩⟩ rfl hn hsize hstack (lv_room hW) hdg hf) hD hS kk
variable {D : va_G} {cl : List vw_C} {A : Nat → Prop} {a1 : Nat} {tys : List (ClassId × FieldType)} {ws : va_W}
theorem zr_iald (hx : p.tables.exec = Jvm.exec) (hb : c.code = cc) (hK : va_K D cl tys s) (hP : va_P D cl ws H) (q0 t0 : Nat) {cA : ClassId} {n : Nat} {f : Nat → Int} (ha : ws[q0]? = some (a1, .inl (cA, n, .inl (fun k => zI (f k))))) (ht : tys[t0]? = some (cA, .int)) {zi : Int} (k : Nat) (z : Int) (hi : zi = (k : Int)) (hk : k < n) (hn : n < 2147483648) (hz : f k = z) (hdg : decode cc pc = .ok (.iaload, 1))
    (kk : W p l e R s m args below meth c H locs cells slots Q (F0 m (pc + 1) ls (.int (zI z) :: rest))) : W p l e R s m args below meth c H locs cells slots Q (F0 m pc ls (.int (zI zi) :: .ref a1 :: rest)) := by
  subst hz
  refine va_iald hx hb hK hP q0 t0 ha ht (zI_in hi hk hn) hdg ?_
  rw [zI_clamp hi (by omega)]
  exact kk
theorem zr_iast (hx : p.tables.exec = Jvm.exec) (hb : c.code = cc) (hK : va_K D cl tys s) (hP : va_P D cl ws H) (hD : va_D A ws) (hS : va_S A H0 H locs) (q0 t0 : Nat) {cA : ClassId} {n : Nat} {f : Nat → Int} (ha : ws[q0]? = some (a1, .inl (cA, n, .inl (fun k => zI (f k))))) (ht : tys[t0]? = some (cA, .int)) {zi z : Int} (k : Nat) (f2 : Nat → Int) (hi : zi = (k : Int)) (hk : k < n) (hn : n < 2147483648) (hz : zset f k z = f2) (hdg : decode cc pc = .ok (.iastore, 1))
    (kk : ∀ (H1 : Heap) (locs1 : List Loc), va_P D cl (ws.set q0 (a1, .inl (cA, n, .inl (fun k => zI (f2 k))))) H1 → va_D A (ws.set q0 (a1, .inl (cA, n, .inl (fun k => zI (f2 k))))) → va_S A H0 H1 locs1 → W p l e R s m args below meth c H1 locs1 cells slots Q (F0 m (pc + 1) ls rest)) : W p l e R s m args below meth c H locs cells slots Q (F0 m pc ls (.int (zI z) :: .int (zI zi) :: .ref a1 :: rest)) := by
  subst hz
  refine va_iast hx hb hK hP hD hS q0 t0 ha ht (zI_in hi hk hn) hdg fun H1 locs1 g1 g2 g3 => ?_
  rw [zI_clamp hi (by omega), zset_upd] at g1 g2
  exact kk H1 locs1 g1 g2 g3
end ZE
