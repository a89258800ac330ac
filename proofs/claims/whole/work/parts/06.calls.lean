/-! the shape of every contract; starts, ends and calls, a row each -/
/-- links to private members of nest mates, as (from, entry, to, host); words that no call carries on -/
def nestQ : List (String × Nat × MethodName × String) := [("BinnedReads", 11, ⟨"BinnedReads$Draft", "<init>", "()V"⟩, "BinnedReads"), ("BinnedReads", 18, ⟨"BinnedReads$Stream", "<init>", "()V"⟩, "BinnedReads"), ("BinnedReads", 25, ⟨"BinnedReads$Index", "<init>", "()V"⟩, "BinnedReads"), ("BinnedReads", 32, ⟨"BinnedReads$Disk", "<init>", "()V"⟩, "BinnedReads"), ("BinnedReads", 39, ⟨"BinnedReads$Finding", "<init>", "()V"⟩, "BinnedReads"), ("BinnedReads$Draft", 25, ⟨"BinnedReads", "spanOf", "([III)I"⟩, "BinnedReads"), ("BinnedReads$Draft", 29, ⟨"BinnedReads", "kindOf", "(I)I"⟩, "BinnedReads"), ("BinnedReads$Draft", 33, ⟨"BinnedReads", "lengthOf", "(I)I"⟩, "BinnedReads"), ("BinnedReads$Index", 45, ⟨"BinnedReads", "binMeets", "(III)Z"⟩, "BinnedReads"), ("BinnedReads$Finding", 48, ⟨"BinnedReads", "spanOf", "([III)I"⟩, "BinnedReads")]
def nestW (q : String × Nat × MethodName × String) : Cond := .methodLinkNest q.1 q.2.1 q.2.2.1 q.2.2.2
theorem nestW_tbl : ∀ q ∈ nestQ, nestW q ∈ lw_tbl := by
  intro q hq
  simp only [nestQ, List.mem_cons, List.not_mem_nil, or_false] at hq
  rcases hq with rfl | rfl | rfl | rfl | rfl | rfl | rfl | rfl | rfl | rfl
  · exact tw_19
  · exact tw_42
  · exact tw_58
  · exact tw_93
  · exact tw_117
  · exact tw_200
  · exact tw_213
  · exact tw_214
  · exact tw_340
  · exact tw_397
def nw (U : State) : Prop := (∀ q ∈ nestQ, va_Nw (nestW q) U) ∧ (Cond.arrayOver (.array .int)).before #[] U = true
theorem nw.warm {s U : State} (hW : s.WarmedH U.vm) (h : nw s) : nw U :=
  ⟨fun q hq => va_Nw.warmM hW (h.1 q hq), Cond.overAtom_setVm (args := #[]) hW.alike (.arrayOver (.array .int)) rfl h.2⟩
theorem nw.same {u U : State} (e : u.vm = U.vm) (h : nw u) : nw U :=
  ⟨fun q hq => va_Nw.same rfl e (h.1 q hq), by
    have h1 : u.setVm U.vm = u := by rw [← e]; rfl
    have h2 := h.2
    rw [← h1] at h2
    exact h2⟩
/-- what a method knows of the tables -/
def kn (D : va_G) (cI cO : ClassId) (U : State) : Prop := va_K D classes [(cI, .int), (cO, .array .int)] U ∧ nw U
/-- a contract's start: the arguments, and the world W0 -/
def Pr (D : va_G) (cI cO : ClassId) (av : List Value) (W0 : va_W) (sz : Nat) : Array Value → State → Prop := va_Pc av (fun U => U.heap.size = sz ∧ va_P D classes W0 U.heap ∧ va_D (fun _ => True) W0 ∧ kn D cI cO U)
theorem Pr.blind {D : va_G} {cI cO : ClassId} {av : List Value} {W0 : va_W} {sz : Nat} : FrameBlind (Pr D cI cO av W0 sz) := fun a U g mk q => by
  obtain ⟨q0, q1, qP, qD, qK⟩ := q
  exact ⟨q0, q1, qP, qD, va_K.moved (u := U) (U := U.calling g mk a) (Vm.Alike.refl U.vm) qK.1, nw.same (u := U) (U := U.calling g mk a) rfl qK.2⟩
abbrev Bw {S : Type} (D : va_G) (W1 : S → va_W) (W0 : va_W) (sz : Nat) : S → State → Prop := fun u t => va_P D classes (W1 u) t.heap ∧ va_D (va_A W0 sz) (W1 u)
abbrev Qi {S : Type} (D : va_G) (post : Int → S → Prop) (W1 : S → va_W) (W0 : va_W) (sz : Nat) : Array Value → State → Outcome → State → Prop := va_Qi (fun r u => ∃ a : Int, r = iI a ∧ post a u) (Bw D W1 W0 sz) (va_A W0 sz)
abbrev Qv {S : Type} (D : va_G) (post : S → Prop) (W1 : S → va_W) (W0 : va_W) (sz : Nat) : Array Value → State → Outcome → State → Prop := va_Qv post (Bw D W1 W0 sz) (va_A W0 sz)
/-- a contract of a method that answers an int (Mi) or nothing (Mv): its world W0 becomes W1 u for some u with 'post' -/
abbrev Mi {S : Type} (l : Launch) (y : MethodName) (b : ByteArray) (maxL : Nat) (rt : FieldType) (rm : Room) (D : va_G) (cI cO : ClassId) (av : List Value) (W0 : va_W) (post : Int → S → Prop) (W1 : S → va_W) (mc ms : Nat) : Prop := ∀ sz : Nat, Met l y (Cond.code y b maxL (some rt) :: tb) rm (Pr D cI cO av W0 sz) (Qi D post W1 W0 sz) mc ms (va_A W0 sz)
abbrev Mv {S : Type} (l : Launch) (y : MethodName) (b : ByteArray) (maxL : Nat) (rm : Room) (D : va_G) (cI cO : ClassId) (av : List Value) (W0 : va_W) (post : S → Prop) (W1 : S → va_W) (mc ms : Nat) : Prop := ∀ sz : Nat, Met l y (Cond.code y b maxL none :: tb) rm (Pr D cI cO av W0 sz) (Qv D post W1 W0 sz) mc ms (va_A W0 sz)
/-- the start of a method's walk -/
theorem bk_start {l : Launch} {y : MethodName} {cc : ByteArray} {maxL : Nat} {ret : Option FieldType} {rm : Room} {D : va_G} {cI cO : ClassId} {av : List Value} {W0 : va_W} {Qc : Nat → Array Value → State → Outcome → State → Prop} {mc ms : Nat} (hy : plainName y.cls = true) (hlen : (lg_sl av).length ≤ maxL)
    (body : ∀ (p : Program) (e : Env) (s : State) (m : MethodId) (args : Array Value) (below : List Frame) (meth : Method) (c : Code) (A : Nat → Prop) (ls : Array Slot) (Q : State → Prop), p.tables.exec = Jvm.exec → c.code = cc → meth.sig.returnType = ret → c.maxLocals = maxL → meth.locks = false → s.vm.findClass y.cls = some m.cls → meth.name = y.name → (∀ w ∈ tb, w.before args s = true) → kn D cI cO s → (∀ q, s.heap.size ≤ q → A q) → A = va_A W0 s.heap.size → Q = MQ below (Qc s.heap.size) args s mc ms (va_A W0 s.heap.size) → va_P D classes W0 s.heap → va_D A W0 → va_S A s.heap s.heap [] → lv_has ls maxL (lv_args 0 av) →
      W p l e rm s m args below meth c s.heap [] 0 0 Q (F0 m 0 ls [])) (sz : Nat) : Met l y (Cond.code y cc maxL ret :: tb) rm (Pr D cI cO av W0 sz) (Qc sz) mc ms (va_A W0 sz) := by
  refine Met.ofW (cc := cc) (maxL := maxL) (ret := ret) hy rfl ?_
  intro p e s m args below meth c s₁ B hml hv
  obtain ⟨hargs, hsz, hP, hD0, hK⟩ := hv
  subst hsz
  have hts := atoms_spec (ws := Cond.code y cc maxL ret :: tb) B.pre
  have hD := hD0.self (sz := s.heap.size)
  have hl := lv_entry av (n := maxL) hlen
  have he : entryFrame m args maxL = F0 m 0 ((lg_sl av ++ List.replicate (maxL - (lg_sl av).length) Slot.unset).toArray) [] := by rw [hargs, lg_entry_eq]
  rw [he]
  generalize (lg_sl av ++ List.replicate (maxL - (lg_sl av).length) Slot.unset).toArray = ls at hl ⊢
  exact body p e s m args below meth c _ ls _ B.exec B.bytes B.returns hml B.notSynchronized (findClass_of_methodNamed B.named) (name_of_methodNamed B.named B.method).1 (fun w h => hts w (List.mem_cons_of_mem _ h)) hK (fun q h => Or.inr h) rfl rfl hP hD va_S.rf hl
/-- parts of a world that has a pool behind it -/
theorem bk_inX {X pl Wc : va_W} (is : List Nat) (hs : is.map (fun i => X[i]?) = Wc.map some) (k : Nat) (q : Nat × va_E) (hk : Wc[k]? = some q) : ∃ i, is[k]? = some i ∧ (X ++ pl)[i]? = some q := by
  obtain ⟨i, h1, h2⟩ := va_in_of is hs hk
  refine ⟨i, h1, ?_⟩
  rw [List.getElem?_append_left (List.getElem?_eq_some_iff.mp h2).1]
  exact h2
theorem bk_subP {D : va_G} {cl : List vw_C} {X pl Wc : va_W} {H : Heap} (h : va_P D cl (X ++ pl) H) (is : List Nat) (hs : is.map (fun i => X[i]?) = Wc.map some) : va_P D cl Wc H := fun k q hk => by
  obtain ⟨i, -, h2⟩ := bk_inX (pl := pl) is hs k q hk
  exact h i q h2
theorem bk_subD {A : Nat → Prop} {X pl Wc : va_W} (h : va_D A (X ++ pl)) (is : List Nat) (hn : va_nd is = true) (hs : is.map (fun i => X[i]?) = Wc.map some) : va_D A Wc := by
  refine (h.part is hn hs).by id (fun k q hq => ?_) (fun i j _ _ e => e)
  show (Wc ++ pl)[k]? = some q
  rw [List.getElem?_append_left (List.getElem?_eq_some_iff.mp hq).1]
  exact hq
theorem bk_freeX {A : Nat → Prop} {X pl Wc : va_W} {H0 H : Heap} {locs : List Loc} (hD : va_D A (X ++ pl)) (hS : va_S A H0 H locs) (hA : ∀ q, H0.size ≤ q → A q) (is : List Nat) (hs : is.map (fun i => X[i]?) = Wc.map some) : ∀ q, va_A Wc H.size q → A q := by
  intro q h
  rcases h with ⟨k, e, h⟩ | h
  · obtain ⟨i, -, h2⟩ := bk_inX (pl := pl) is hs k _ h
    exact hD.2 i _ h2
  · exact hA q (Nat.le_trans hS.1 h)
theorem gd_tb {ws : List Cond} (h : ∀ w ∈ ws, w ∈ tb) : GoodIn tb ws := fun w hw => ⟨h w hw, good_of_word (tb_good w (h w hw))⟩
theorem gd_code {y : MethodName} {b : ByteArray} {n : Nat} {r : Option FieldType} (h : Cond.code y b n r ∈ tb) : GoodIn tb (Cond.code y b n r :: tb) := gd_tb fun w hw => by
  rcases List.mem_cons.mp hw with rfl | hw
  · exact h
  · exact hw
theorem gd_V {own : String} {idx : Nat} {C : String} {y : MethodName} {b : ByteArray} {n : Nat} {r : Option FieldType} (h1 : Cond.methodLink own idx y ∈ tb) (h2 : Cond.instanceMethod y ∈ tb) (h3 : Cond.selects C y y ∈ tb) (h4 : Cond.initialized C ∈ tb) (h5 : Cond.code y b n r ∈ tb) : GoodIn tb (wsV own idx C y (Cond.code y b n r :: tb)) := gd_tb fun w hw => by
  simp only [wsV, List.mem_append, List.mem_cons, List.not_mem_nil, or_false] at hw
  rcases hw with (rfl | rfl | rfl | rfl) | rfl | hw
  · exact h1
  · exact h2
  · exact h3
  · exact h4
  · exact h5
  · exact hw
theorem gd_S {own : String} {idx : Nat} {y : MethodName} {b : ByteArray} {n : Nat} {r : Option FieldType} (h1 : Cond.methodLink own idx y ∈ tb) (h2 : Cond.static y ∈ tb) (h4 : Cond.initialized own ∈ tb) (h5 : Cond.code y b n r ∈ tb) : GoodIn tb (wsS own idx y (Cond.code y b n r :: tb)) := gd_tb fun w hw => by
  simp only [wsS, List.mem_append, List.mem_cons, List.not_mem_nil, or_false] at hw
  rcases hw with (rfl | rfl | rfl) | rfl | hw
  · exact h1
  · exact h2
  · exact h4
  · exact h5
  · exact hw
section BKC
variable {p : Program} {l : Launch} {e : Env} {R : Room} {s : State} {m : MethodId} {args : Array Value} {below : List Frame} {meth : Method} {c : Code} {H : Heap} {locs : List Loc} {cells slots : Nat} {Q : State → Prop}
variable {cc : ByteArray} {pc nL : Nat} {ls : Array Slot} {rest st0 As : List Value} {D : va_G} {cI cO : ClassId} {A : Nat → Prop} {H0 : Heap} {X pl Wc wr rx : va_W} {b mc ms index maxL : Nat} {y : MethodName} {bytes : ByteArray} {ret : Option FieldType} {rm : Room} {Qc : Nat → Array Value → State → Outcome → State → Prop} {own C host : String}
/-- the end of a method that answers an int -/
theorem bk_reti {S : Type} {post : Int → S → Prop} {W1 : S → va_W} {W0 : va_W} {ty : FieldType} {r : Int} (hx : p.tables.exec = Jvm.exec) (hb : c.code = cc) (hr : meth.sig.returnType = some ty) (hn : narrow ty (.int (iI r)) = .int (iI r)) (hlk : meth.locks = false) (hAe : A = va_A W0 s.heap.size) (hQ : Q = MQ below (Qi D post W1 W0 s.heap.size) args s cells slots (va_A W0 s.heap.size)) (hS : va_S A s.heap H locs) (u : S) (hq : post r u) (hP : va_P D classes (W1 u) H) (hD : va_D A (W1 u)) (hdg : decode cc pc = .ok (.ireturn, 1)) :
    W p l e R s m args below meth c H locs cells slots Q (F0 m pc ls [.int (iI r)]) := by
  subst hAe
  subst hQ
  exact W.zret hx hb hr hn (fun t ht hW => ⟨⟨iI r, u, rfl, ⟨r, rfl, hq⟩, by rw [ht]; exact hP, hD⟩, hS.F ht⟩) hS.2.2 hdg hlk
/-- the end of a method that answers nothing -/
theorem bk_retv {S : Type} {post : S → Prop} {W1 : S → va_W} {W0 : va_W} (hx : p.tables.exec = Jvm.exec) (hb : c.code = cc) (hr : meth.sig.returnType = none) (hlk : meth.locks = false) (hAe : A = va_A W0 s.heap.size) (hQ : Q = MQ below (Qv D post W1 W0 s.heap.size) args s cells slots (va_A W0 s.heap.size)) (hS : va_S A s.heap H locs) (u : S) (hq : post u) (hP : va_P D classes (W1 u) H) (hD : va_D A (W1 u)) (hdg : decode cc pc = .ok (.return_, 1)) :
    W p l e R s m args below meth c H locs cells slots Q (F0 m pc ls []) := by
  subst hAe
  subst hQ
  exact W.vret hx hb hr (fun t ht hW => ⟨⟨u, rfl, hq, by rw [ht]; exact hP, hD⟩, hS.F ht⟩) hS.2.2 hdg hlk
/-- what a callee gets -/
theorem bk_pre {av : List Value} (hK : kn D cI cO s) (hP : va_P D classes Wc H) (hD : va_D A Wc) : PreS s H (Pr D cI cO av Wc H.size) av := ⟨Pr.blind, fun U hU hW => ⟨rfl, by rw [hU], by rw [hU]; exact hP, hD.weaken (fun _ _ _ _ => trivial), va_K.moved hW.alike hK.1, hK.2.warm hW⟩⟩
/-- invokevirtual -/
theorem bk_rV (hx : p.tables.exec = Jvm.exec) (hb : c.code = cc) (hml : c.maxLocals = nL) (hown : s.vm.findClass own = some m.cls) (hT : ∀ w ∈ tb, w.before args s = true) (hK : kn D cI cO s) (hM : ∀ sz : Nat, Met l y (Cond.code y bytes maxL ret :: tb) rm (Pr D cI cO (.ref b :: As) Wc sz) (Qc sz) mc ms (va_A Wc sz)) (hP : va_P D classes Wc H) (hD : va_D A Wc) (q0 ci : Nat) {fs : List Value} {cq : vw_C} (he : Wc[q0]? = some (b, .inr (ci, fs))) (hc : classes[ci]? = some cq) (hcq : cq.1 = C)
    (h1 : Cond.methodLink own index y ∈ tb) (h2 : Cond.instanceMethod y ∈ tb) (h3 : Cond.selects C y y ∈ tb) (h4 : Cond.initialized C ∈ tb) (h5 : Cond.code y bytes maxL ret ∈ tb) (hd : y.cls = C ∧ y.cls ≠ "java/lang/invoke/MethodHandle" ∧ y.cls ≠ "java/lang/invoke/VarHandle" ∧ (parseMethodDescriptor y.desc).map (fun d => d.parameters.length) = some As.length) (hrm : rm.cells = mc ∧ rm.slots = ms) (hR : rm.frames + 1 ≤ R.frames ∧ 8 + (maxL + 11) + rm.locals ≤ R.locals)
    (hls : ls.size = nL) (hst : st0 = As.reverse ++ .ref b :: rest) (hW : (rest.map fun v => v.category).sum ≤ 8) (hdg : decode cc pc = .ok (.invokevirtual index, 3)) (hf : cells + mc ≤ R.cells ∧ slots + ms ≤ R.slots) : va_Run p l e R s m args below meth c H locs cells slots mc ms (F0 m pc ls st0) rest (Qc H.size (Value.ref b :: As).toArray) (va_A Wc H.size) := by
  have hpre := bk_pre (av := .ref b :: As) hK hP hD
  have hrec := va_recv hK.1 hP hc he
  rw [hcq] at hrec
  exact va_runV (C := C) (As := As) (rest := rest) ⟨hx, hb, hml, hown, hT⟩ (hM H.size) (cwV As.length hT (gd_V h1 h2 h3 h4 h5) rfl hrm.1 hrm.2 hd hR) ⟨hpre.1, hrec, hpre.2⟩ rfl rfl hls hst (lv_room hW) hdg hf
/-- invokestatic in the own class -/
theorem bk_rS (hx : p.tables.exec = Jvm.exec) (hb : c.code = cc) (hml : c.maxLocals = nL) (hown : s.vm.findClass own = some m.cls) (hT : ∀ w ∈ tb, w.before args s = true) (hK : kn D cI cO s) (hM : ∀ sz : Nat, Met l y (Cond.code y bytes maxL ret :: tb) rm (Pr D cI cO As Wc sz) (Qc sz) mc ms (va_A Wc sz)) (hP : va_P D classes Wc H) (hD : va_D A Wc)
    (h1 : Cond.methodLink own index y ∈ tb) (h2 : Cond.static y ∈ tb) (h4 : Cond.initialized own ∈ tb) (h5 : Cond.code y bytes maxL ret ∈ tb) (hd : y.cls = own ∧ y.cls ≠ "java/lang/invoke/MethodHandle" ∧ y.cls ≠ "java/lang/invoke/VarHandle" ∧ (parseMethodDescriptor y.desc).map (fun d => d.parameters.length) = some As.length) (hrm : rm.cells = mc ∧ rm.slots = ms) (hR : rm.frames + 1 ≤ R.frames ∧ 8 + (maxL + 11) + rm.locals ≤ R.locals)
    (hls : ls.size = nL) (hst : st0 = As.reverse ++ rest) (hW : (rest.map fun v => v.category).sum ≤ 8) (hdg : decode cc pc = .ok (.invokestatic index, 3)) (hf : cells + mc ≤ R.cells ∧ slots + ms ≤ R.slots) : va_Run p l e R s m args below meth c H locs cells slots mc ms (F0 m pc ls st0) rest (Qc H.size As.toArray) (va_A Wc H.size) :=
  va_runS (As := As) (rest := rest) ⟨hx, hb, hml, hown, hT⟩ (hM H.size) (cwS As.length hT (gd_S h1 h2 h4 h5) rfl hrm.1 hrm.2 hd hR) (bk_pre (av := As) hK hP hD) rfl rfl hls hst (lv_room hW) hdg hf
/-- invokestatic of a nest mate's private method -/
theorem bk_rSN (hx : p.tables.exec = Jvm.exec) (hb : c.code = cc) (hml : c.maxLocals = nL) (hown : s.vm.findClass own = some m.cls) (hT : ∀ w ∈ tb, w.before args s = true) (hK : kn D cI cO s) (hM : ∀ sz : Nat, Met l y (Cond.code y bytes maxL ret :: tb) rm (Pr D cI cO As Wc sz) (Qc sz) mc ms (va_A Wc sz)) (hP : va_P D classes Wc H) (hD : va_D A Wc)
    (h1 : (own, index, y, host) ∈ nestQ) (h2 : Cond.static y ∈ tb) (h4 : Cond.initialized y.cls ∈ tb) (h5 : Cond.code y bytes maxL ret ∈ tb) (hd : y.cls ≠ "java/lang/invoke/MethodHandle" ∧ y.cls ≠ "java/lang/invoke/VarHandle" ∧ (parseMethodDescriptor y.desc).map (fun d => d.parameters.length) = some As.length) (hrm : rm.cells = mc ∧ rm.slots = ms) (hR : rm.frames + 1 ≤ R.frames ∧ 8 + (maxL + 11) + rm.locals ≤ R.locals)
    (hls : ls.size = nL) (hst : st0 = As.reverse ++ rest) (hW : (rest.map fun v => v.category).sum ≤ 8) (hdg : decode cc pc = .ok (.invokestatic index, 3)) (hf : cells + mc ≤ R.cells ∧ slots + ms ≤ R.slots) : va_Run p l e R s m args below meth c H locs cells slots mc ms (F0 m pc ls st0) rest (Qc H.size As.toArray) (va_A Wc H.size) :=
  va_runSN (As := As) (rest := rest) ⟨hx, hb, hml, hown, hT⟩ (hM H.size) ⟨va_cnB As.length hT (gd_code h5) rfl hrm.1 hrm.2 (hK.2.1 _ h1) (hT _ h4) hd hR, hT _ h2, trivial⟩ (bk_pre (av := As) hK hP hD) rfl rfl hls hst (lv_room hW) hdg hf
/-- invokespecial of a nest mate's private constructor -/
theorem bk_rIN {y : MethodName} {Qc : Nat → Array Value → State → Outcome → State → Prop} (hx : p.tables.exec = Jvm.exec) (hb : c.code = cc) (hml : c.maxLocals = nL) (hown : s.vm.findClass own = some m.cls) (hT : ∀ w ∈ tb, w.before args s = true) (hK : kn D cI cO s) (hM : ∀ sz : Nat, Met l y (Cond.code y bytes maxL none :: tb) rm (Pr D cI cO [.ref b] Wc sz) (Qc sz) mc ms (va_A Wc sz)) (hP : va_P D classes Wc H) (hD : va_D A Wc)
    (h1 : (own, index, y, host) ∈ nestQ) (h2 : Cond.instanceMethod y ∈ tb) (h4 : Cond.initialized y.cls ∈ tb) (h5 : Cond.code y bytes maxL none ∈ tb) (hd : y.cls ≠ "java/lang/invoke/MethodHandle" ∧ y.cls ≠ "java/lang/invoke/VarHandle" ∧ (parseMethodDescriptor y.desc).map (fun d => d.parameters.length) = some 0) (hyn : y.name = "<init>") (hrm : rm.cells = mc ∧ rm.slots = ms) (hR : rm.frames + 1 ≤ R.frames ∧ 8 + (maxL + 11) + rm.locals ≤ R.locals)
    (hls : ls.size = nL) (hW : (rest.map fun v => v.category).sum ≤ 8) (hdg : decode cc pc = .ok (.invokespecial index, 3)) (hf : cells + mc ≤ R.cells ∧ slots + ms ≤ R.slots) : va_Run p l e R s m args below meth c H locs cells slots mc ms (F0 m pc ls (.ref b :: rest)) rest (Qc H.size [Value.ref b].toArray) (va_A Wc H.size) :=
  va_runIN (As := []) (rest := rest) ⟨hx, hb, hml, hown, hT⟩ (hM H.size) ⟨va_cnB 0 hT (gd_code h5) rfl hrm.1 hrm.2 (hK.2.1 _ h1) (hT _ h4) hd hR, hyn, hT _ h2⟩ (bk_pre (av := [.ref b]) hK hP hD) rfl rfl hls rfl (lv_room hW) hdg hf
/-- invokespecial of a public constructor -/
theorem bk_rI {y : MethodName} {Qc : Nat → Array Value → State → Outcome → State → Prop} (hx : p.tables.exec = Jvm.exec) (hb : c.code = cc) (hml : c.maxLocals = nL) (hown : s.vm.findClass own = some m.cls) (hT : ∀ w ∈ tb, w.before args s = true) (hK : kn D cI cO s) (hM : ∀ sz : Nat, Met l y (Cond.code y bytes maxL none :: tb) rm (Pr D cI cO [.ref b] Wc sz) (Qc sz) mc ms (va_A Wc sz)) (hP : va_P D classes Wc H) (hD : va_D A Wc)
    (h1 : Cond.methodLink own index y ∈ tb) (h2 : Cond.instanceMethod y ∈ tb) (h4 : Cond.initialized y.cls ∈ tb) (h5 : Cond.code y bytes maxL none ∈ tb) (hd : y.cls ≠ "java/lang/invoke/MethodHandle" ∧ y.cls ≠ "java/lang/invoke/VarHandle" ∧ (parseMethodDescriptor y.desc).map (fun d => d.parameters.length) = some 0) (hyn : y.name = "<init>") (hrm : rm.cells = mc ∧ rm.slots = ms) (hR : rm.frames + 1 ≤ R.frames ∧ 8 + (maxL + 11) + rm.locals ≤ R.locals)
    (hls : ls.size = nL) (hW : (rest.map fun v => v.category).sum ≤ 8) (hdg : decode cc pc = .ok (.invokespecial index, 3)) (hf : cells + mc ≤ R.cells ∧ slots + ms ≤ R.slots) : va_Run p l e R s m args below meth c H locs cells slots mc ms (F0 m pc ls (.ref b :: rest)) rest (Qc H.size [Value.ref b].toArray) (va_A Wc H.size) :=
  va_runI (As := []) (rest := rest) ⟨hx, hb, hml, hown, hT⟩ (hM H.size) (cwI 0 hT (gd_code h5) rfl hrm.1 hrm.2 (hT _ h4) (hT _ h1) (hT _ h2) hyn hd hR) (bk_pre (av := [.ref b]) hK hP hD) rfl rfl hls rfl (lv_room hW) hdg hf
/-- behind a call that answers an int; the world X ++ pl (pl may be []), the callee's cells at the places isC of X, the rest at isR -/
theorem bk_fi {S : Type} {post : Int → S → Prop} {W1 : S → va_W} {aa : Array Value} (isC isR : List Nat) (hC : isC.map (fun i => X[i]?) = Wc.map some) (hR : isR.map (fun i => X[i]?) = wr.map some) (hn : va_nd isR = true) (hdis : ∀ i ∈ isR, i ∉ isC) (hP : va_P D classes (X ++ pl) H) (hD : va_D A (X ++ pl)) (hS : va_S A H0 H locs) (hA : ∀ q, H0.size ≤ q → A q)
    (hr : va_Run p l e R s m args below meth c H locs cells slots mc ms (F0 m pc ls st0) rest (Qi D post W1 Wc H.size aa) (va_A Wc H.size))
    (kk : ∀ (r : Int) (u : S) (H1 : Heap) (locs1 : List Loc), post r u → va_P D classes ((wr ++ W1 u) ++ pl) H1 → va_D A ((wr ++ W1 u) ++ pl) → va_S A H0 H1 locs1 → W p l e R s m args below meth c H1 locs1 (cells + mc) (slots + ms) Q (F0 m (pc + 3) ls (.int (iI r) :: rest))) : W p l e R s m args below meth c H locs cells slots Q (F0 m pc ls st0) := by
  have hF := bk_freeX hD hS hA isC hC
  refine va_calli hr hS (fun q _ h => hF q h) hF (fun r u t H1 locs1 ht hvm hp hB hz hk hS1 => ?_)
  obtain ⟨a, rfl, hp⟩ := hp
  obtain ⟨hP1, hD1⟩ := hB
  rw [ht] at hP1
  obtain ⟨hP2, hD2⟩ := va_joinQ hP hD isC isR hC hR hn hdis hk hF hP1 hD1
  exact kk a u H1 locs1 hp hP2 hD2 hS1
theorem bk_fv {S : Type} {post : S → Prop} {W1 : S → va_W} {aa : Array Value} (isC isR : List Nat) (hC : isC.map (fun i => X[i]?) = Wc.map some) (hR : isR.map (fun i => X[i]?) = wr.map some) (hn : va_nd isR = true) (hdis : ∀ i ∈ isR, i ∉ isC) (hP : va_P D classes (X ++ pl) H) (hD : va_D A (X ++ pl)) (hS : va_S A H0 H locs) (hA : ∀ q, H0.size ≤ q → A q)
    (hr : va_Run p l e R s m args below meth c H locs cells slots mc ms (F0 m pc ls st0) rest (Qv D post W1 Wc H.size aa) (va_A Wc H.size))
    (kk : ∀ (u : S) (H1 : Heap) (locs1 : List Loc), post u → va_P D classes ((wr ++ W1 u) ++ pl) H1 → va_D A ((wr ++ W1 u) ++ pl) → va_S A H0 H1 locs1 → W p l e R s m args below meth c H1 locs1 (cells + mc) (slots + ms) Q (F0 m (pc + 3) ls rest)) : W p l e R s m args below meth c H locs cells slots Q (F0 m pc ls st0) := by
  have hF := bk_freeX hD hS hA isC hC
  refine va_callv hr hS (fun q _ h => hF q h) hF (fun u t H1 locs1 ht hvm hp hB hz hk hS1 => ?_)
  obtain ⟨hP1, hD1⟩ := hB
  rw [ht] at hP1
  obtain ⟨hP2, hD2⟩ := va_joinQ hP hD isC isR hC hR hn hdis hk hF hP1 hD1
  exact kk u H1 locs1 hp hP2 hD2 hS1
/-- behind a call that had the pool too: Wc ++ pl became rx u ++ pl1 u -/
theorem bk_fiP {S : Type} {post : Int → S → Prop} {rx pl1 : S → va_W} {aa : Array Value} (isC isR : List Nat) (hC : isC.map (fun i => X[i]?) = Wc.map some) (hR : isR.map (fun i => X[i]?) = wr.map some) (hn : va_nd isR = true) (hdis : ∀ i ∈ isR, i ∉ isC) (hP : va_P D classes (X ++ pl) H) (hD : va_D A (X ++ pl)) (hS : va_S A H0 H locs) (hA : ∀ q, H0.size ≤ q → A q)
    (hr : va_Run p l e R s m args below meth c H locs cells slots mc ms (F0 m pc ls st0) rest (Qi D post (fun u => rx u ++ pl1 u) (Wc ++ pl) H.size aa) (va_A (Wc ++ pl) H.size))
    (kk : ∀ (r : Int) (u : S) (H1 : Heap) (locs1 : List Loc), post r u → va_P D classes ((wr ++ rx u) ++ pl1 u) H1 → va_D A ((wr ++ rx u) ++ pl1 u) → va_S A H0 H1 locs1 → W p l e R s m args below meth c H1 locs1 (cells + mc) (slots + ms) Q (F0 m (pc + 3) ls (.int (iI r) :: rest))) : W p l e R s m args below meth c H locs cells slots Q (F0 m pc ls st0) := by
  have hF := va_freeP hD hS hA isC hC
  refine va_calli hr hS (fun q _ h => hF q h) hF (fun r u t H1 locs1 ht hvm hp hB hz hk hS1 => ?_)
  obtain ⟨a, rfl, hp⟩ := hp
  obtain ⟨hP1, hD1⟩ := hB
  rw [ht] at hP1
  obtain ⟨hP2, hD2⟩ := va_joinP hP hD isC isR hC hR hn hdis hk hF hP1 hD1
  exact kk a u H1 locs1 hp hP2 hD2 hS1
theorem bk_fvP {S : Type} {post : S → Prop} {rx pl1 : S → va_W} {aa : Array Value} (isC isR : List Nat) (hC : isC.map (fun i => X[i]?) = Wc.map some) (hR : isR.map (fun i => X[i]?) = wr.map some) (hn : va_nd isR = true) (hdis : ∀ i ∈ isR, i ∉ isC) (hP : va_P D classes (X ++ pl) H) (hD : va_D A (X ++ pl)) (hS : va_S A H0 H locs) (hA : ∀ q, H0.size ≤ q → A q)
    (hr : va_Run p l e R s m args below meth c H locs cells slots mc ms (F0 m pc ls st0) rest (Qv D post (fun u => rx u ++ pl1 u) (Wc ++ pl) H.size aa) (va_A (Wc ++ pl) H.size))
    (kk : ∀ (u : S) (H1 : Heap) (locs1 : List Loc), post u → va_P D classes ((wr ++ rx u) ++ pl1 u) H1 → va_D A ((wr ++ rx u) ++ pl1 u) → va_S A H0 H1 locs1 → W p l e R s m args below meth c H1 locs1 (cells + mc) (slots + ms) Q (F0 m (pc + 3) ls rest)) : W p l e R s m args below meth c H locs cells slots Q (F0 m pc ls st0) := by
  have hF := va_freeP hD hS hA isC hC
  refine va_callv hr hS (fun q _ h => hF q h) hF (fun u t H1 locs1 ht hvm hp hB hz hk hS1 => ?_)
  obtain ⟨hP1, hD1⟩ := hB
  rw [ht] at hP1
  obtain ⟨hP2, hD2⟩ := va_joinP hP hD isC isR hC hR hn hdis hk hF hP1 hD1
  exact kk u H1 locs1 hp hP2 hD2 hS1
end BKC
/-- where a callee's cells lie in the caller's world -/
theorem bk_hs {X pl Wc : va_W} (is : List Nat) (hs : is.map (fun i => X[i]?) = Wc.map some) (k : Nat) (q : Nat × va_E) (hk : Wc[k]? = some q) : ∃ i : Nat, (X ++ pl)[i]? = some q := (bk_inX (pl := pl) is hs k q hk).elim fun i h => ⟨i, h.2⟩
theorem bk_hsP {X pl Wc : va_W} (is : List Nat) (hs : is.map (fun i => X[i]?) = Wc.map some) (k : Nat) (q : Nat × va_E) (hk : (Wc ++ pl)[k]? = some q) : ∃ i : Nat, (X ++ pl)[i]? = some q := ⟨_, va_part is hs k q hk⟩
theorem bk_hs1 {ws : va_W} {i : Nat} {q0 : Nat × va_E} (h : ws[i]? = some q0) (k : Nat) (q : Nat × va_E) (hk : [q0][k]? = some q) : ∃ i : Nat, ws[i]? = some q := by
  have h0 : k < 1 := (List.getElem?_eq_some_iff.mp hk).1
  rw [show k = 0 by omega] at hk
  cases hk
  exact ⟨i, h⟩
theorem bk_P1 {D : va_G} {cl : List vw_C} {ws : va_W} {H : Heap} {i : Nat} {q0 : Nat × va_E} (hP : va_P D cl ws H) (h : ws[i]? = some q0) : va_P D cl [q0] H := fun k q hk => by
  obtain ⟨i, hi⟩ := bk_hs1 h k q hk
  exact hP i q hi
theorem bk_D1 {A : Nat → Prop} {ws : va_W} {i : Nat} {q0 : Nat × va_E} (hD : va_D A ws) (h : ws[i]? = some q0) : va_D A [q0] := by
  refine ⟨fun a b x y hx hy _ => ?_, fun k q hk => ?_⟩
  · have h1 : a < 1 := (List.getElem?_eq_some_iff.mp hx).1
    have h2 : b < 1 := (List.getElem?_eq_some_iff.mp hy).1
    omega
  · obtain ⟨i, hi⟩ := bk_hs1 h k q hk
    exact hD.2 i q hi
section BKF
variable {p : Program} {l : Launch} {e : Env} {R : Room} {s : State} {m : MethodId} {args : Array Value} {below : List Frame} {meth : Method} {c : Code} {H : Heap} {locs : List Loc} {cells slots : Nat} {Q : State → Prop}
variable {pc : Nat} {ls : Array Slot} {rest st0 : List Value} {D : va_G} {A : Nat → Prop} {H0 : Heap} {ws Wc : va_W} {mc ms : Nat}
/-- behind a call that leaves its world as it was: the caller's world is the same -/
theorem bk_fR {S : Type} {post : Int → S → Prop} {W1 : S → va_W} {aa : Array Value} (h1 : ∀ u, W1 u = Wc) (hsub : ∀ (k : Nat) (q : Nat × va_E), Wc[k]? = some q → ∃ i : Nat, ws[i]? = some q) (hP : va_P D classes ws H) (hD : va_D A ws) (hS : va_S A H0 H locs) (hA : ∀ q, H0.size ≤ q → A q)
    (hr : va_Run p l e R s m args below meth c H locs cells slots mc ms (F0 m pc ls st0) rest (Qi D post W1 Wc H.size aa) (va_A Wc H.size))
    (kk : ∀ (r : Int) (u : S) (H1 : Heap) (locs1 : List Loc), post r u → va_P D classes ws H1 → va_S A H0 H1 locs1 → W p l e R s m args below meth c H1 locs1 (cells + mc) (slots + ms) Q (F0 m (pc + 3) ls (.int (iI r) :: rest))) : W p l e R s m args below meth c H locs cells slots Q (F0 m pc ls st0) := by
  have hF : ∀ q, va_A Wc H.size q → A q := fun q h => by
    rcases h with ⟨k, e, h⟩ | h
    · obtain ⟨i, hi⟩ := hsub k _ h
      exact hD.2 i _ hi
    · exact hA q (Nat.le_trans hS.1 h)
  refine va_calli hr hS (fun q _ h => hF q h) hF (fun r u t H1 locs1 ht hvm hp hB hz hk hS1 => ?_)
  obtain ⟨a, rfl, hp⟩ := hp
  obtain ⟨hP1, hD1⟩ := hB
  rw [ht, h1 u] at hP1
  refine kk a u H1 locs1 hp (fun i q hi => ?_) hS1
  by_cases hq : ∃ (k : Nat) (e : va_E), Wc[k]? = some (q.1, e)
  · obtain ⟨k, e, hke⟩ := hq
    obtain ⟨i2, hi2⟩ := hsub k _ hke
    have e1 := hD.1 i i2 q (q.1, e) hi hi2 rfl
    subst e1
    have e2 : q = (q.1, e) := Option.some.inj (hi.symm.trans hi2)
    rw [e2]
    exact hP1 k _ hke
  · refine (hP i q hi).kept (hk q.1 (hP i q hi).lt (fun h => ?_))
    rcases h with ⟨k, e, h⟩ | h
    · exact hq ⟨k, e, h⟩
    · have := (hP i q hi).lt
      omega
end BKF
/-! the rows of an array of arrays: 24 arrays of 22 ints -/
def rwP (cI : ClassId) (R : Nat → Nat) (G : Nat → Nat → Int) : va_W := (List.range 24).map (fun i => (R i, ar cI 22 (G i)))
def rwF (R : Nat → Nat) : Nat → Option Nat := fun i => if i < 24 then some (R i) else none
def gU (G : Nat → Nat → Int) (k j : Nat) (v : Int) : Nat → Nat → Int := fun i => if i = k then bU (G i) j v else G i
theorem rw_len (cI : ClassId) (R : Nat → Nat) (G : Nat → Nat → Int) : (rwP cI R G).length = 24 := by simp [rwP]
theorem rw_at {cI : ClassId} {R : Nat → Nat} {G : Nat → Nat → Int} {k : Nat} (hk : k < 24) : (rwP cI R G)[k]? = some (R k, ar cI 22 (G k)) := by
  unfold rwP
  rw [List.getElem?_map, List.getElem?_range hk]
  rfl
theorem rw_get {X : va_W} {n : Nat} {cI : ClassId} {R : Nat → Nat} {G : Nat → Nat → Int} {k : Nat} (hn : X.length = n) (hk : k < 24) : (X ++ rwP cI R G)[n + k]? = some (R k, ar cI 22 (G k)) := by
  subst hn
  rw [List.getElem?_append_right (by omega), Nat.add_sub_cancel_left]
  exact rw_at hk
theorem rw_set {X : va_W} {n : Nat} {cI : ClassId} {R : Nat → Nat} {G : Nat → Nat → Int} {k j : Nat} {v : Int} (hn : X.length = n) (hk : k < 24) : (X ++ rwP cI R G).set (n + k) (R k, ar cI 22 (bU (G k) j v)) = X ++ rwP cI R (gU G k j v) := by
  subst hn
  apply List.ext_getElem?
  intro i
  by_cases hi : i < X.length
  · rw [List.getElem?_set_ne (by omega), List.getElem?_append_left hi, List.getElem?_append_left hi]
  · by_cases e : i = X.length + k
    · subst e
      rw [List.getElem?_set_self (by rw [List.length_append, rw_len]; omega), List.getElem?_append_right (by omega), Nat.add_sub_cancel_left, rw_at hk]
      simp [gU]
    · rw [List.getElem?_set_ne (fun q => e q.symm), List.getElem?_append_right (by omega), List.getElem?_append_right (by omega)]
      by_cases h24 : i - X.length < 24
      · rw [rw_at h24, rw_at h24]
        simp [gU, show ¬ i - X.length = k by omega]
      · rw [List.getElem?_eq_none (by rw [rw_len]; omega), List.getElem?_eq_none (by rw [rw_len]; omega)]
section BKP
variable {p : Program} {l : Launch} {e : Env} {R0 : Room} {s : State} {m : MethodId} {args : Array Value} {below : List Frame} {meth : Method} {c : Code} {H : Heap} {locs : List Loc} {cells slots : Nat} {Q : State → Prop}
variable {cc : ByteArray} {pc : Nat} {ls : Array Slot} {rest : List Value} {D : va_G} {A : Nat → Prop} {cI cO : ClassId} {X : va_W} {H0 : Heap} {a b : Int} {R : Nat → Nat} {G : Nat → Nat → Int}
theorem bk_iastP (hx : p.tables.exec = Jvm.exec) (hb : c.code = cc) (hK : va_K D classes [(cI, .int), (cO, .array .int)] s) (hP : va_P D classes (X ++ rwP cI R G) H) (hD : va_D A (X ++ rwP cI R G)) (hS : va_S A H0 H locs) (k : Nat) (hk : k < 24) {n : Nat} (hn : X.length = n) (j : Nat) (hj : a = (j : Int) ∧ j < 22) (hdg : decode cc pc = .ok (.iastore, 1))
    (kk : ∀ (H1 : Heap) (locs1 : List Loc), va_P D classes (X ++ rwP cI R (gU G k j b)) H1 → va_D A (X ++ rwP cI R (gU G k j b)) → va_S A H0 H1 locs1 → W p l e R0 s m args below meth c H1 locs1 cells slots Q (F0 m (pc + 1) ls rest)) : W p l e R0 s m args below meth c H locs cells slots Q (F0 m pc ls (.int (iI b) :: .int (iI a) :: .ref (R k) :: rest)) := by
  refine bk_iast hx hb hK hP hD hS (n + k) 0 (rw_get hn hk) rfl j hj (by decide) hdg (fun H1 locs1 h1 h2 h3 => ?_)
  rw [rw_set hn hk] at h1 h2
  exact kk H1 locs1 h1 h2 h3
end BKP
