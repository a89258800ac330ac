/-! contracts over records; calls of a part of the world as a whole -/
theorem Mi.map {S S' : Type} {l : Launch} {y : MethodName} {b : ByteArray} {maxL : Nat} {rt : FieldType} {rm : Room} {D : va_G} {cI cO : ClassId} {av : List Value} {W0 : va_W} {post : Int → S → Prop} {W1 : S → va_W} {mc ms : Nat} {post' : Int → S' → Prop} {W1' : S' → va_W} (h : Mi l y b maxL rt rm D cI cO av W0 post W1 mc ms) (f : S → S') (hf : ∀ r u, post r u → post' r (f u)) (hW : ∀ u, W1' (f u) = W1 u) : Mi l y b maxL rt rm D cI cO av W0 post' W1' mc ms := fun sz => by
  refine MetFree.imp (h sz) (fun a s o t hq => ?_)
  obtain ⟨⟨⟨r, u, ho, ⟨x, hx, hp⟩, hB⟩, hF⟩, hE⟩ := hq
  refine ⟨⟨⟨r, f u, ho, ⟨x, hx, hf x u hp⟩, ?_⟩, hF⟩, hE⟩
  show va_P D classes (W1' (f u)) t.heap ∧ va_D (va_A W0 sz) (W1' (f u))
  rw [hW u]
  exact hB
theorem Mv.map {S S' : Type} {l : Launch} {y : MethodName} {b : ByteArray} {maxL : Nat} {rm : Room} {D : va_G} {cI cO : ClassId} {av : List Value} {W0 : va_W} {post : S → Prop} {W1 : S → va_W} {mc ms : Nat} {post' : S' → Prop} {W1' : S' → va_W} (h : Mv l y b maxL rm D cI cO av W0 post W1 mc ms) (f : S → S') (hf : ∀ u, post u → post' (f u)) (hW : ∀ u, W1' (f u) = W1 u) : Mv l y b maxL rm D cI cO av W0 post' W1' mc ms := fun sz => by
  refine MetFree.imp (h sz) (fun a s o t hq => ?_)
  obtain ⟨⟨⟨u, ho, hp, hB⟩, hF⟩, hE⟩ := hq
  refine ⟨⟨⟨f u, ho, hf u hp, ?_⟩, hF⟩, hE⟩
  show va_P D classes (W1' (f u)) t.heap ∧ va_D (va_A W0 sz) (W1' (f u))
  rw [hW u]
  exact hB
theorem sg_cmP {D : va_G} {cl : List vw_C} {U P : va_W} {H : Heap} (h : va_P D cl (U ++ P) H) : va_P D cl (P ++ U) H := by
  have h1 : va_P D cl (([] ++ U) ++ P) H := h
  exact h1.swap
theorem sg_cmD {A : Nat → Prop} {U P : va_W} (h : va_D A (U ++ P)) : va_D A (P ++ U) := by
  have h1 : va_D A (([] ++ U) ++ P) := h
  exact h1.swap
theorem sg_r {U P : va_W} {k : Nat} {q : Nat × va_E} (h : P[k]? = some q) : (U ++ P)[U.length + k]? = some q := by
  rw [List.getElem?_append_right (by omega), Nat.add_sub_cancel_left]
  exact h
theorem sg_l {U P : va_W} {k : Nat} {q : Nat × va_E} (h : U[k]? = some q) : (U ++ P)[k]? = some q := by
  rw [List.getElem?_append_left (List.getElem?_eq_some_iff.mp h).1]
  exact h
theorem sg_P {D : va_G} {cl : List vw_C} {U P : va_W} {H : Heap} (h : va_P D cl (U ++ P) H) : va_P D cl P H := fun _ _ hk => h _ _ (sg_r hk)
theorem sg_D {A : Nat → Prop} {U P : va_W} (h : va_D A (U ++ P)) : va_D A P :=
  ⟨fun i j x y hx hy e => by have := h.1 _ _ x y (sg_r (U := U) hx) (sg_r (U := U) hy) e; omega, fun _ _ hk => h.2 _ _ (sg_r (U := U) hk)⟩
theorem sg_free {A : Nat → Prop} {U P : va_W} {H0 H : Heap} {locs : List Loc} (hD : va_D A (U ++ P)) (hS : va_S A H0 H locs) (hA : ∀ q, H0.size ≤ q → A q) : ∀ q, va_A P H.size q → A q := fun q h => by
  rcases h with ⟨k, e, h⟩ | h
  · exact hD.2 _ (q, e) (sg_r (U := U) h)
  · exact hA q (Nat.le_trans hS.1 h)
theorem sg_join {A : Nat → Prop} {D : va_G} {cl : List vw_C} {U P P1 : va_W} {H H1 : Heap} (hP : va_P D cl (U ++ P) H) (hD : va_D A (U ++ P)) (hF : ∀ q, va_A P H.size q → A q) (hk : ∀ q : Nat, q < H.size → ¬ va_A P H.size q → H1[q]? = H[q]?) (hP1 : va_P D cl P1 H1) (hD1 : va_D (va_A P H.size) P1) : va_P D cl (U ++ P1) H1 ∧ va_D A (U ++ P1) := by
  have apart : ∀ (k : Nat) (q : Nat × va_E), U[k]? = some q → q.1 < H.size ∧ ¬ va_A P H.size q.1 := by
    intro k q hq
    have hk' : k < U.length := (List.getElem?_eq_some_iff.mp hq).1
    have h2 : (U ++ P)[k]? = some q := sg_l hq
    have hl := (hP k q h2).lt
    refine ⟨hl, fun h => ?_⟩
    rcases h with ⟨k2, e, h⟩ | h
    · have h3 := hD.1 _ _ q (q.1, e) h2 (sg_r (U := U) h) rfl
      omega
    · omega
  have hDU : va_D A U := ⟨fun i j x y hx hy e => hD.1 i j x y (sg_l hx) (sg_l hy) e, fun k q hq => hD.2 k q (sg_l hq)⟩
  refine ⟨va_P.app (fun k q hq => ?_) hP1, va_D.app hDU (hD1.weaken (fun k q _ h => hF q.1 h)) (fun i j x y hx hy hxy => ?_)⟩
  · obtain ⟨g1, g2⟩ := apart k q hq
    exact (hP k q (sg_l hq)).kept (hk q.1 g1 g2)
  · exact (apart i x hx).2 (by rw [hxy]; exact hD1.2 j y hy)
section SG
variable {p : Program} {l : Launch} {e : Env} {R : Room} {s : State} {m : MethodId} {args : Array Value} {below : List Frame} {meth : Method} {c : Code} {H : Heap} {locs : List Loc} {cells slots : Nat} {Q : State → Prop}
variable {pc : Nat} {ls : Array Slot} {rest st0 : List Value} {D : va_G} {A : Nat → Prop} {H0 : Heap} {U P : va_W} {mc ms : Nat}
/-- behind a call whose world is the last part of the caller's -/
theorem sg_fi {S : Type} {post : Int → S → Prop} {W1 : S → va_W} {aa : Array Value} (hP : va_P D classes (U ++ P) H) (hD : va_D A (U ++ P)) (hS : va_S A H0 H locs) (hA : ∀ q, H0.size ≤ q → A q)
    (hr : va_Run p l e R s m args below meth c H locs cells slots mc ms (F0 m pc ls st0) rest (Qi D post W1 P H.size aa) (va_A P H.size))
    (kk : ∀ (r : Int) (u : S) (H1 : Heap) (locs1 : List Loc), post r u → va_P D classes (U ++ W1 u) H1 → va_D A (U ++ W1 u) → va_S A H0 H1 locs1 → W p l e R s m args below meth c H1 locs1 (cells + mc) (slots + ms) Q (F0 m (pc + 3) ls (.int (iI r) :: rest))) : W p l e R s m args below meth c H locs cells slots Q (F0 m pc ls st0) := by
  have hF := sg_free hD hS hA
  refine va_calli hr hS (fun q _ h => hF q h) hF (fun r u t H1 locs1 ht hvm hp hB hz hk hS1 => ?_)
  obtain ⟨a, rfl, hp⟩ := hp
  obtain ⟨hP1, hD1⟩ := hB
  rw [ht] at hP1
  obtain ⟨hP2, hD2⟩ := sg_join hP hD hF hk hP1 hD1
  exact kk a u H1 locs1 hp hP2 hD2 hS1
theorem sg_fv {S : Type} {post : S → Prop} {W1 : S → va_W} {aa : Array Value} (hP : va_P D classes (U ++ P) H) (hD : va_D A (U ++ P)) (hS : va_S A H0 H locs) (hA : ∀ q, H0.size ≤ q → A q)
    (hr : va_Run p l e R s m args below meth c H locs cells slots mc ms (F0 m pc ls st0) rest (Qv D post W1 P H.size aa) (va_A P H.size))
    (kk : ∀ (u : S) (H1 : Heap) (locs1 : List Loc), post u → va_P D classes (U ++ W1 u) H1 → va_D A (U ++ W1 u) → va_S A H0 H1 locs1 → W p l e R s m args below meth c H1 locs1 (cells + mc) (slots + ms) Q (F0 m (pc + 3) ls rest)) : W p l e R s m args below meth c H locs cells slots Q (F0 m pc ls st0) := by
  have hF := sg_free hD hS hA
  refine va_callv hr hS (fun q _ h => hF q h) hF (fun u t H1 locs1 ht hvm hp hB hz hk hS1 => ?_)
  obtain ⟨hP1, hD1⟩ := hB
  rw [ht] at hP1
  obtain ⟨hP2, hD2⟩ := sg_join hP hD hF hk hP1 hD1
  exact kk u H1 locs1 hp hP2 hD2 hS1
end SG
/-! what the relation gives to the contracts -/
section DIS
variable {B : BD} {M : MD}
theorem Rel.tnr (h : Rel B M) : -1 ≤ B.tn ∧ B.tn < 8 * 693 := by
  rcases h.dk with w | ⟨_, w⟩
  · omega
  · have h1 := w.tn
    have h2 := w.mu
    have h3 := h.szr
    have h4 := w.sz
    omega
theorem Rel.mzr (h : Rel B M) : M.mz ≤ 700 := by
  rcases h.dk with w | ⟨_, w⟩
  · omega
  · have h3 := h.szr
    have h4 := w.sz
    omega
theorem Rel.mur (h : Rel B M) : -1 ≤ M.mu ∧ M.mu < 8 * 700 := by
  rcases h.dk with w | ⟨_, w⟩
  · omega
  · have h2 := w.mu
    have h3 := h.mzr
    omega
theorem Rel.mwr (h : Rel B M) : 0 ≤ M.mw ∧ M.mw ≤ 1 := by
  have := h.w1
  omega
theorem Rel.Dk0 (h : Rel B M) : ∀ j, j < M.mz → 0 ≤ M.Dk j ∧ M.Dk j ≤ 255 := fun j hj => by
  rcases h.dk with w | ⟨_, w⟩
  · omega
  · exact h.Dkr w hj
theorem Rel.sl528 (h : Rel B M) : B.sl ≤ 528 := by
  have h1 := h.sl
  have h2 := h.T
  have h3 := h.cn24
  omega
theorem Rel.STr (h : Rel B M) : ∀ z, z < B.cn → B.ST z = (stN M.Oc M.Bc z : Int) ∧ B.SB (stN M.Oc M.Bc z) + 1 = ((stN M.Oc M.Bc (z + 1) - stN M.Oc M.Bc z : Nat) : Int) ∧ stN M.Oc M.Bc z < stN M.Oc M.Bc (z + 1) ∧ stN M.Oc M.Bc (z + 1) ≤ B.sl := fun z hz => by
  rw [h.cn] at hz
  have h1 : stN M.Oc M.Bc (z + 1) = stN M.Oc M.Bc z + (7 + (M.Oc z).toNat + ((M.Bc z).toNat + 1) / 2) := rfl
  have h2 := stN_mono (Oc := M.Oc) (Bc := M.Bc) (show z + 1 ≤ M.mr by omega)
  have h3 := h.sb z hz 0 (by unfold rLI; omega)
  have h4 : B.SB (stN M.Oc M.Bc z) = ((6 + (M.Oc z).toNat + ((M.Bc z).toNat + 1) / 2 : Nat) : Int) := h3
  have h5 := h.sl
  exact ⟨(h.rd z hz).2.2.2.2, by omega, by omega, by omega⟩
theorem Rel.rl22 (h : Rel B M) : ∀ z, z < B.cn → stN M.Oc M.Bc (z + 1) ≤ stN M.Oc M.Bc z + 22 := fun z hz => by
  rw [h.cn] at hz
  have h1 : stN M.Oc M.Bc (z + 1) = stN M.Oc M.Bc z + (7 + (M.Oc z).toNat + ((M.Bc z).toNat + 1) / 2) := rfl
  have h2 := h.rc z hz
  omega
theorem Rel.bl (h : Rel B M) : 0 < B.sz → (B.sl + 39) / 40 < B.bc := fun hs => by
  rcases h.dk with w | ⟨_, w⟩
  · omega
  · have h1 := w.bc
    have h2 := h.sl
    omega
theorem Rel.K2 (h : Rel B M) : 0 < B.sz → ∀ x, x < B.sl → x / 40 < B.bc ∧ 0 ≤ B.KS (x / 40) ∧ B.KS (x / 40) + 7 + ((x % 40 : Nat) : Int) < (B.sz : Int) := fun hs x hx => by
  rcases h.dk with w | ⟨_, w⟩
  · omega
  · have h1 := w.bc
    have h2 := h.sl
    have h3 := w.ks (x / 40) (by omega)
    have h4 : stB (stN M.Oc M.Bc M.mr) (x / 40) = min (40 * (x / 40)) (stN M.Oc M.Bc M.mr) + 11 * (x / 40) := rfl
    have h5 := w.sz
    have h6 := w.mz
    rw [h3]
    omega
theorem Rel.gd (h : Rel B M) : 0 < B.sz → ∀ x, x < B.sl → sndN B.DB B.sz (B.KS (x / 40)).toNat → sbD B.DB B.KS x = B.SB x := fun hs x hx hq => by
  rcases h.dk with w | ⟨_, w⟩
  · omega
  · have h2 := h.sl
    have hn := (h.snd w (show x / 40 ≤ (stN M.Oc M.Bc M.mr + 39) / 40 by omega)).mp hq
    have h3 := w.ks (x / 40) (by omega)
    have h4 : stB (stN M.Oc M.Bc M.mr) (x / 40) = min (40 * (x / 40)) (stN M.Oc M.Bc M.mr) + 11 * (x / 40) := rfl
    have h5 : lnB (stN M.Oc M.Bc M.mr) (x / 40) = min 40 (stN M.Oc M.Bc M.mr - 40 * (x / 40)) := rfl
    have h6 := w.mz
    have h7 := w.dk (x / 40) (by omega) (7 + x % 40) (by omega)
    unfold sbD
    rw [h3, Int.toNat_natCast, show stB (stN M.Oc M.Bc M.mr) (x / 40) + 7 + x % 40 = stB (stN M.Oc M.Bc M.mr) (x / 40) + (7 + x % 40) by omega, w.db _ (by omega), byN_no (by omega), Int.toNat_natCast, h7, blkB_piece (by omega), show min (40 * (x / 40)) (stN M.Oc M.Bc M.mr) + x % 40 = x by omega]
theorem Rel.Bgf (h : Rel B M) : 0 < M.mf → ∀ i, i < M.mr → 0 ≤ M.Bg i ∧ M.Bg i ≤ 528 := fun hf i hi => by
  rcases h.dk with w | ⟨_, w⟩
  · have := h.fw
    omega
  · have h1 := (w.bg i hi).1
    have h2 := stN_mono (Oc := M.Oc) (Bc := M.Bc) (show i ≤ M.mr by omega)
    have h3 := h.sl528
    have h4 := h.sl
    omega
theorem Rel.Bgq (h : Rel B M) : M.mw = 1 → 0 < M.mr → ∀ i, i ≤ M.mr → 0 ≤ M.Bg i ∧ M.Bg i ≤ 528 := fun hw hm i hi => by
  rcases h.dk with w | ⟨_, w⟩
  · omega
  · have h2 := stN_mono (Oc := M.Oc) (Bc := M.Bc) hi
    have h3 := h.sl528
    have h4 := h.sl
    by_cases e : i < M.mr
    · have h1 := (w.bg i e).1
      omega
    · obtain ⟨j, rfl⟩ : ∃ j, i = j + 1 := ⟨i - 1, by omega⟩
      have h1 := (w.bg j (by omega)).2
      omega
theorem Rel.Bg1 (h : Rel B M) : M.mw = 1 → ∀ i, i < M.mr → 1 ≤ M.Bg (i + 1) := fun hw i hi => by
  rcases h.dk with w | ⟨_, w⟩
  · omega
  · have h1 := (w.bg i hi).2
    have h2 := stN_mono (Oc := M.Oc) (Bc := M.Bc) (show 0 ≤ i + 1 by omega)
    omega
end DIS
