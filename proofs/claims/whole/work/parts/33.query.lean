/-! a query of both -/
section SIMQ
variable {B : BD} {M : MD}
theorem Rel.hurt (h : Rel B M) (w : Wr B M) {z : Nat} (hz : z < M.mr) : (∀ k, stN M.Oc M.Bc z / 40 ≤ k → k ≤ (stN M.Oc M.Bc (z + 1) - 1) / 40 → sndN B.DB B.sz (B.KS k).toNat) ↔ ¬ hurtN M.mu M.mz M.Bg z := by
  have hbg := w.bg z hz
  have hmz := w.mz
  have hmo := stN_mono (Oc := M.Oc) (Bc := M.Bc) (show z + 1 ≤ M.mr by omega)
  have hmo1 := stN_mono (Oc := M.Oc) (Bc := M.Bc) (show z ≤ z + 1 by omega)
  unfold hurtN
  rw [hbg.1, hbg.2]
  constructor
  · intro hall hh
    obtain ⟨u0, u1, u2, u3⟩ := hh
    have hk := hall (M.mu / 8 / 51).toNat (by omega) (by omega)
    have e1 : stB (stN M.Oc M.Bc M.mr) (M.mu / 8 / 51).toNat = min (40 * (M.mu / 8 / 51).toNat) (stN M.Oc M.Bc M.mr) + 11 * (M.mu / 8 / 51).toNat := rfl
    have e2 : lnB (stN M.Oc M.Bc M.mr) (M.mu / 8 / 51).toNat = min 40 (stN M.Oc M.Bc M.mr - 40 * (M.mu / 8 / 51).toNat) := rfl
    exact (h.snd w (by omega)).mp hk ⟨u0, by omega, by omega⟩
  · intro hn k k1 k2
    refine (h.snd w (by omega)).mpr (fun q => hn ?_)
    obtain ⟨m1, m2, m3⟩ := q
    have e1 : stB (stN M.Oc M.Bc M.mr) k = min (40 * k) (stN M.Oc M.Bc M.mr) + 11 * k := rfl
    have e2 : lnB (stN M.Oc M.Bc M.mr) k = min 40 (stN M.Oc M.Bc M.mr - 40 * k) := rfl
    have e3 : M.mu / 8 / 51 = (k : Int) := by omega
    exact ⟨m1, by omega, by omega, by omega⟩
theorem sim_query (h : Rel B M) {a b d r r' : Int} {j j' nf2 lk2 mf2 ml2 cc2 : Nat} {C2 O2 F2 : Nat → Int} {G2 : Nat → Nat → Int}
    (hc : (¬ (0 < B.sz ∧ 0 ≤ a ∧ a < 2 ∧ 0 ≤ b ∧ d ≤ 4096 ∧ b < d) ∧ r = -1 ∧ G2 = B.G ∧ O2 = B.OF ∧ nf2 = B.nf ∧ lk2 = B.lk)
      ∨ ((0 < B.sz ∧ 0 ≤ a ∧ a < 2 ∧ 0 ≤ b ∧ d ≤ 4096 ∧ b < d) ∧ (j ≤ B.cn ∧ (∀ z, z < j → ¬ (B.RF z = a ∧ 64 * (b / 64) < B.EN z)) ∧ (j < B.cn → B.RF j = a ∧ 64 * (b / 64) < B.EN j)) ∧ ¬ (∀ q, q < (selN (fun z => decide (B.RF z = a ∧ binB (B.BN z) < d ∧ b < binE (B.BN z))) j B.cn).length → ∀ k, stN M.Oc M.Bc ((selN (fun z => decide (B.RF z = a ∧ binB (B.BN z) < d ∧ b < binE (B.BN z))) j B.cn).getD q 0) / 40 ≤ k → k ≤ (stN M.Oc M.Bc ((selN (fun z => decide (B.RF z = a ∧ binB (B.BN z) < d ∧ b < binE (B.BN z))) j B.cn).getD q 0 + 1) - 1) / 40 → sndN B.DB B.sz (B.KS k).toNat) ∧ r = -2 ∧ G2 = B.G ∧ O2 = B.OF ∧ nf2 = B.nf ∧ lk2 = B.lk)
      ∨ ((0 < B.sz ∧ 0 ≤ a ∧ a < 2 ∧ 0 ≤ b ∧ d ≤ 4096 ∧ b < d) ∧ (j ≤ B.cn ∧ (∀ z, z < j → ¬ (B.RF z = a ∧ 64 * (b / 64) < B.EN z)) ∧ (j < B.cn → B.RF j = a ∧ 64 * (b / 64) < B.EN j)) ∧ (∀ q, q < (selN (fun z => decide (B.RF z = a ∧ binB (B.BN z) < d ∧ b < binE (B.BN z))) j B.cn).length → ∀ k, stN M.Oc M.Bc ((selN (fun z => decide (B.RF z = a ∧ binB (B.BN z) < d ∧ b < binE (B.BN z))) j B.cn).getD q 0) / 40 ≤ k → k ≤ (stN M.Oc M.Bc ((selN (fun z => decide (B.RF z = a ∧ binB (B.BN z) < d ∧ b < binE (B.BN z))) j B.cn).getD q 0 + 1) - 1) / 40 → sndN B.DB B.sz (B.KS k).toNat) ∧ r = (nf2 : Int)
        ∧ nf2 = (fndL (selN (fun z => decide (B.RF z = a ∧ binB (B.BN z) < d ∧ b < binE (B.BN z))) j B.cn) (fun z => decide (B.PO z < d ∧ b < B.EN z)) (selN (fun z => decide (B.RF z = a ∧ binB (B.BN z) < d ∧ b < binE (B.BN z))) j B.cn).length).length ∧ lk2 = (selN (fun z => decide (B.RF z = a ∧ binB (B.BN z) < d ∧ b < binE (B.BN z))) j B.cn).length
        ∧ (∀ q, q < (fndL (selN (fun z => decide (B.RF z = a ∧ binB (B.BN z) < d ∧ b < binE (B.BN z))) j B.cn) (fun z => decide (B.PO z < d ∧ b < B.EN z)) (selN (fun z => decide (B.RF z = a ∧ binB (B.BN z) < d ∧ b < binE (B.BN z))) j B.cn).length).length → (∀ t, t < stN M.Oc M.Bc ((fndL (selN (fun z => decide (B.RF z = a ∧ binB (B.BN z) < d ∧ b < binE (B.BN z))) j B.cn) (fun z => decide (B.PO z < d ∧ b < B.EN z)) (selN (fun z => decide (B.RF z = a ∧ binB (B.BN z) < d ∧ b < binE (B.BN z))) j B.cn).length).getD q 0 + 1) - stN M.Oc M.Bc ((fndL (selN (fun z => decide (B.RF z = a ∧ binB (B.BN z) < d ∧ b < binE (B.BN z))) j B.cn) (fun z => decide (B.PO z < d ∧ b < B.EN z)) (selN (fun z => decide (B.RF z = a ∧ binB (B.BN z) < d ∧ b < binE (B.BN z))) j B.cn).length).getD q 0) → G2 q t = B.SB (stN M.Oc M.Bc ((fndL (selN (fun z => decide (B.RF z = a ∧ binB (B.BN z) < d ∧ b < binE (B.BN z))) j B.cn) (fun z => decide (B.PO z < d ∧ b < B.EN z)) (selN (fun z => decide (B.RF z = a ∧ binB (B.BN z) < d ∧ b < binE (B.BN z))) j B.cn).length).getD q 0) + t)) ∧ O2 q = ((64 * (B.KS (stN M.Oc M.Bc ((fndL (selN (fun z => decide (B.RF z = a ∧ binB (B.BN z) < d ∧ b < binE (B.BN z))) j B.cn) (fun z => decide (B.PO z < d ∧ b < B.EN z)) (selN (fun z => decide (B.RF z = a ∧ binB (B.BN z) < d ∧ b < binE (B.BN z))) j B.cn).length).getD q 0) / 40)).toNat + stN M.Oc M.Bc ((fndL (selN (fun z => decide (B.RF z = a ∧ binB (B.BN z) < d ∧ b < binE (B.BN z))) j B.cn) (fun z => decide (B.PO z < d ∧ b < B.EN z)) (selN (fun z => decide (B.RF z = a ∧ binB (B.BN z) < d ∧ b < binE (B.BN z))) j B.cn).length).getD q 0) % 40 : Nat) : Int))))
    (hm : (¬ (M.mw = 1 ∧ 0 ≤ a ∧ a ≤ 1 ∧ 0 ≤ b ∧ d ≤ 4096 ∧ b < d) ∧ r' = -1 ∧ F2 = M.Fd ∧ mf2 = M.mf ∧ ml2 = M.ml)
      ∨ ((M.mw = 1 ∧ 0 ≤ a ∧ a ≤ 1 ∧ 0 ≤ b ∧ d ≤ 4096 ∧ b < d) ∧ (j' ≤ M.mr ∧ (∀ z, z < j' → ¬ (M.Rf z = a ∧ b / 64 * 64 < M.En z)) ∧ (j' < M.mr → M.Rf j' = a ∧ b / 64 * 64 < M.En j')) ∧ (∃ z, z ∈ selN (fun z => decide (M.Rf z = a ∧ binB (binI (M.Ps z) (M.En z)) < d ∧ b < binE (binI (M.Ps z) (M.En z)))) j' M.mr ∧ hurtN M.mu M.mz M.Bg z) ∧ r' = -2 ∧ F2 = M.Fd ∧ mf2 = M.mf ∧ ml2 = M.ml)
      ∨ ((M.mw = 1 ∧ 0 ≤ a ∧ a ≤ 1 ∧ 0 ≤ b ∧ d ≤ 4096 ∧ b < d) ∧ (j' ≤ M.mr ∧ (∀ z, z < j' → ¬ (M.Rf z = a ∧ b / 64 * 64 < M.En z)) ∧ (j' < M.mr → M.Rf j' = a ∧ b / 64 * 64 < M.En j')) ∧ (∀ z, z ∈ selN (fun z => decide (M.Rf z = a ∧ binB (binI (M.Ps z) (M.En z)) < d ∧ b < binE (binI (M.Ps z) (M.En z)))) j' M.mr → ¬ hurtN M.mu M.mz M.Bg z) ∧ r' = (mf2 : Int) ∧ holdsL F2 (selN (fun z => decide (M.Rf z = a ∧ M.Ps z < d ∧ b < M.En z)) j' M.mr) ∧ mf2 = (selN (fun z => decide (M.Rf z = a ∧ M.Ps z < d ∧ b < M.En z)) j' M.mr).length ∧ ml2 = (selN (fun z => decide (M.Rf z = a ∧ binB (binI (M.Ps z) (M.En z)) < d ∧ b < binE (binI (M.Ps z) (M.En z)))) j' M.mr).length)) :
    r = r' ∧ Rel (BD.mk B.O B.B B.no B.nb B.SB B.sl B.RF B.PO B.EN B.BN B.ST C2 B.cn cc2 B.DB B.KS B.sz B.bc B.tn G2 O2 nf2 lk2) (MD.mk M.K M.Ln M.Cd M.Rf M.Ps M.En M.Oc M.Ob M.Bc M.Bd M.Bg M.Sm M.Dk F2 M.mo M.mb M.mr M.mw M.mt M.mz M.mu mf2 ml2) := by
  have hw := h.w1
  have hcn := h.cn
  -- refused
  have stay : G2 = B.G → O2 = B.OF → nf2 = B.nf → lk2 = B.lk → F2 = M.Fd → mf2 = M.mf → ml2 = M.ml → Rel (BD.mk B.O B.B B.no B.nb B.SB B.sl B.RF B.PO B.EN B.BN B.ST C2 B.cn cc2 B.DB B.KS B.sz B.bc B.tn G2 O2 nf2 lk2) (MD.mk M.K M.Ln M.Cd M.Rf M.Ps M.En M.Oc M.Ob M.Bc M.Bd M.Bg M.Sm M.Dk F2 M.mo M.mb M.mr M.mw M.mt M.mz M.mu mf2 ml2) := by
    rintro rfl rfl rfl rfl rfl rfl rfl
    exact (Rel.mk h.no h.no3 h.op h.nb h.nb24 h.ba h.cn h.cn24 h.rd h.rr h.rc h.ob h.bd h.en h.sl h.sb (h.dk.imp id (fun w => ⟨w.1, (Wr.mk (w.2).sz (w.2).mz (w.2).bc (w.2).ks (w.2).bg (w.2).dk (w.2).tn (w.2).mu (w.2).db)⟩)) h.nf h.nf24 h.lk h.fw h.fd)
  by_cases hok : M.mw = 1 ∧ 0 ≤ a ∧ a ≤ 1 ∧ 0 ≤ b ∧ d ≤ 4096 ∧ b < d
  · have w : Wr B M := by
      rcases h.dk with w | w
      · omega
      · exact w.2
    -- what both look at
    have key : ∀ {j j' : Nat}, (j ≤ B.cn ∧ (∀ z, z < j → ¬ (B.RF z = a ∧ 64 * (b / 64) < B.EN z)) ∧ (j < B.cn → B.RF j = a ∧ 64 * (b / 64) < B.EN j)) → (j' ≤ M.mr ∧ (∀ z, z < j' → ¬ (M.Rf z = a ∧ b / 64 * 64 < M.En z)) ∧ (j' < M.mr → M.Rf j' = a ∧ b / 64 * 64 < M.En j')) → j = j' := by
      intro j j' f1 f2
      rw [hcn] at f1
      refine first_one (C := fun z => M.Rf z = a ∧ 64 * (b / 64) < M.En z) f1.1 (fun z hz q => ?_) (fun hj => ?_) f2.1 (fun z hz q => ?_) (fun hj => ?_)
      · have h1 := h.rd z (by omega)
        exact f1.2.1 z hz ⟨by omega, by omega⟩
      · have h1 := h.rd j hj
        have h2 := f1.2.2 hj
        exact ⟨by omega, by omega⟩
      · exact f2.2.1 z hz ⟨q.1, by omega⟩
      · have h2 := f2.2.2 hj
        exact ⟨h2.1, by omega⟩
    have eP : ∀ j : Nat, selN (fun z => decide (B.RF z = a ∧ binB (B.BN z) < d ∧ b < binE (B.BN z))) j B.cn = selN (fun z => decide (M.Rf z = a ∧ binB (binI (M.Ps z) (M.En z)) < d ∧ b < binE (binI (M.Ps z) (M.En z)))) j M.mr := by
      intro j
      rw [hcn]
      refine selN_congr (fun i _ hi => ?_)
      have h1 := h.rd i hi
      show decide (B.RF i = a ∧ binB (B.BN i) < d ∧ b < binE (B.BN i)) = decide (M.Rf i = a ∧ binB (binI (M.Ps i) (M.En i)) < d ∧ b < binE (binI (M.Ps i) (M.En i)))
      rw [h1.1, h1.2.2.2.1]
    have eAL : ∀ L : List Nat, (∀ z, z ∈ L → z < M.mr) → ((∀ q, q < L.length → ∀ k, stN M.Oc M.Bc (L.getD q 0) / 40 ≤ k → k ≤ (stN M.Oc M.Bc (L.getD q 0 + 1) - 1) / 40 → sndN B.DB B.sz (B.KS k).toNat) ↔ ∀ z, z ∈ L → ¬ hurtN M.mu M.mz M.Bg z) := by
      intro L hL
      constructor
      · intro hall z hz
        obtain ⟨q, hq, rfl⟩ := mem_getD hz
        exact (h.hurt w (hL _ hz)).mp (hall q hq)
      · intro hall q hq
        exact (h.hurt w (hL _ (getD_mem hq))).mpr (hall _ (getD_mem hq))
    have hLP : ∀ j : Nat, ∀ z, z ∈ selN (fun z => decide (M.Rf z = a ∧ binB (binI (M.Ps z) (M.En z)) < d ∧ b < binE (binI (M.Ps z) (M.En z)))) j M.mr → z < M.mr := fun j z hz => (selN_mem.mp hz).2.1
    rw [eP] at hc
    rcases hc with c | c | c
    · exact absurd ⟨by omega, by omega⟩ c.1
    · rcases hm with m | m | m
      · exact absurd hok m.1
      · exact ⟨by rw [c.2.2.2.1, m.2.2.2.1], stay c.2.2.2.2.1 c.2.2.2.2.2.1 c.2.2.2.2.2.2.1 c.2.2.2.2.2.2.2 m.2.2.2.2.1 m.2.2.2.2.2.1 m.2.2.2.2.2.2⟩
      · exact absurd ((eAL _ (hLP j)).mpr (by rw [key c.2.1 m.2.1]; exact m.2.2.1)) c.2.2.1
    · rcases hm with m | m | m
      · exact absurd hok m.1
      · obtain ⟨z, z1, z2⟩ := m.2.2.1
        rw [← key c.2.1 m.2.1] at z1
        exact absurd z2 ((eAL _ (hLP j)).mp c.2.2.1 z z1)
      · have ej := key c.2.1 m.2.1
        subst ej
        obtain ⟨_, _, _, c4, c5, c6, c7⟩ := c
        obtain ⟨_, _, _, m4, m5, m6, m7⟩ := m
        have eQ : fndL (selN (fun z => decide (M.Rf z = a ∧ binB (binI (M.Ps z) (M.En z)) < d ∧ b < binE (binI (M.Ps z) (M.En z)))) j M.mr) (fun z => decide (B.PO z < d ∧ b < B.EN z)) (selN (fun z => decide (M.Rf z = a ∧ binB (binI (M.Ps z) (M.En z)) < d ∧ b < binE (binI (M.Ps z) (M.En z)))) j M.mr).length = selN (fun z => decide (M.Rf z = a ∧ M.Ps z < d ∧ b < M.En z)) j M.mr := by
          rw [fndL_sel]
          refine selN_congr (fun i _ hi => ?_)
          have h1 := h.rd i hi
          have h2 := bin_cov (h.rr i hi).2
          show (decide (M.Rf i = a ∧ binB (binI (M.Ps i) (M.En i)) < d ∧ b < binE (binI (M.Ps i) (M.En i))) && decide (B.PO i < d ∧ b < B.EN i)) = decide (M.Rf i = a ∧ M.Ps i < d ∧ b < M.En i)
          rw [h1.2.1, h1.2.2.1]
          by_cases q : M.Rf i = a ∧ M.Ps i < d ∧ b < M.En i
          · rw [decide_eq_true q, decide_eq_true q.2, decide_eq_true (show M.Rf i = a ∧ binB (binI (M.Ps i) (M.En i)) < d ∧ b < binE (binI (M.Ps i) (M.En i)) from ⟨q.1, by omega, by omega⟩)]
            rfl
          · rw [decide_eq_false q]
            by_cases q1 : M.Rf i = a ∧ binB (binI (M.Ps i) (M.En i)) < d ∧ b < binE (binI (M.Ps i) (M.En i))
            · rw [decide_eq_true q1, decide_eq_false (fun q2 => q ⟨q1.1, q2⟩)]
              rfl
            · rw [decide_eq_false q1]
              rfl
        rw [eQ] at c5 c7
        have hlen := selN_len (P := fun z => decide (M.Rf z = a ∧ M.Ps z < d ∧ b < M.En z)) (lo := j) (n := M.mr)
        have hcn24 := h.cn24
        refine ⟨by rw [c4, m4, c5, m6], (Rel.mk h.no h.no3 h.op h.nb h.nb24 h.ba h.cn h.cn24 h.rd h.rr h.rc h.ob h.bd h.en h.sl h.sb (h.dk.imp id (fun w => ⟨w.1, (Wr.mk (w.2).sz (w.2).mz (w.2).bc (w.2).ks (w.2).bg (w.2).dk (w.2).tn (w.2).mu (w.2).db)⟩)) ?_ ?_ ?_ (Or.inr hok.1) ?_)⟩
        · show nf2 = mf2
          rw [c5, m6]
        · show mf2 ≤ 24
          omega
        · show lk2 = ml2
          rw [c6, m7]
        · intro q hq
          have hq : q < mf2 := hq
          rw [m6] at hq
          have hz := selN_mem.mp (getD_mem hq)
          have c8 := c7 q hq
          have hF : F2 q = (((selN (fun z => decide (M.Rf z = a ∧ M.Ps z < d ∧ b < M.En z)) j M.mr).getD q 0 : Nat) : Int) := m5 q hq
          show (0 ≤ F2 q ∧ F2 q < (M.mr : Int)) ∧ O2 q = ((3264 * (stN M.Oc M.Bc (F2 q).toNat / 40) + stN M.Oc M.Bc (F2 q).toNat % 40 : Nat) : Int) ∧ ∀ t, t < rLI M.Oc M.Bc (F2 q).toNat → G2 q t = rowN M.Rf M.Ps M.En M.Oc M.Ob M.Bc M.Bd (F2 q).toNat t
          rw [hF, Int.toNat_natCast]
          generalize (selN (fun z => decide (M.Rf z = a ∧ M.Ps z < d ∧ b < M.En z)) j M.mr).getD q 0 = z at hz c8 ⊢
          have hst := stN_mono (Oc := M.Oc) (Bc := M.Bc) (show z + 1 ≤ M.mr by omega)
          have hs1 : stN M.Oc M.Bc (z + 1) = stN M.Oc M.Bc z + rLI M.Oc M.Bc z := rfl
          have hs2 := stN_mono (Oc := M.Oc) (Bc := M.Bc) (show z ≤ z + 1 by omega)
          refine ⟨by omega, ?_, fun t ht => ?_⟩
          · have hks := w.ks (stN M.Oc M.Bc z / 40) (by omega)
            have e1 : stB (stN M.Oc M.Bc M.mr) (stN M.Oc M.Bc z / 40) = min (40 * (stN M.Oc M.Bc z / 40)) (stN M.Oc M.Bc M.mr) + 11 * (stN M.Oc M.Bc z / 40) := rfl
            rw [c8.2, hks, Int.toNat_natCast, e1]
            omega
          · rw [c8.1 t (by omega)]
            exact h.sb z (by omega) t ht
  · rcases hm with m | m | m
    · rcases hc with c | c | c
      · exact ⟨by rw [c.2.1, m.2.1], stay c.2.2.1 c.2.2.2.1 c.2.2.2.2.1 c.2.2.2.2.2 m.2.2.1 m.2.2.2.1 m.2.2.2.2⟩
      · exact absurd ⟨by omega, by omega⟩ hok
      · exact absurd ⟨by omega, by omega⟩ hok
    · exact absurd m.1 hok
    · exact absurd m.1 hok
end SIMQ
