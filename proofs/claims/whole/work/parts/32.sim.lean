/-! a call of both: the answers are the same, and the data keep their relation -/
theorem rB_congr {x y b : Int} {no nb : Nat} {O O' B B' : Nat → Int} (hO : ∀ j, j < no → O j = O' j) (hB : ∀ j, j < nb → B j = B' j) {j : Nat} (hj : j < 7 + no + (nb + 1) / 2) : rB x y b no nb O B j = rB x y b no nb O' B' j := by
  by_cases h7 : j < 7
  · unfold rB
    rcases (show j = 0 ∨ j = 1 ∨ j = 2 ∨ j = 3 ∨ j = 4 ∨ j = 5 ∨ j = 6 by omega) with rfl | rfl | rfl | rfl | rfl | rfl | rfl <;> rfl
  · by_cases ho : j < 7 + no
    · obtain ⟨i, rfl⟩ : ∃ i, j = 7 + i := ⟨j - 7, by omega⟩
      rw [rB_op (by omega), rB_op (by omega)]
      exact hO i (by omega)
    · obtain ⟨t, rfl⟩ : ∃ t, j = 7 + no + t := ⟨j - (7 + no), by omega⟩
      rw [rB_pair, rB_pair, hB (2 * t) (by omega)]
      by_cases h2 : 2 * t + 1 < nb
      · rw [if_pos h2, if_pos h2, hB (2 * t + 1) h2]
      · rw [if_neg h2, if_neg h2]
theorem addC_z {w : Int} {no : Nat} {sp wd : Int} {nb : Nat} {x y lr lp lr' lp' : Int} : addC w 0 no sp wd nb x y lr lp = addC w 0 no sp wd nb x y lr' lp' := by
  have e1 : ∀ lr lp : Int, addC w 0 no sp wd nb x y lr lp = if w = 1 ∨ 24 ≤ 0 then -1 else if no = 0 ∨ sp = 0 ∨ wd ≠ (nb : Int) then -2 else if ¬ (0 ≤ x ∧ x ≤ 1 ∧ 0 ≤ y ∧ y ≤ 4095 ∧ y + sp ≤ 4096) then -3 else ((0 : Nat) : Int) := fun lr lp => by
    unfold addC
    rw [if_neg (show ¬ (0 < 0 ∧ (x < lr ∨ (x = lr ∧ y < lp))) from fun q => absurd q.1 (Nat.lt_irrefl 0))]
  exact (e1 lr lp).trans (e1 lr' lp').symm
theorem addC_nn {w : Int} {n no : Nat} {sp wd : Int} {nb : Nat} {x y lr lp : Int} (h : 0 ≤ addC w n no sp wd nb x y lr lp) : ¬ (w = 1 ∨ 24 ≤ n) ∧ ¬ (no = 0 ∨ sp = 0 ∨ wd ≠ (nb : Int)) ∧ (0 ≤ x ∧ x ≤ 1 ∧ 0 ≤ y ∧ y ≤ 4095 ∧ y + sp ≤ 4096) := by
  by_cases h1 : w = 1 ∨ 24 ≤ n
  · rw [addC_1 h1] at h
    omega
  · by_cases h2 : no = 0 ∨ sp = 0 ∨ wd ≠ (nb : Int)
    · rw [addC_2 h1 h2] at h
      omega
    · by_cases h3 : 0 ≤ x ∧ x ≤ 1 ∧ 0 ≤ y ∧ y ≤ 4095 ∧ y + sp ≤ 4096
      · exact ⟨h1, h2, h3⟩
      · rw [addC_3 h1 h2 h3] at h
        omega
theorem sp_eq {O K L : Nat → Int} {n : Nat} (h : ∀ i, i < n → O i = 4 * L i + K i ∧ (0 ≤ K i ∧ K i ≤ 3) ∧ (1 ≤ L i ∧ L i ≤ 63)) : spanN (fun z => O (0 + z)) n = sumK K L 0 2 3 n := by
  induction n with
  | zero => rfl
  | succ n ih =>
    have h1 := h n (by omega)
    have h0 : O (0 + n) = O n := congrArg O (Nat.zero_add n)
    by_cases c : K n = 1
    · rw [spanN_skip (by rw [h0]; omega), sumK_no (by omega)]
      exact ih (fun i hi => h i (by omega))
    · rw [spanN_step (by rw [h0]; omega), sumK_yes (by omega), ih (fun i hi => h i (by omega)), h0]
      omega
theorem wd_eq {O K L : Nat → Int} {n : Nat} (h : ∀ i, i < n → O i = 4 * L i + K i ∧ (0 ≤ K i ∧ K i ≤ 3) ∧ (1 ≤ L i ∧ L i ≤ 63)) : widthN O n = sumK K L 0 1 1 n := by
  induction n with
  | zero => rfl
  | succ n ih =>
    have h1 := h n (by omega)
    by_cases c : K n = 0 ∨ K n = 1
    · rw [widthN_step (by omega), sumK_yes (by omega), ih (fun i hi => h i (by omega))]
      omega
    · rw [widthN_skip (by omega) (by omega), sumK_no (by omega)]
      exact ih (fun i hi => h i (by omega))
section SIM
variable {B : BD} {M : MD}
theorem sim_op (h : Rel B M) {k n r r' : Int} {O2 K2 L2 : Nat → Int} {no2 mo2 : Nat} (hc : ((0 ≤ k ∧ k < 4 ∧ 1 ≤ n ∧ n ≤ 63 ∧ B.no < 3) ∧ r = 1 ∧ O2 = bU B.O B.no (4 * n + k) ∧ no2 = B.no + 1) ∨ (¬ (0 ≤ k ∧ k < 4 ∧ 1 ≤ n ∧ n ≤ 63 ∧ B.no < 3) ∧ r = 0 ∧ O2 = B.O ∧ no2 = B.no))
    (hm : ((0 ≤ k ∧ k < 4 ∧ 1 ≤ n ∧ n ≤ 63 ∧ M.mo < 3) ∧ r' = 1 ∧ K2 = bU M.K M.mo k ∧ L2 = bU M.Ln M.mo n ∧ mo2 = M.mo + 1) ∨ (¬ (0 ≤ k ∧ k < 4 ∧ 1 ≤ n ∧ n ≤ 63 ∧ M.mo < 3) ∧ r' = 0 ∧ K2 = M.K ∧ L2 = M.Ln ∧ mo2 = M.mo)) : r = r' ∧ Rel (BD.mk O2 B.B no2 B.nb B.SB B.sl B.RF B.PO B.EN B.BN B.ST B.CH B.cn B.cc B.DB B.KS B.sz B.bc B.tn B.G B.OF B.nf B.lk) (MD.mk K2 L2 M.Cd M.Rf M.Ps M.En M.Oc M.Ob M.Bc M.Bd M.Bg M.Sm M.Dk M.Fd mo2 M.mb M.mr M.mw M.mt M.mz M.mu M.mf M.ml) := by
  have hno := h.no
  rcases hc with ⟨c1, c2, c3, c4⟩ | ⟨c1, c2, c3, c4⟩ <;> rcases hm with ⟨m1, m2, m3, m4, m5⟩ | ⟨m1, m2, m3, m4, m5⟩
  · subst c3 c4 m3 m4 m5
    refine ⟨by omega, (Rel.mk ?_ ?_ ?_ h.nb h.nb24 h.ba h.cn h.cn24 h.rd h.rr h.rc h.ob h.bd h.en h.sl h.sb (h.dk.imp id (fun w => ⟨w.1, (Wr.mk (w.2).sz (w.2).mz (w.2).bc (w.2).ks (w.2).bg (w.2).dk (w.2).tn (w.2).mu (w.2).db)⟩)) h.nf h.nf24 h.lk h.fw h.fd)⟩
    · show B.no + 1 = M.mo + 1
      omega
    · show M.mo + 1 ≤ 3
      omega
    · intro i hi
      have hi : i < M.mo + 1 := hi
      show bU B.O B.no (4 * n + k) i = 4 * bU M.Ln M.mo n i + bU M.K M.mo k i ∧ (0 ≤ bU M.K M.mo k i ∧ bU M.K M.mo k i ≤ 3) ∧ (1 ≤ bU M.Ln M.mo n i ∧ bU M.Ln M.mo n i ≤ 63)
      by_cases e : i = M.mo
      · subst e
        rw [hno, bU_s, bU_s, bU_s]
        omega
      · rw [hno, bU_n e, bU_n e, bU_n e]
        exact h.op i (by omega)
  · exact absurd c1 (by omega)
  · exact absurd m1 (by omega)
  · subst c3 c4 m3 m4 m5
    exact ⟨by omega, (Rel.mk h.no h.no3 h.op h.nb h.nb24 h.ba h.cn h.cn24 h.rd h.rr h.rc h.ob h.bd h.en h.sl h.sb (h.dk.imp id (fun w => ⟨w.1, (Wr.mk (w.2).sz (w.2).mz (w.2).bc (w.2).ks (w.2).bg (w.2).dk (w.2).tn (w.2).mu (w.2).db)⟩)) h.nf h.nf24 h.lk h.fw h.fd)⟩
theorem sim_base (h : Rel B M) {k r r' : Int} {B2 C2 : Nat → Int} {nb2 mb2 : Nat} (hc : ((0 ≤ k ∧ k ≤ 15 ∧ B.nb < 24) ∧ r = 1 ∧ B2 = bU B.B B.nb k ∧ nb2 = B.nb + 1) ∨ (¬ (0 ≤ k ∧ k ≤ 15 ∧ B.nb < 24) ∧ r = 0 ∧ B2 = B.B ∧ nb2 = B.nb))
    (hm : ((0 ≤ k ∧ k ≤ 15 ∧ M.mb < 24) ∧ r' = 1 ∧ C2 = bU M.Cd M.mb k ∧ mb2 = M.mb + 1) ∨ (¬ (0 ≤ k ∧ k ≤ 15 ∧ M.mb < 24) ∧ r' = 0 ∧ C2 = M.Cd ∧ mb2 = M.mb)) : r = r' ∧ Rel (BD.mk B.O B2 B.no nb2 B.SB B.sl B.RF B.PO B.EN B.BN B.ST B.CH B.cn B.cc B.DB B.KS B.sz B.bc B.tn B.G B.OF B.nf B.lk) (MD.mk M.K M.Ln C2 M.Rf M.Ps M.En M.Oc M.Ob M.Bc M.Bd M.Bg M.Sm M.Dk M.Fd M.mo mb2 M.mr M.mw M.mt M.mz M.mu M.mf M.ml) := by
  have hnb := h.nb
  rcases hc with ⟨c1, c2, c3, c4⟩ | ⟨c1, c2, c3, c4⟩ <;> rcases hm with ⟨m1, m2, m3, m4⟩ | ⟨m1, m2, m3, m4⟩
  · subst c3 c4 m3 m4
    refine ⟨by omega, (Rel.mk h.no h.no3 h.op ?_ ?_ ?_ h.cn h.cn24 h.rd h.rr h.rc h.ob h.bd h.en h.sl h.sb (h.dk.imp id (fun w => ⟨w.1, (Wr.mk (w.2).sz (w.2).mz (w.2).bc (w.2).ks (w.2).bg (w.2).dk (w.2).tn (w.2).mu (w.2).db)⟩)) h.nf h.nf24 h.lk h.fw h.fd)⟩
    · show B.nb + 1 = M.mb + 1
      omega
    · show M.mb + 1 ≤ 24
      omega
    · intro i hi
      have hi : i < M.mb + 1 := hi
      show bU B.B B.nb k i = bU M.Cd M.mb k i ∧ 0 ≤ bU M.Cd M.mb k i ∧ bU M.Cd M.mb k i ≤ 15
      by_cases e : i = M.mb
      · subst e
        rw [hnb, bU_s, bU_s]
        omega
      · rw [hnb, bU_n e, bU_n e]
        exact h.ba i (by omega)
  · exact absurd c1 (by omega)
  · exact absurd m1 (by omega)
  · subst c3 c4 m3 m4
    exact ⟨by omega, (Rel.mk h.no h.no3 h.op h.nb h.nb24 h.ba h.cn h.cn24 h.rd h.rr h.rc h.ob h.bd h.en h.sl h.sb (h.dk.imp id (fun w => ⟨w.1, (Wr.mk (w.2).sz (w.2).mz (w.2).bc (w.2).ks (w.2).bg (w.2).dk (w.2).tn (w.2).mu (w.2).db)⟩)) h.nf h.nf24 h.lk h.fw h.fd)⟩
theorem sim_scrap (h : Rel B M) : Rel (BD.mk B.O B.B 0 0 B.SB B.sl B.RF B.PO B.EN B.BN B.ST B.CH B.cn B.cc B.DB B.KS B.sz B.bc B.tn B.G B.OF B.nf B.lk) (MD.mk M.K M.Ln M.Cd M.Rf M.Ps M.En M.Oc M.Ob M.Bc M.Bd M.Bg M.Sm M.Dk M.Fd 0 0 M.mr M.mw M.mt M.mz M.mu M.mf M.ml) :=
  (Rel.mk rfl (Nat.zero_le _) (fun i hi => absurd hi (Nat.not_lt_zero i)) rfl (Nat.zero_le _) (fun i hi => absurd hi (Nat.not_lt_zero i)) h.cn h.cn24 h.rd h.rr h.rc h.ob h.bd h.en h.sl h.sb (h.dk.imp id (fun w => ⟨w.1, (Wr.mk (w.2).sz (w.2).mz (w.2).bc (w.2).ks (w.2).bg (w.2).dk (w.2).tn (w.2).mu (w.2).db)⟩)) h.nf h.nf24 h.lk h.fw h.fd)
theorem Rel.zero (B : BD) (M : MD) : Rel (BD.mk B.O B.B 0 0 B.SB 0 B.RF B.PO B.EN B.BN B.ST B.CH 0 0 B.DB B.KS 0 0 (-1) B.G B.OF 0 0) (MD.mk M.K M.Ln M.Cd M.Rf M.Ps M.En M.Oc M.Ob M.Bc M.Bd M.Bg M.Sm M.Dk M.Fd 0 0 0 0 0 0 (-1) 0 0) :=
  (Rel.mk rfl (Nat.zero_le _) (fun i hi => absurd hi (Nat.not_lt_zero i)) rfl (Nat.zero_le _) (fun i hi => absurd hi (Nat.not_lt_zero i)) rfl (Nat.zero_le _) (fun i hi => absurd hi (Nat.not_lt_zero i)) (fun i hi => absurd hi (Nat.not_lt_zero i)) (fun i hi => absurd hi (Nat.not_lt_zero i)) (fun i hi => absurd hi (Nat.not_lt_zero i)) (fun i hi => absurd hi (Nat.not_lt_zero i)) (fun i hi => absurd hi (Nat.not_lt_zero i)) rfl (fun i hi => absurd hi (Nat.not_lt_zero i)) (Or.inl ⟨rfl, rfl, rfl, rfl, rfl, rfl, rfl⟩) rfl (Nat.zero_le _) rfl (Or.inl rfl) (fun i hi => absurd hi (Nat.not_lt_zero i)))
theorem Rel.add_eq (h : Rel B M) {x y : Int} : addC M.mw B.cn B.no (spanN (fun z => B.O (0 + z)) B.no) (widthN B.O B.no) B.nb x y (B.RF (B.cn - 1)) (B.PO (B.cn - 1)) = addC M.mw M.mr M.mo (sumK M.K M.Ln 0 2 3 M.mo) (sumK M.K M.Ln 0 1 1 M.mo) M.mb x y (M.Rf (M.mr - 1)) (M.Ps (M.mr - 1)) := by
  rw [h.cn, h.no, h.nb, sp_eq h.op, wd_eq h.op]
  by_cases e : M.mr = 0
  · rw [e]
    exact addC_z
  · have h1 := h.rd (M.mr - 1) (by omega)
    rw [h1.1, h1.2.1]
theorem sim_add (h : Rel B M) {x y r r' : Int} {SB2 RF2 PO2 EN2 BN2 ST2 Rf2 Ps2 En2 Oc2 Ob2 Bc2 Bd2 : Nat → Int} {sl2 cn2 no2 nb2 mr2 mo2 mb2 : Nat}
    (hc : r = addC M.mw B.cn B.no (spanN (fun z => B.O (0 + z)) B.no) (widthN B.O B.no) B.nb x y (B.RF (B.cn - 1)) (B.PO (B.cn - 1)) ∧ (r < 0 → SB2 = B.SB ∧ RF2 = B.RF ∧ PO2 = B.PO ∧ EN2 = B.EN ∧ BN2 = B.BN ∧ ST2 = B.ST ∧ sl2 = B.sl ∧ cn2 = B.cn ∧ no2 = B.no ∧ nb2 = B.nb) ∧ (0 ≤ r → RF2 = bU B.RF B.cn x ∧ PO2 = bU B.PO B.cn y ∧ EN2 = bU B.EN B.cn (y + spanN (fun z => B.O (0 + z)) B.no) ∧ BN2 = bU B.BN B.cn (binI y (y + spanN (fun z => B.O (0 + z)) B.no)) ∧ ST2 = bU B.ST B.cn (B.sl : Int) ∧ (∀ j, j < B.sl → SB2 j = B.SB j) ∧ (∀ j, j < rL B.no B.nb → SB2 (B.sl + j) = rB x y (binI y (y + spanN (fun z => B.O (0 + z)) B.no)) B.no B.nb B.O B.B j) ∧ sl2 = B.sl + (7 + B.no + (B.nb + 1) / 2) ∧ cn2 = B.cn + 1 ∧ no2 = 0 ∧ nb2 = 0))
    (hm : r' = addC M.mw M.mr M.mo (sumK M.K M.Ln 0 2 3 M.mo) (sumK M.K M.Ln 0 1 1 M.mo) M.mb x y (M.Rf (M.mr - 1)) (M.Ps (M.mr - 1)) ∧ (r' < 0 → Rf2 = M.Rf ∧ Ps2 = M.Ps ∧ En2 = M.En ∧ Oc2 = M.Oc ∧ Ob2 = M.Ob ∧ Bc2 = M.Bc ∧ Bd2 = M.Bd ∧ mr2 = M.mr ∧ mo2 = M.mo ∧ mb2 = M.mb) ∧ (0 ≤ r' → Rf2 = bU M.Rf M.mr x ∧ Ps2 = bU M.Ps M.mr y ∧ En2 = bU M.En M.mr (y + sumK M.K M.Ln 0 2 3 M.mo) ∧ Oc2 = bU M.Oc M.mr (M.mo : Int) ∧ Bc2 = bU M.Bc M.mr (M.mb : Int) ∧ (∀ j, j < 3 * M.mr → Ob2 j = M.Ob j) ∧ (∀ j, j < M.mo → Ob2 (3 * M.mr + j) = 4 * M.Ln j + M.K j) ∧ (∀ j, j < 24 * M.mr → Bd2 j = M.Bd j) ∧ (∀ j, j < M.mb → Bd2 (24 * M.mr + j) = M.Cd j) ∧ mr2 = M.mr + 1 ∧ mo2 = 0 ∧ mb2 = 0)) :
    r = r' ∧ Rel (BD.mk B.O B.B no2 nb2 SB2 sl2 RF2 PO2 EN2 BN2 ST2 B.CH cn2 B.cc B.DB B.KS B.sz B.bc B.tn B.G B.OF B.nf B.lk) (MD.mk M.K M.Ln M.Cd Rf2 Ps2 En2 Oc2 Ob2 Bc2 Bd2 M.Bg M.Sm M.Dk M.Fd mo2 mb2 mr2 M.mw M.mt M.mz M.mu M.mf M.ml) := by
  obtain ⟨c1, c2, c3⟩ := hc
  obtain ⟨m1, m2, m3⟩ := hm
  have e : r = r' := by rw [c1, m1, h.add_eq]
  refine ⟨e, ?_⟩
  by_cases hr : r < 0
  · obtain ⟨rfl, rfl, rfl, rfl, rfl, rfl, rfl, rfl, rfl, rfl⟩ := c2 hr
    obtain ⟨rfl, rfl, rfl, rfl, rfl, rfl, rfl, rfl, rfl, rfl⟩ := m2 (by omega)
    exact (Rel.mk h.no h.no3 h.op h.nb h.nb24 h.ba h.cn h.cn24 h.rd h.rr h.rc h.ob h.bd h.en h.sl h.sb (h.dk.imp id (fun w => ⟨w.1, (Wr.mk (w.2).sz (w.2).mz (w.2).bc (w.2).ks (w.2).bg (w.2).dk (w.2).tn (w.2).mu (w.2).db)⟩)) h.nf h.nf24 h.lk h.fw h.fd)
  · obtain ⟨rfl, rfl, rfl, rfl, rfl, hS0, hS1, rfl, rfl, rfl, rfl⟩ := c3 (by omega)
    obtain ⟨rfl, rfl, rfl, rfl, rfl, hO0, hO1, hB0, hB1, rfl, rfl, rfl⟩ := m3 (by omega)
    have hnn := addC_nn (by rw [← m1]; omega : 0 ≤ addC M.mw M.mr M.mo (sumK M.K M.Ln 0 2 3 M.mo) (sumK M.K M.Ln 0 1 1 M.mo) M.mb x y (M.Rf (M.mr - 1)) (M.Ps (M.mr - 1)))
    obtain ⟨n1, n2, n3⟩ := hnn
    have hsp : spanN (fun z => B.O (0 + z)) B.no = sumK M.K M.Ln 0 2 3 M.mo := by
      rw [h.no]
      exact sp_eq h.op
    have hsr := sumK_rg (K := M.K) (L := M.Ln) (x := 0) (y := 2) (z := 3) (n := M.mo) (fun t ht => (h.op t ht).2.2)
    have hcn := h.cn
    have hno := h.no
    have hnb := h.nb
    have hno3 := h.no3
    have hnb24 := h.nb24
    rw [hsp] at hS1 ⊢
    have hsl := h.sl
    -- the reads before keep their counts
    have hOc : ∀ i, i < M.mr → bU M.Oc M.mr (M.mo : Int) i = M.Oc i := fun i hi => bU_n (by omega)
    have hBc : ∀ i, i < M.mr → bU M.Bc M.mr (M.mb : Int) i = M.Bc i := fun i hi => bU_n (by omega)
    have hst : ∀ i, i ≤ M.mr → stN (bU M.Oc M.mr (M.mo : Int)) (bU M.Bc M.mr (M.mb : Int)) i = stN M.Oc M.Bc i := fun i hi => stN_congr (fun z hz => ⟨hOc z (by omega), hBc z (by omega)⟩)
    have hrl : ∀ i, i < M.mr → rLI (bU M.Oc M.mr (M.mo : Int)) (bU M.Bc M.mr (M.mb : Int)) i = rLI M.Oc M.Bc i := fun i hi => by
      unfold rLI
      rw [hOc i hi, hBc i hi]
    have hrn : rLI (bU M.Oc M.mr (M.mo : Int)) (bU M.Bc M.mr (M.mb : Int)) M.mr = 7 + M.mo + (M.mb + 1) / 2 := by
      unfold rLI
      rw [bU_s, bU_s, Int.toNat_natCast, Int.toNat_natCast]
    have hrow : ∀ i, i < M.mr → ∀ j, j < rLI M.Oc M.Bc i → rowN (bU M.Rf M.mr x) (bU M.Ps M.mr y) (bU M.En M.mr (y + sumK M.K M.Ln 0 2 3 M.mo)) (bU M.Oc M.mr (M.mo : Int)) Ob2 (bU M.Bc M.mr (M.mb : Int)) Bd2 i j = rowN M.Rf M.Ps M.En M.Oc M.Ob M.Bc M.Bd i j := fun i hi j hj => by
      have h1 := h.rc i hi
      unfold rowN
      rw [hOc i hi, hBc i hi, bU_n (show i ≠ M.mr by omega), bU_n (show i ≠ M.mr by omega), bU_n (show i ≠ M.mr by omega)]
      exact rB_congr (fun z hz => hO0 _ (by omega)) (fun z hz => hB0 _ (by omega)) hj
    refine (Rel.mk rfl (Nat.zero_le _) (fun i hi => absurd hi (Nat.not_lt_zero i)) rfl (Nat.zero_le _) (fun i hi => absurd hi (Nat.not_lt_zero i)) ?_ ?_ ?_ ?_ ?_ ?_ ?_ ?_ ?_ ?_ ?_ h.nf h.nf24 h.lk h.fw ?_)
    · show B.cn + 1 = M.mr + 1
      omega
    · show M.mr + 1 ≤ 24
      omega
    · intro i hi
      have hi : i < M.mr + 1 := hi
      show bU B.RF B.cn x i = bU M.Rf M.mr x i ∧ bU B.PO B.cn y i = bU M.Ps M.mr y i ∧ bU B.EN B.cn (y + sumK M.K M.Ln 0 2 3 M.mo) i = bU M.En M.mr (y + sumK M.K M.Ln 0 2 3 M.mo) i ∧ bU B.BN B.cn (binI y (y + sumK M.K M.Ln 0 2 3 M.mo)) i = binI (bU M.Ps M.mr y i) (bU M.En M.mr (y + sumK M.K M.Ln 0 2 3 M.mo) i) ∧ bU B.ST B.cn (B.sl : Int) i = (stN (bU M.Oc M.mr (M.mo : Int)) (bU M.Bc M.mr (M.mb : Int)) i : Int)
      rw [hst i (by omega), hcn]
      by_cases q : i = M.mr
      · subst q
        rw [bU_s, bU_s, bU_s, bU_s, bU_s, bU_s, bU_s, bU_s, hsl]
        exact ⟨rfl, rfl, rfl, rfl, rfl⟩
      · rw [bU_n q, bU_n q, bU_n q, bU_n q, bU_n q, bU_n q, bU_n q, bU_n q]
        exact h.rd i (by omega)
    · intro i hi
      have hi : i < M.mr + 1 := hi
      show (0 ≤ bU M.Rf M.mr x i ∧ bU M.Rf M.mr x i ≤ 1) ∧ (0 ≤ bU M.Ps M.mr y i ∧ bU M.Ps M.mr y i < bU M.En M.mr (y + sumK M.K M.Ln 0 2 3 M.mo) i ∧ bU M.En M.mr (y + sumK M.K M.Ln 0 2 3 M.mo) i ≤ 4096)
      by_cases q : i = M.mr
      · subst q
        rw [bU_s, bU_s, bU_s]
        omega
      · rw [bU_n q, bU_n q, bU_n q]
        exact h.rr i (by omega)
    · intro i hi
      have hi : i < M.mr + 1 := hi
      show (0 ≤ bU M.Oc M.mr (M.mo : Int) i ∧ bU M.Oc M.mr (M.mo : Int) i ≤ 3) ∧ (0 ≤ bU M.Bc M.mr (M.mb : Int) i ∧ bU M.Bc M.mr (M.mb : Int) i ≤ 24)
      by_cases q : i = M.mr
      · subst q
        rw [bU_s, bU_s]
        omega
      · rw [bU_n q, bU_n q]
        exact h.rc i (by omega)
    · intro i hi j hj
      have hi : i < M.mr + 1 := hi
      have hj : j < (bU M.Oc M.mr (M.mo : Int) i).toNat := hj
      show 0 ≤ Ob2 (3 * i + j) ∧ Ob2 (3 * i + j) ≤ 255
      by_cases q : i = M.mr
      · subst q
        rw [bU_s, Int.toNat_natCast] at hj
        rw [hO1 j hj]
        have h1 := h.op j hj
        omega
      · rw [bU_n q] at hj
        have h1 := h.rc i (by omega)
        rw [hO0 _ (by omega)]
        exact h.ob i (by omega) j hj
    · intro i hi j hj
      have hi : i < M.mr + 1 := hi
      have hj : j < (bU M.Bc M.mr (M.mb : Int) i).toNat := hj
      show 0 ≤ Bd2 (24 * i + j) ∧ Bd2 (24 * i + j) ≤ 15
      by_cases q : i = M.mr
      · subst q
        rw [bU_s, Int.toNat_natCast] at hj
        rw [hB1 j hj]
        exact (h.ba j hj).2
      · rw [bU_n q] at hj
        have h1 := h.rc i (by omega)
        rw [hB0 _ (by omega)]
        exact h.bd i (by omega) j hj
    · intro i hi
      have hi : i < M.mr + 1 := hi
      show bU M.En M.mr (y + sumK M.K M.Ln 0 2 3 M.mo) i = bU M.Ps M.mr y i + spanN (fun z => Ob2 (3 * i + z)) (bU M.Oc M.mr (M.mo : Int) i).toNat
      by_cases q : i = M.mr
      · subst q
        rw [bU_s, bU_s, bU_s, Int.toNat_natCast, ← sp_eq h.op]
        refine congrArg (fun v => y + v) (spanN_congr (fun z hz => ?_))
        show B.O (0 + z) = Ob2 (3 * M.mr + z)
        rw [hO1 z hz, Nat.zero_add]
        exact (h.op z hz).1
      · rw [bU_n q, bU_n q, bU_n q, h.en i (by omega)]
        have h1 := h.rc i (by omega)
        refine congrArg (fun v => M.Ps i + v) (spanN_congr (fun z hz => ?_))
        exact (hO0 _ (by omega)).symm
    · show B.sl + (7 + B.no + (B.nb + 1) / 2) = stN (bU M.Oc M.mr (M.mo : Int)) (bU M.Bc M.mr (M.mb : Int)) M.mr + rLI (bU M.Oc M.mr (M.mo : Int)) (bU M.Bc M.mr (M.mb : Int)) M.mr
      rw [hst M.mr (Nat.le_refl _), hrn, hsl, hno, hnb]
    · intro i hi j hj
      have hi : i < M.mr + 1 := hi
      have hj : j < rLI (bU M.Oc M.mr (M.mo : Int)) (bU M.Bc M.mr (M.mb : Int)) i := hj
      show SB2 (stN (bU M.Oc M.mr (M.mo : Int)) (bU M.Bc M.mr (M.mb : Int)) i + j) = rowN (bU M.Rf M.mr x) (bU M.Ps M.mr y) (bU M.En M.mr (y + sumK M.K M.Ln 0 2 3 M.mo)) (bU M.Oc M.mr (M.mo : Int)) Ob2 (bU M.Bc M.mr (M.mb : Int)) Bd2 i j
      rw [hst i (by omega)]
      by_cases q : i = M.mr
      · subst q
        rw [hrn] at hj
        rw [← hsl, hS1 j (by show j < 7 + B.no + (B.nb + 1) / 2; omega)]
        unfold rowN
        rw [bU_s, bU_s, bU_s, bU_s, bU_s, Int.toNat_natCast, Int.toNat_natCast, hno, hnb]
        refine rB_congr (fun z hz => ?_) (fun z hz => ?_) hj
        · rw [hO1 z hz]
          exact (h.op z hz).1
        · rw [hB1 z hz]
          exact (h.ba z hz).1
      · have hi2 : i < M.mr := by omega
        rw [hrl i hi2] at hj
        rw [hrow i hi2 j hj]
        have h1 := stN_mono (Oc := M.Oc) (Bc := M.Bc) (show i + 1 ≤ M.mr by omega)
        have h2 : stN M.Oc M.Bc (i + 1) = stN M.Oc M.Bc i + rLI M.Oc M.Bc i := rfl
        rw [hS0 _ (by omega)]
        exact h.sb i hi2 j hj
    · rcases h.dk with w | w
      · exact Or.inl w
      · exact absurd (Or.inl w.1) n1
    · intro q hq
      have hq : q < M.mf := hq
      rcases h.fw with w | w
      · omega
      · exact absurd (Or.inl w) n1
theorem fin_uni {D S S' : Nat → Int} {T f' : Nat} (hb : ∀ z, z < (T + 39) / 40 → ∀ t, t < (min 40 (T - 40 * z)) + 11 → D (51 * z + t) = blkB S (40 * z) (min 40 (T - 40 * z)) t) (he : ∀ t, t < 11 → D (T + 11 * ((T + 39) / 40) + t) = blkB S' f' 0 t) : ∀ z, z ≤ (T + 39) / 40 → ∀ t, t < 7 + lnB T z + 4 → D (stB T z + t) = blkB S (min (40 * z) T) (lnB T z) t := by
  intro z hz t ht
  have ht : t < 7 + min 40 (T - 40 * z) + 4 := ht
  show D (min (40 * z) T + 11 * z + t) = blkB S (min (40 * z) T) (min 40 (T - 40 * z)) t
  by_cases q : z = (T + 39) / 40
  · subst q
    rw [show min (40 * ((T + 39) / 40)) T = T by omega, show min 40 (T - 40 * ((T + 39) / 40)) = 0 by omega, he t (by omega)]
    exact blkB_0
  · rw [show min (40 * z) T = 40 * z by omega, show 40 * z + 11 * z + t = 51 * z + t by omega]
    exact hb z (by omega) t (by omega)
theorem sim_finish (h : Rel B M) (hw : M.mw = 0) {r r' : Int} {D3 K3 S4 D4 B4 : Nat → Int}
    (hc : r = ((B.sl + 11 * ((B.sl + 39) / 40) + 11 : Nat) : Int) ∧ (∀ z, z < (B.sl + 39) / 40 → ∀ t, t < (min 40 (B.sl - 40 * z)) + 11 → D3 (51 * z + t) = blkB B.SB (40 * z) (min 40 (B.sl - 40 * z)) t) ∧ (∀ t, t < 11 → D3 (B.sl + 11 * ((B.sl + 39) / 40) + t) = blkB B.SB B.sl 0 t) ∧ (∀ z, z < (B.sl + 39) / 40 → K3 z = ((51 * z : Nat) : Int)) ∧ K3 ((B.sl + 39) / 40) = ((B.sl + 11 * ((B.sl + 39) / 40) : Nat) : Int) ∧ (∀ j, j < B.sl + 11 * ((B.sl + 39) / 40) + 11 → 0 ≤ D3 j ∧ D3 j ≤ 255))
    (hm : r' = ((stN M.Oc M.Bc M.mr + 11 * ((stN M.Oc M.Bc M.mr + 39) / 40) + 11 : Nat) : Int) ∧ (∀ z, z < M.mr → B4 z = (stN M.Oc M.Bc z : Int) ∧ B4 (z + 1) = (stN M.Oc M.Bc (z + 1) : Int)) ∧ (∀ z, z < M.mr → ∀ j, j < rLI M.Oc M.Bc z → S4 (stN M.Oc M.Bc z + j) = rowN M.Rf M.Ps M.En M.Oc M.Ob M.Bc M.Bd z j) ∧ (∀ z, z < (stN M.Oc M.Bc M.mr + 39) / 40 → ∀ t, t < (min 40 (stN M.Oc M.Bc M.mr - 40 * z)) + 11 → D4 (51 * z + t) = blkB S4 (40 * z) (min 40 (stN M.Oc M.Bc M.mr - 40 * z)) t) ∧ (∀ t, t < 11 → D4 (stN M.Oc M.Bc M.mr + 11 * ((stN M.Oc M.Bc M.mr + 39) / 40) + t) = blkB S4 0 0 t)) :
    r = r' ∧ Rel (BD.mk B.O B.B B.no B.nb B.SB B.sl B.RF B.PO B.EN B.BN B.ST B.CH B.cn B.cc D3 K3 (B.sl + 11 * ((B.sl + 39) / 40) + 11) ((B.sl + 39) / 40 + 1) B.tn B.G B.OF B.nf B.lk) (MD.mk M.K M.Ln M.Cd M.Rf M.Ps M.En M.Oc M.Ob M.Bc M.Bd B4 S4 D4 M.Fd M.mo M.mb M.mr 1 (stN M.Oc M.Bc M.mr) (stN M.Oc M.Bc M.mr + 11 * ((stN M.Oc M.Bc M.mr + 39) / 40) + 11) M.mu M.mf M.ml) := by
  have hsl := h.sl
  rw [hsl] at hc ⊢
  obtain ⟨c1, c2, c3, c4, c5, c6⟩ := hc
  obtain ⟨m1, m2, m3, m4, m5⟩ := hm
  have hSS : ∀ j, j < stN M.Oc M.Bc M.mr → S4 j = B.SB j := fun j hj => by
    obtain ⟨i, k, h1, h2, rfl⟩ := st_in hj
    rw [m3 i h1 k h2, h.sb i h1 k h2]
  have uc := fin_uni c2 c3
  have um0 := fin_uni m4 m5
  have um : ∀ z, z ≤ (stN M.Oc M.Bc M.mr + 39) / 40 → ∀ t, t < 7 + lnB (stN M.Oc M.Bc M.mr) z + 4 → D4 (stB (stN M.Oc M.Bc M.mr) z + t) = blkB B.SB (min (40 * z) (stN M.Oc M.Bc M.mr)) (lnB (stN M.Oc M.Bc M.mr) z) t := fun z hz t ht => by
    rw [um0 z hz t ht]
    exact blkB_congr (fun j hj => hSS _ (by have hj : j < min 40 (stN M.Oc M.Bc M.mr - 40 * z) := hj; omega)) ht
  have hun : M.mu = -1 ∧ B.tn = -1 := by
    rcases h.dk with w | w
    · exact ⟨w.2.2.2.2.2.2, w.2.2.2.2.2.1⟩
    · exact absurd w.1 (by omega)
  refine ⟨by rw [c1, m1], (Rel.mk h.no h.no3 h.op h.nb h.nb24 h.ba h.cn h.cn24 h.rd h.rr h.rc h.ob h.bd h.en rfl h.sb (Or.inr ⟨rfl, (Wr.mk rfl rfl rfl ?_ m2 um ?_ ?_ ?_)⟩) h.nf h.nf24 h.lk (Or.inr rfl) h.fd)⟩
  · intro z hz
    have hz : z ≤ (stN M.Oc M.Bc M.mr + 39) / 40 := hz
    show K3 z = ((min (40 * z) (stN M.Oc M.Bc M.mr) + 11 * z : Nat) : Int)
    by_cases q : z = (stN M.Oc M.Bc M.mr + 39) / 40
    · subst q
      rw [c5]
      omega
    · rw [c4 z (by omega)]
      omega
  · show B.tn = M.mu
    omega
  · show -1 ≤ M.mu ∧ M.mu < 8 * ((stN M.Oc M.Bc M.mr + 11 * ((stN M.Oc M.Bc M.mr + 39) / 40) + 11 : Nat) : Int)
    omega
  · intro j hj
    have hj : j < stN M.Oc M.Bc M.mr + 11 * ((stN M.Oc M.Bc M.mr + 39) / 40) + 11 := hj
    show D3 j = byN D4 M.mu (j : Int)
    rw [byN_no (by omega), Int.toNat_natCast]
    obtain ⟨z, h1, h2, h3⟩ := blk_of hj
    have e1 := uc z h1 (j - stB (stN M.Oc M.Bc M.mr) z) (by omega)
    have e2 := um z h1 (j - stB (stN M.Oc M.Bc M.mr) z) (by omega)
    rw [show stB (stN M.Oc M.Bc M.mr) z + (j - stB (stN M.Oc M.Bc M.mr) z) = j by omega] at e1 e2
    rw [e1, e2]
theorem sim_turn (h : Rel B M) {k b r r' : Int} {DB2 : Nat → Int} {tn2 mu2 : Int} (hc : ((0 ≤ k ∧ k < (B.sz : Int) ∧ 0 ≤ b ∧ b ≤ 7 ∧ (B.tn = -1 ∨ B.tn = 8 * k + b)) ∧ r = 1 ∧ DB2 = bU B.DB k.toNat (((B.DB k.toNat).toNat ^^^ 2 ^ b.toNat : Nat) : Int) ∧ tn2 = (if B.tn = -1 then 8 * k + b else -1)) ∨ (¬ (0 ≤ k ∧ k < (B.sz : Int) ∧ 0 ≤ b ∧ b ≤ 7 ∧ (B.tn = -1 ∨ B.tn = 8 * k + b)) ∧ r = 0 ∧ DB2 = B.DB ∧ tn2 = B.tn))
    (hm : ((0 ≤ k ∧ k < (M.mz : Int) ∧ 0 ≤ b ∧ b ≤ 7 ∧ (M.mu = -1 ∨ M.mu = 8 * k + b)) ∧ r' = 1 ∧ mu2 = (if M.mu = -1 then 8 * k + b else -1)) ∨ (¬ (0 ≤ k ∧ k < (M.mz : Int) ∧ 0 ≤ b ∧ b ≤ 7 ∧ (M.mu = -1 ∨ M.mu = 8 * k + b)) ∧ r' = 0 ∧ mu2 = M.mu)) : r = r' ∧ Rel (BD.mk B.O B.B B.no B.nb B.SB B.sl B.RF B.PO B.EN B.BN B.ST B.CH B.cn B.cc DB2 B.KS B.sz B.bc tn2 B.G B.OF B.nf B.lk) (MD.mk M.K M.Ln M.Cd M.Rf M.Ps M.En M.Oc M.Ob M.Bc M.Bd M.Bg M.Sm M.Dk M.Fd M.mo M.mb M.mr M.mw M.mt M.mz mu2 M.mf M.ml) := by
  have hst : B.sz = M.mz ∧ B.tn = M.mu := by
    rcases h.dk with w | ⟨_, w⟩
    · omega
    · exact ⟨w.sz, w.tn⟩
  rcases hc with ⟨c1, c2, c3, c4⟩ | ⟨c1, c2, c3, c4⟩ <;> rcases hm with ⟨m1, m2, m3⟩ | ⟨m1, m2, m3⟩
  · subst c3 c4 m3
    rcases h.dk with w | ⟨w1, w⟩
    · exact absurd c1 (by omega)
    · have hDk := h.Dkr w (show k.toNat < M.mz by omega)
      refine ⟨by omega, (Rel.mk h.no h.no3 h.op h.nb h.nb24 h.ba h.cn h.cn24 h.rd h.rr h.rc h.ob h.bd h.en h.sl h.sb (Or.inr ⟨w1, (Wr.mk w.sz w.mz w.bc w.ks w.bg w.dk ?_ ?_ ?_)⟩) h.nf h.nf24 h.lk h.fw h.fd)⟩
      · show (if B.tn = -1 then 8 * k + b else -1) = (if M.mu = -1 then 8 * k + b else -1)
        rw [hst.2]
      · show -1 ≤ (if M.mu = -1 then 8 * k + b else -1) ∧ (if M.mu = -1 then 8 * k + b else -1) < 8 * (M.mz : Int)
        split <;> omega
      · intro j hj
        have hj : j < M.mz := hj
        show bU B.DB k.toNat (((B.DB k.toNat).toNat ^^^ 2 ^ b.toNat : Nat) : Int) j = byN M.Dk (if M.mu = -1 then 8 * k + b else -1) (j : Int)
        have hkc : (k.toNat : Int) = k := by omega
        have hd := w.db k.toNat (by omega)
        by_cases q : j = k.toNat
        · subst q
          rw [bU_s]
          by_cases u : M.mu = -1
          · rw [if_pos u, byN_yes ⟨by omega, by omega⟩, hd, byN_no (by omega), Int.toNat_natCast, show (8 * k + b) % 8 = b by omega]
            rfl
          · rw [if_neg u, byN_no (by omega), Int.toNat_natCast, hd, byN_yes ⟨by omega, by omega⟩, Int.toNat_natCast, show M.mu % 8 = b by omega, Int.toNat_natCast]
            show ((((M.Dk k.toNat).toNat ^^^ 2 ^ b.toNat) ^^^ 2 ^ b.toNat : Nat) : Int) = M.Dk k.toNat
            rw [Nat.xor_assoc, Nat.xor_self, Nat.xor_zero]
            omega
        · rw [bU_n q, w.db j hj]
          by_cases u : M.mu = -1
          · rw [if_pos u, byN_no (by omega), byN_no (by omega)]
          · rw [if_neg u, byN_no (by omega), byN_no (by omega)]
  · exact absurd c1 (by rw [hst.1, hst.2]; exact m1)
  · exact absurd m1 (by rw [← hst.1, ← hst.2]; exact c1)
  · subst c3 c4 m3
    exact ⟨by omega, (Rel.mk h.no h.no3 h.op h.nb h.nb24 h.ba h.cn h.cn24 h.rd h.rr h.rc h.ob h.bd h.en h.sl h.sb (h.dk.imp id (fun w => ⟨w.1, (Wr.mk (w.2).sz (w.2).mz (w.2).bc (w.2).ks (w.2).bg (w.2).dk (w.2).tn (w.2).mu (w.2).db)⟩)) h.nf h.nf24 h.lk h.fw h.fd)⟩
theorem sim_byteAt (h : Rel B M) {k r r' : Int} (hc : (0 ≤ k ∧ k < (B.sz : Int) ∧ r = B.DB k.toNat) ∨ (¬ (0 ≤ k ∧ k < (B.sz : Int)) ∧ r = -1)) (hm : (0 ≤ k ∧ k < (M.mz : Int) ∧ r' = byN M.Dk M.mu k) ∨ (¬ (0 ≤ k ∧ k < (M.mz : Int)) ∧ r' = -1)) : r = r' := by
  rcases h.dk with w | ⟨_, w⟩
  · omega
  · have hs := w.sz
    rcases hc with c | c <;> rcases hm with m | m
    · rw [c.2.2, m.2.2, w.db k.toNat (by omega), show (k.toNat : Int) = k by omega]
    · omega
    · omega
    · omega
theorem sim_check (h : Rel B M) {r r' : Int} (hc : (B.sz = 0 ∧ r = -1) ∨ (0 < B.sz ∧ (∀ z : Nat, 0 ≤ z → (z : Int) ≤ (B.bc : Int) - 1 → sndN B.DB B.sz (B.KS z).toNat) ∧ r = (B.cn : Int)) ∨ (0 < B.sz ∧ ¬ (∀ z : Nat, 0 ≤ z → (z : Int) ≤ (B.bc : Int) - 1 → sndN B.DB B.sz (B.KS z).toNat) ∧ r = -2))
    (hm : (M.mw = 0 ∧ r' = -1) ∨ (M.mw = 1 ∧ 0 ≤ M.mu ∧ r' = -2) ∨ (M.mw = 1 ∧ M.mu < 0 ∧ r' = (M.mr : Int))) : r = r' := by
  rcases h.dk with w | ⟨w1, w⟩
  · rcases hc with c | c | c
    · rcases hm with m | m | m
      · omega
      · omega
      · omega
    · have := c.1
      omega
    · have := c.1
      omega
  · have hs := w.sz
    have hz := w.mz
    have hb := w.bc
    have hcn := h.cn
    have hmu := w.mu
    rcases hc with c | c | c
    · omega
    · have hneg : M.mu < 0 := by
        apply Int.not_le.mp
        intro q
        obtain ⟨z, z1, z2, z3⟩ := blk_of (T := stN M.Oc M.Bc M.mr) (j := (M.mu / 8).toNat) (by omega)
        exact (h.snd w z1).mp (c.2.1 z (Nat.zero_le _) (by omega)) ⟨q, by omega, by omega⟩
      rcases hm with m | m | m
      · omega
      · omega
      · omega
    · have hpos : 0 ≤ M.mu := by
        apply Int.not_lt.mp
        intro q
        exact c.2.1 (fun z _ hz2 => (h.snd w (by omega)).mpr (fun q2 => by have := q2.1; omega))
      rcases hm with m | m | m
      · omega
      · have := c.2.2
        omega
      · omega
theorem sim_looked (h : Rel B M) {r r' : Int} (hc : r = (B.lk : Int)) (hm : r' = (M.ml : Int)) : r = r' := by
  rw [hc, hm, h.lk]
/-- what the rows of the finding tell -/
theorem Rel.Gr (h : Rel B M) {q : Nat} (hq : q < M.mf) {t : Nat} (ht : t < 7 + (M.Oc (M.Fd q).toNat).toNat + ((M.Bc (M.Fd q).toNat).toNat + 1) / 2) : B.G q t = rB (M.Rf (M.Fd q).toNat) (M.Ps (M.Fd q).toNat) (binI (M.Ps (M.Fd q).toNat) (M.En (M.Fd q).toNat)) (M.Oc (M.Fd q).toNat).toNat (M.Bc (M.Fd q).toNat).toNat (fun z => M.Ob (3 * (M.Fd q).toNat + z)) (fun z => M.Bd (24 * (M.Fd q).toNat + z)) t := (h.fd q hq).2.2 t ht
theorem Rel.G5 (h : Rel B M) {q : Nat} (hq : q < M.mf) : B.G q 5 = M.Oc (M.Fd q).toNat := by
  have h1 := h.rc (M.Fd q).toNat (by have := (h.fd q hq).1; omega)
  rw [h.Gr hq (by omega)]
  show ((M.Oc (M.Fd q).toNat).toNat : Int) = _
  omega
theorem Rel.G6 (h : Rel B M) {q : Nat} (hq : q < M.mf) : B.G q 6 = M.Bc (M.Fd q).toNat := by
  have h1 := h.rc (M.Fd q).toNat (by have := (h.fd q hq).1; omega)
  rw [h.Gr hq (by omega)]
  show ((M.Bc (M.Fd q).toNat).toNat : Int) = _
  omega
theorem Rel.Gc (h : Rel B M) : ∀ q, q < B.nf → 0 ≤ B.G q 5 ∧ B.G q 5 ≤ 3 ∧ 0 ≤ B.G q 6 ∧ B.G q 6 ≤ 24 := fun q hq => by
  rw [h.nf] at hq
  rw [h.G5 hq, h.G6 hq]
  have h1 := h.rc (M.Fd q).toNat (by have := (h.fd q hq).1; omega)
  omega
theorem Rel.G2 (h : Rel B M) : ∀ q, q < B.nf → ∀ t, t < (B.G q 5).toNat + ((B.G q 6).toNat + 1) / 2 → 0 ≤ B.G q (7 + t) ∧ B.G q (7 + t) ≤ 255 := fun q hq t ht => by
  rw [h.nf] at hq
  rw [h.G5 hq, h.G6 hq] at ht
  have h0 := (h.fd q hq).1
  rw [(h.fd q hq).2.2 (7 + t) (by unfold rLI; omega)]
  exact h.row_rg (by omega) (by unfold rLI; omega)
theorem sim_found (h : Rel B M) {k v r r' : Int} (hc : ((0 ≤ k ∧ k < (B.nf : Int)) ∧ r = (if v = 0 then B.OF k.toNat else if v = 1 then B.G k.toNat 2 + 256 * B.G k.toNat 3 else if v = 2 then B.G k.toNat 4 else if v = 3 then B.G k.toNat 2 + 256 * B.G k.toNat 3 + spanN (fun z => B.G k.toNat (7 + z)) (B.G k.toNat 5).toNat else if v = 4 then B.G k.toNat 5 else if v = 5 then B.G k.toNat 6 else -1)) ∨ (¬ (0 ≤ k ∧ k < (B.nf : Int)) ∧ r = -1))
    (hm : (0 ≤ k ∧ k < (M.mf : Int) ∧ r' = fndN M.Bg M.Ps M.En M.Oc M.Bc (M.Fd k.toNat).toNat v) ∨ (¬ (0 ≤ k ∧ k < (M.mf : Int)) ∧ r' = -1)) : r = r' := by
  have hnf := h.nf
  rcases hc with c | c <;> rcases hm with m | m
  · have hq : k.toNat < M.mf := by omega
    have hf := h.fd k.toNat hq
    have h0 := hf.1
    have h1 := h.rc (M.Fd k.toNat).toNat (by omega)
    have h2 := h.rr (M.Fd k.toNat).toNat (by omega)
    have w1 : M.mw = 1 := by
      rcases h.fw with w | w
      · omega
      · exact w
    have wr : Wr B M := by
      rcases h.dk with w | w
      · omega
      · exact w.2
    have hbg := (wr.bg (M.Fd k.toNat).toNat (by omega)).1
    have g2 : B.G k.toNat 2 = M.Ps (M.Fd k.toNat).toNat % 256 := h.Gr hq (by omega)
    have g3 : B.G k.toNat 3 = M.Ps (M.Fd k.toNat).toNat / 256 := h.Gr hq (by omega)
    have g4 : B.G k.toNat 4 = binI (M.Ps (M.Fd k.toNat).toNat) (M.En (M.Fd k.toNat).toNat) := h.Gr hq (by omega)
    have gs : spanN (fun z => B.G k.toNat (7 + z)) (B.G k.toNat 5).toNat = spanN (fun z => M.Ob (3 * (M.Fd k.toNat).toNat + z)) (M.Oc (M.Fd k.toNat).toNat).toNat := by
      rw [h.G5 hq]
      refine spanN_congr (fun z hz => ?_)
      show B.G k.toNat (7 + z) = _
      rw [h.Gr hq (by omega), rB_op hz]
    rw [c.2, m.2.2, h.G6 hq, gs, h.G5 hq, g2, g3, g4, hf.2.1]
    unfold fndN
    rw [hbg]
    have hen := h.en (M.Fd k.toNat).toNat (by omega)
    by_cases v0 : v = 0
    · rw [if_pos v0, if_pos v0]
      omega
    · rw [if_neg v0, if_neg v0]
      by_cases v1 : v = 1
      · rw [if_pos v1, if_pos v1]
        omega
      · rw [if_neg v1, if_neg v1]
        by_cases v2 : v = 2
        · rw [if_pos v2, if_pos v2]
        · rw [if_neg v2, if_neg v2]
          by_cases v3 : v = 3
          · rw [if_pos v3, if_pos v3]
            omega
          · rw [if_neg v3, if_neg v3]
  · omega
  · omega
  · omega
theorem sim_foundOp (h : Rel B M) {k v r r' : Int} (hc : ((0 ≤ k ∧ k < (B.nf : Int) ∧ 0 ≤ v ∧ v < B.G k.toNat 5) ∧ r = B.G k.toNat (7 + v.toNat)) ∨ (¬ (0 ≤ k ∧ k < (B.nf : Int) ∧ 0 ≤ v ∧ v < B.G k.toNat 5) ∧ r = -1))
    (hm : ((0 ≤ k ∧ k < (M.mf : Int) ∧ 0 ≤ v ∧ v < M.Oc (M.Fd k.toNat).toNat) ∧ r' = M.Ob (3 * (M.Fd k.toNat).toNat + v.toNat)) ∨ (¬ (0 ≤ k ∧ k < (M.mf : Int) ∧ 0 ≤ v ∧ v < M.Oc (M.Fd k.toNat).toNat) ∧ r' = -1)) : r = r' := by
  have hnf := h.nf
  by_cases hk : 0 ≤ k ∧ k < (M.mf : Int)
  · have hq : k.toNat < M.mf := by omega
    have g5 := h.G5 hq
    rcases hc with c | c <;> rcases hm with m | m
    · rw [c.2, m.2, h.Gr hq (by omega), rB_op (by omega)]
    · omega
    · omega
    · omega
  · rcases hc with c | c <;> rcases hm with m | m <;> omega
theorem sim_foundBase (h : Rel B M) {k v r r' : Int} (hc : ((0 ≤ k ∧ k < (B.nf : Int) ∧ 0 ≤ v ∧ v < B.G k.toNat 6) ∧ r = if v % 2 = 0 then B.G k.toNat (7 + (B.G k.toNat 5).toNat + v.toNat / 2) / 16 else B.G k.toNat (7 + (B.G k.toNat 5).toNat + v.toNat / 2) % 16) ∨ (¬ (0 ≤ k ∧ k < (B.nf : Int) ∧ 0 ≤ v ∧ v < B.G k.toNat 6) ∧ r = -1))
    (hm : ((0 ≤ k ∧ k < (M.mf : Int) ∧ 0 ≤ v ∧ v < M.Bc (M.Fd k.toNat).toNat) ∧ r' = M.Bd (24 * (M.Fd k.toNat).toNat + v.toNat)) ∨ (¬ (0 ≤ k ∧ k < (M.mf : Int) ∧ 0 ≤ v ∧ v < M.Bc (M.Fd k.toNat).toNat) ∧ r' = -1)) : r = r' := by
  have hnf := h.nf
  by_cases hk : 0 ≤ k ∧ k < (M.mf : Int)
  · have hq : k.toNat < M.mf := by omega
    have g5 := h.G5 hq
    have g6 := h.G6 hq
    have h0 := (h.fd k.toNat hq).1
    rcases hc with c | c <;> rcases hm with m | m
    · have hb1 := h.bd (M.Fd k.toNat).toNat (by omega) (2 * (v.toNat / 2)) (by omega)
      rw [c.2, m.2, g5, h.Gr hq (by omega), rB_pair]
      by_cases ev : v % 2 = 0
      · rw [if_pos ev]
        have e2 : 2 * (v.toNat / 2) = v.toNat := by omega
        rw [e2] at hb1 ⊢
        by_cases q : v.toNat + 1 < (M.Bc (M.Fd k.toNat).toNat).toNat
        · rw [if_pos q]
          have hb2 := h.bd (M.Fd k.toNat).toNat (by omega) (v.toNat + 1) q
          omega
        · rw [if_neg q]
          omega
      · rw [if_neg ev]
        have e2 : 2 * (v.toNat / 2) + 1 = v.toNat := by omega
        rw [e2, if_pos (by omega)]
        have hb2 := h.bd (M.Fd k.toNat).toNat (by omega) v.toNat (by omega)
        omega
    · omega
    · omega
    · omega
  · rcases hc with c | c <;> rcases hm with m | m <;> omega
/-- a read lies in its bin -/
theorem bin_cov {a b : Int} (h : 0 ≤ a ∧ a < b ∧ b ≤ 4096) : binB (binI a b) ≤ a ∧ b ≤ binE (binI a b) := by
  have f := bin_facts (binI a b)
  by_cases c1 : a / 64 = (b - 1) / 64
  · have e : binI a b = 9 + a / 64 := if_pos c1
    rw [e] at f ⊢
    omega
  · by_cases c2 : a / 512 = (b - 1) / 512
    · have e : binI a b = 1 + a / 512 := (if_neg c1).trans (if_pos c2)
      rw [e] at f ⊢
      omega
    · have e : binI a b = 0 := (if_neg c1).trans (if_neg c2)
      rw [e] at f ⊢
      omega
end SIM
