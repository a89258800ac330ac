/-! the class's data B and the reference's data M while both run the same calls -/
theorem blkB_0 {F F' : Nat → Int} {f f' t : Nat} : blkB F f 0 t = blkB F' f' 0 t := by
  unfold blkB
  by_cases h : t < 7
  · by_cases h0 : t = 0
    · rw [if_pos h0, if_pos h0]
    · rw [if_neg h0, if_neg h0]
      by_cases h1 : t = 1
      · rw [if_pos h1, if_pos h1]
      · rw [if_neg h1, if_neg h1]
        by_cases h2 : t = 2
        · rw [if_pos h2, if_pos h2]
        · rw [if_neg h2, if_neg h2]
          by_cases h5 : t < 5
          · rw [if_pos h5, if_pos h5]
          · rw [if_neg h5, if_neg h5, if_pos h, if_pos h]
  · rw [if_neg (by omega), if_neg (by omega), if_neg (by omega), if_neg (by omega), if_neg (by omega), if_neg (by omega), if_neg (by omega), if_neg (by omega), if_neg (by omega), if_neg (by omega), if_neg (by omega), if_neg (by omega)]
    rfl
theorem blkB_congr {F F' : Nat → Int} {f f' n t : Nat} (h : ∀ j, j < n → F (f + j) = F' (f' + j)) (ht : t < 7 + n + 4) : blkB F f n t = blkB F' f' n t := by
  by_cases h7 : t < 7
  · exact blkB_head h7
  · by_cases hn : t < 7 + n
    · obtain ⟨u, rfl⟩ : ∃ u, t = 7 + u := ⟨t - 7, by omega⟩
      rw [blkB_piece (by omega), blkB_piece (by omega)]
      exact h u (by omega)
    · obtain ⟨u, rfl⟩ : ∃ u, t = 7 + n + u := ⟨t - (7 + n), by omega⟩
      rw [blkB_tail, blkB_tail, crcN_congr h]
/-- numbers in bytes -/
theorem numN_inj {F F' : Nat → Int} {f n : Nat} (h : ∀ j, j < n → 0 ≤ F (f + j) ∧ F (f + j) ≤ 255) (h' : ∀ j, j < n → 0 ≤ F' (f + j) ∧ F' (f + j) ≤ 255) (e : numN F f n = numN F' f n) : ∀ j, j < n → F (f + j) = F' (f + j) := by
  induction n with
  | zero => exact fun j hj => absurd hj (Nat.not_lt_zero j)
  | succ n ih =>
    have h1 := numN_lt (F := F) (f := f) (n := n) (fun j hj => h j (by omega))
    have h2 := numN_lt (F := F') (f := f) (n := n) (fun j hj => h' j (by omega))
    have e0 : numN F f n + (F (f + n)).toNat * 256 ^ n = numN F' f n + (F' (f + n)).toNat * 256 ^ n := e
    have hp : 0 < 256 ^ n := Nat.pos_of_ne_zero (by intro q; rw [q] at h1; omega)
    have e1 : (F (f + n)).toNat = (F' (f + n)).toNat := by
      have a1 := Nat.add_mul_div_right (numN F f n) (F (f + n)).toNat hp
      have a2 := Nat.add_mul_div_right (numN F' f n) (F' (f + n)).toNat hp
      rw [Nat.div_eq_of_lt h1, Nat.zero_add] at a1
      rw [Nat.div_eq_of_lt h2, Nat.zero_add] at a2
      rw [← a1, ← a2, e0]
    rw [e1] at e0
    have e2 := Nat.add_right_cancel e0
    intro j hj
    by_cases q : j = n
    · subst q
      have b1 := h j (by omega)
      have b2 := h' j (by omega)
      omega
    · exact ih (fun j hj => h j (by omega)) (fun j hj => h' j (by omega)) e2 j (by omega)
theorem num2 (F : Nat → Int) (f : Nat) : numN F f 2 = (F f).toNat + (F (f + 1)).toNat * 256 := by
  show 0 + (F (f + 0)).toNat * 256 ^ 0 + (F (f + 1)).toNat * 256 ^ 1 = _
  rw [Nat.add_zero]
  omega
theorem num4 (F : Nat → Int) (f : Nat) : numN F f 4 = (F f).toNat + (F (f + 1)).toNat * 256 + (F (f + 2)).toNat * 65536 + (F (f + 3)).toNat * 16777216 := by
  show 0 + (F (f + 0)).toNat * 256 ^ 0 + (F (f + 1)).toNat * 256 ^ 1 + (F (f + 2)).toNat * 256 ^ 2 + (F (f + 3)).toNat * 256 ^ 3 = _
  rw [Nat.add_zero]
  omega
/-- a block as it was written is sound -/
theorem snd_ok {F S : Nat → Int} {sz st f k : Nat} (hk : k ≤ 40) (hsz : st + k + 11 ≤ sz) (hS : ∀ j, j < k → 0 ≤ S (f + j) ∧ S (f + j) ≤ 255) (hF : ∀ t, t < 7 + k + 4 → F (st + t) = blkB S f k t) : sndN F sz st := by
  have hx : k ^^^ 4294967295 < 4294967296 := xor32 (by omega) (by decide)
  have hc : crcN S f k ^^^ 4294967295 < 4294967296 := xor32 (crcN_lt hS) (by decide)
  have n3 : numN F (st + 3) 2 = k := by
    rw [num2, show st + 3 + 1 = st + 4 by omega, hF 3 (by omega), hF 4 (by omega)]
    show (((k / 256 ^ 0 % 256 : Nat) : Int)).toNat + (((k / 256 ^ 1 % 256 : Nat) : Int)).toNat * 256 = k
    omega
  have n5 : numN F (st + 5) 2 = (k ^^^ 4294967295) % 65536 := by
    rw [num2, show st + 5 + 1 = st + 6 by omega, hF 5 (by omega), hF 6 (by omega)]
    show ((((k ^^^ 4294967295) / 256 ^ 0 % 256 : Nat) : Int)).toNat + ((((k ^^^ 4294967295) / 256 ^ 1 % 256 : Nat) : Int)).toNat * 256 = (k ^^^ 4294967295) % 65536
    generalize k ^^^ 4294967295 = y at hx ⊢
    omega
  have n7 : numN F (st + 7 + k) 4 = crcN S f k ^^^ 4294967295 := by
    rw [num4, show st + 7 + k = st + (7 + k + 0) by omega, show st + (7 + k + 0) + 1 = st + (7 + k + 1) by omega, show st + (7 + k + 0) + 2 = st + (7 + k + 2) by omega, show st + (7 + k + 0) + 3 = st + (7 + k + 3) by omega, hF _ (by omega), hF _ (by omega), hF _ (by omega), hF _ (by omega), blkB_tail, blkB_tail, blkB_tail, blkB_tail]
    generalize crcN S f k ^^^ 4294967295 = y at hc ⊢
    show (((y / 1 % 256 : Nat) : Int)).toNat + (((y / 256 % 256 : Nat) : Int)).toNat * 256 + (((y / 65536 % 256 : Nat) : Int)).toNat * 65536 + (((y / 16777216 % 256 : Nat) : Int)).toNat * 16777216 = y
    omega
  have cr : crcN F (st + 7) k = crcN S f k := crcN_congr (fun j hj => by rw [show st + 7 + j = st + (7 + j) by omega, hF _ (by omega), blkB_piece hj])
  refine ⟨?_, ?_, ?_, ?_, ?_, ?_⟩
  · exact hF 0 (by omega)
  · exact hF 1 (by omega)
  · exact hF 2 (by omega)
  · rw [n3, n5]
  · rw [n3]
    omega
  · rw [n3, n7, cr]
/-- one byte of a block is otherwise: it is noticed -/
theorem snd_bad {F F' : Nat → Int} {sz st k i : Nat} (hk : numN F (st + 3) 2 = k) (hF : sndN F sz st) (hr : ∀ t, t < 7 + k + 4 → 0 ≤ F (st + t) ∧ F (st + t) ≤ 255) (hr' : ∀ t, t < 7 + k + 4 → 0 ≤ F' (st + t) ∧ F' (st + t) ≤ 255) (hi : i < 7 + k + 4) (hne : F' (st + i) ≠ F (st + i)) (hs : ∀ t, t < 7 + k + 4 → t ≠ i → F' (st + t) = F (st + t)) : ¬ sndN F' sz st := by
  intro hB
  obtain ⟨a1, a2, a3, a4, a5, a6⟩ := hF
  obtain ⟨b1, b2, b3, b4, b5, b6⟩ := hB
  rw [hk] at a4 a5 a6
  have e3 : i ≠ 0 ∧ i ≠ 1 ∧ i ≠ 2 := ⟨fun q => hne (by rw [q]; exact b1.trans a1.symm), fun q => hne (by rw [q]; exact b2.trans a2.symm), fun q => hne (by rw [q]; exact b3.trans a3.symm)⟩
  have l3 : numN F (st + 3) 2 < 65536 := numN_lt (n := 2) (fun j hj => by rw [show st + 3 + j = st + (3 + j) by omega]; exact hr _ (by omega))
  have l3' : numN F' (st + 3) 2 < 65536 := numN_lt (n := 2) (fun j hj => by rw [show st + 3 + j = st + (3 + j) by omega]; exact hr' _ (by omega))
  by_cases c1 : i = 3 ∨ i = 4
  · have e5 : numN F' (st + 5) 2 = numN F (st + 5) 2 := by
      rw [num2, num2, show st + 5 + 1 = st + 6 by omega, hs 5 (by omega) (by omega), hs 6 (by omega) (by omega)]
    rw [e5, a4] at b4
    have e6 : k = numN F' (st + 3) 2 := by
      have x1 : k % 65536 = k := Nat.mod_eq_of_lt (by omega)
      have x2 : numN F' (st + 3) 2 % 65536 = numN F' (st + 3) 2 := Nat.mod_eq_of_lt l3'
      have y1 : ∀ y : Nat, (y ^^^ 4294967295) % 65536 = (y % 65536) ^^^ 65535 := fun y => by
        rw [show (65536 : Nat) = 2 ^ 16 from rfl, Nat.xor_mod_two_pow]
      rw [y1, y1, x1, x2] at b4
      exact xor_can b4
    have e7 := numN_inj (F := F') (F' := F) (f := st + 3) (n := 2) (fun j hj => by rw [show st + 3 + j = st + (3 + j) by omega]; exact hr' _ (by omega)) (fun j hj => by rw [show st + 3 + j = st + (3 + j) by omega]; exact hr _ (by omega)) (by rw [← e6, hk])
    rcases c1 with rfl | rfl
    · exact hne (e7 0 (by omega))
    · exact hne (e7 1 (by omega))
  · have e3' : numN F' (st + 3) 2 = k := by
      rw [← hk, num2, num2, show st + 3 + 1 = st + 4 by omega, hs 3 (by omega) (by omega), hs 4 (by omega) (by omega)]
    rw [e3'] at b4 b5 b6
    by_cases c2 : i = 5 ∨ i = 6
    · have e7 := numN_inj (F := F') (F' := F) (f := st + 5) (n := 2) (fun j hj => by rw [show st + 5 + j = st + (5 + j) by omega]; exact hr' _ (by omega)) (fun j hj => by rw [show st + 5 + j = st + (5 + j) by omega]; exact hr _ (by omega)) (by rw [b4, a4])
      rcases c2 with rfl | rfl
      · exact hne (e7 0 (by omega))
      · exact hne (e7 1 (by omega))
    · by_cases c3 : i < 7 + k
      · have e4 : numN F' (st + 7 + k) 4 = numN F (st + 7 + k) 4 := by
          rw [num4, num4, show st + 7 + k = st + (7 + k) by omega, show st + (7 + k) + 1 = st + (7 + k + 1) by omega, show st + (7 + k) + 2 = st + (7 + k + 2) by omega, show st + (7 + k) + 3 = st + (7 + k + 3) by omega, hs (7 + k) (by omega) (by omega), hs (7 + k + 1) (by omega) (by omega), hs (7 + k + 2) (by omega) (by omega), hs (7 + k + 3) (by omega) (by omega)]
        rw [e4, a6] at b6
        refine crcN_one (F := F) (F' := F') (f := st + 7) (n := k) (i := i - 7) (fun j hj => by rw [show st + 7 + j = st + (7 + j) by omega]; exact hr _ (by omega)) (fun j hj => by rw [show st + 7 + j = st + (7 + j) by omega]; exact hr' _ (by omega)) (by omega) ?_ (fun j hj hji => ?_) (xor_can b6)
        · rw [show st + 7 + (i - 7) = st + i by omega]
          exact fun q => hne q.symm
        · rw [show st + 7 + j = st + (7 + j) by omega]
          exact (hs _ (by omega) (by omega)).symm
      · have e4 : crcN F' (st + 7) k = crcN F (st + 7) k := crcN_congr (fun j hj => by rw [show st + 7 + j = st + (7 + j) by omega]; exact hs _ (by omega) (by omega))
        rw [e4] at b6
        have e7 := numN_inj (F := F') (F' := F) (f := st + 7 + k) (n := 4) (fun j hj => by rw [show st + 7 + k + j = st + (7 + k + j) by omega]; exact hr' _ (by omega)) (fun j hj => by rw [show st + 7 + k + j = st + (7 + k + j) by omega]; exact hr _ (by omega)) (by rw [b6, a6])
        have e8 := e7 (i - (7 + k)) (by omega)
        rw [show st + 7 + k + (i - (7 + k)) = st + i by omega] at e8
        exact hne e8
theorem byN_rg {Dk : Nat → Int} {u k : Int} (h : 0 ≤ Dk k.toNat ∧ Dk k.toNat ≤ 255) : 0 ≤ byN Dk u k ∧ byN Dk u k ≤ 255 := by
  by_cases c : 0 ≤ u ∧ u / 8 = k
  · rw [byN_yes c]
    have h1 : ((2 ^ (u % 8).toNat : Nat) : Int).toNat < 2 ^ 8 := by
      show 2 ^ (u % 8).toNat < 2 ^ 8
      exact Nat.pow_lt_pow_right (by decide) (by omega)
    have h2 : (Dk k.toNat).toNat ^^^ ((2 ^ (u % 8).toNat : Nat) : Int).toNat < 2 ^ 8 := Nat.xor_lt_two_pow (by omega) h1
    omega
  · rw [byN_no c]
    exact h
theorem byN_ne {Dk : Nat → Int} {u k : Int} (h : 0 ≤ Dk k.toNat) (c : 0 ≤ u ∧ u / 8 = k) : byN Dk u k ≠ Dk k.toNat := by
  rw [byN_yes c]
  intro q
  have h1 : ((2 ^ (u % 8).toNat : Nat) : Int).toNat = 2 ^ (u % 8).toNat := rfl
  rw [h1] at q
  have h2 : (Dk k.toNat).toNat ^^^ 2 ^ (u % 8).toNat = (Dk k.toNat).toNat := by omega
  have h3 : (Dk k.toNat).toNat ^^^ 2 ^ (u % 8).toNat = (Dk k.toNat).toNat ^^^ 0 := by rw [h2, Nat.xor_zero]
  have h4 := xor_can2 h3
  have h5 : 0 < 2 ^ (u % 8).toNat := Nat.two_pow_pos _
  omega
/-- where block z begins, and how long its piece is, when the stream has T bytes -/
abbrev stB (T z : Nat) : Nat := min (40 * z) T + 11 * z
abbrev lnB (T z : Nat) : Nat := min 40 (T - 40 * z)
theorem blk_of {T j : Nat} (h : j < T + 11 * ((T + 39) / 40) + 11) : ∃ z, z ≤ (T + 39) / 40 ∧ stB T z ≤ j ∧ j < stB T z + (7 + lnB T z + 4) := by
  by_cases c : j < T + 11 * ((T + 39) / 40)
  · exact ⟨j / 51, by omega, by show min _ _ + _ ≤ _; omega, by show _ < min _ _ + _ + (7 + min _ _ + 4); omega⟩
  · exact ⟨(T + 39) / 40, Nat.le_refl _, by show min _ _ + _ ≤ _; omega, by show _ < min _ _ + _ + (7 + min _ _ + 4); omega⟩
def Wr (B : BD) (M : MD) : Prop := (B.sz = M.mz) ∧ (M.mz = stN M.Oc M.Bc M.mr + 11 * ((stN M.Oc M.Bc M.mr + 39) / 40) + 11) ∧ (B.bc = (stN M.Oc M.Bc M.mr + 39) / 40 + 1) ∧ (∀ z, z ≤ (stN M.Oc M.Bc M.mr + 39) / 40 → B.KS z = ((stB (stN M.Oc M.Bc M.mr) z : Nat) : Int)) ∧ (∀ z, z < M.mr → M.Bg z = (stN M.Oc M.Bc z : Int) ∧ M.Bg (z + 1) = (stN M.Oc M.Bc (z + 1) : Int)) ∧ (∀ z, z ≤ (stN M.Oc M.Bc M.mr + 39) / 40 → ∀ t, t < 7 + lnB (stN M.Oc M.Bc M.mr) z + 4 → M.Dk (stB (stN M.Oc M.Bc M.mr) z + t) = blkB B.SB (min (40 * z) (stN M.Oc M.Bc M.mr)) (lnB (stN M.Oc M.Bc M.mr) z) t) ∧ (B.tn = M.mu) ∧ (-1 ≤ M.mu ∧ M.mu < 8 * (M.mz : Int)) ∧ (∀ j, j < M.mz → B.DB j = byN M.Dk M.mu (j : Int))
theorem Wr.sz {B : BD} {M : MD} (h : Wr B M) : B.sz = M.mz := h.1
theorem Wr.mz {B : BD} {M : MD} (h : Wr B M) : M.mz = stN M.Oc M.Bc M.mr + 11 * ((stN M.Oc M.Bc M.mr + 39) / 40) + 11 := h.2.1
theorem Wr.bc {B : BD} {M : MD} (h : Wr B M) : B.bc = (stN M.Oc M.Bc M.mr + 39) / 40 + 1 := h.2.2.1
theorem Wr.ks {B : BD} {M : MD} (h : Wr B M) : ∀ z, z ≤ (stN M.Oc M.Bc M.mr + 39) / 40 → B.KS z = ((stB (stN M.Oc M.Bc M.mr) z : Nat) : Int) := h.2.2.2.1
theorem Wr.bg {B : BD} {M : MD} (h : Wr B M) : ∀ z, z < M.mr → M.Bg z = (stN M.Oc M.Bc z : Int) ∧ M.Bg (z + 1) = (stN M.Oc M.Bc (z + 1) : Int) := h.2.2.2.2.1
theorem Wr.dk {B : BD} {M : MD} (h : Wr B M) : ∀ z, z ≤ (stN M.Oc M.Bc M.mr + 39) / 40 → ∀ t, t < 7 + lnB (stN M.Oc M.Bc M.mr) z + 4 → M.Dk (stB (stN M.Oc M.Bc M.mr) z + t) = blkB B.SB (min (40 * z) (stN M.Oc M.Bc M.mr)) (lnB (stN M.Oc M.Bc M.mr) z) t := h.2.2.2.2.2.1
theorem Wr.tn {B : BD} {M : MD} (h : Wr B M) : B.tn = M.mu := h.2.2.2.2.2.2.1
theorem Wr.mu {B : BD} {M : MD} (h : Wr B M) : -1 ≤ M.mu ∧ M.mu < 8 * (M.mz : Int) := h.2.2.2.2.2.2.2.1
theorem Wr.db {B : BD} {M : MD} (h : Wr B M) : ∀ j, j < M.mz → B.DB j = byN M.Dk M.mu (j : Int) := h.2.2.2.2.2.2.2.2
theorem Wr.mk {B : BD} {M : MD} (z0 : B.sz = M.mz) (z1 : M.mz = stN M.Oc M.Bc M.mr + 11 * ((stN M.Oc M.Bc M.mr + 39) / 40) + 11) (z2 : B.bc = (stN M.Oc M.Bc M.mr + 39) / 40 + 1) (z3 : ∀ z, z ≤ (stN M.Oc M.Bc M.mr + 39) / 40 → B.KS z = ((stB (stN M.Oc M.Bc M.mr) z : Nat) : Int)) (z4 : ∀ z, z < M.mr → M.Bg z = (stN M.Oc M.Bc z : Int) ∧ M.Bg (z + 1) = (stN M.Oc M.Bc (z + 1) : Int)) (z5 : ∀ z, z ≤ (stN M.Oc M.Bc M.mr + 39) / 40 → ∀ t, t < 7 + lnB (stN M.Oc M.Bc M.mr) z + 4 → M.Dk (stB (stN M.Oc M.Bc M.mr) z + t) = blkB B.SB (min (40 * z) (stN M.Oc M.Bc M.mr)) (lnB (stN M.Oc M.Bc M.mr) z) t) (z6 : B.tn = M.mu) (z7 : -1 ≤ M.mu ∧ M.mu < 8 * (M.mz : Int)) (z8 : ∀ j, j < M.mz → B.DB j = byN M.Dk M.mu (j : Int)) : Wr B M := ⟨z0, z1, z2, z3, z4, z5, z6, z7, z8⟩
def Rel (B : BD) (M : MD) : Prop := (B.no = M.mo) ∧ (M.mo ≤ 3) ∧ (∀ i, i < M.mo → B.O i = 4 * M.Ln i + M.K i ∧ (0 ≤ M.K i ∧ M.K i ≤ 3) ∧ (1 ≤ M.Ln i ∧ M.Ln i ≤ 63)) ∧ (B.nb = M.mb) ∧ (M.mb ≤ 24) ∧ (∀ j, j < M.mb → B.B j = M.Cd j ∧ 0 ≤ M.Cd j ∧ M.Cd j ≤ 15) ∧ (B.cn = M.mr) ∧ (M.mr ≤ 24) ∧ (∀ i, i < M.mr → B.RF i = M.Rf i ∧ B.PO i = M.Ps i ∧ B.EN i = M.En i ∧ B.BN i = binI (M.Ps i) (M.En i) ∧ B.ST i = (stN M.Oc M.Bc i : Int)) ∧ (∀ i, i < M.mr → (0 ≤ M.Rf i ∧ M.Rf i ≤ 1) ∧ (0 ≤ M.Ps i ∧ M.Ps i < M.En i ∧ M.En i ≤ 4096)) ∧ (∀ i, i < M.mr → (0 ≤ M.Oc i ∧ M.Oc i ≤ 3) ∧ (0 ≤ M.Bc i ∧ M.Bc i ≤ 24)) ∧ (∀ i, i < M.mr → ∀ j, j < (M.Oc i).toNat → 0 ≤ M.Ob (3 * i + j) ∧ M.Ob (3 * i + j) ≤ 255) ∧ (∀ i, i < M.mr → ∀ j, j < (M.Bc i).toNat → 0 ≤ M.Bd (24 * i + j) ∧ M.Bd (24 * i + j) ≤ 15) ∧ (∀ i, i < M.mr → M.En i = M.Ps i + spanN (fun z => M.Ob (3 * i + z)) (M.Oc i).toNat) ∧ (B.sl = stN M.Oc M.Bc M.mr) ∧ (∀ i, i < M.mr → ∀ j, j < rLI M.Oc M.Bc i → B.SB (stN M.Oc M.Bc i + j) = rowN M.Rf M.Ps M.En M.Oc M.Ob M.Bc M.Bd i j) ∧ ((M.mw = 0 ∧ B.sz = 0 ∧ B.bc = 0 ∧ M.mz = 0 ∧ M.mt = 0 ∧ B.tn = -1 ∧ M.mu = -1) ∨ (M.mw = 1 ∧ Wr B M)) ∧ (B.nf = M.mf) ∧ (M.mf ≤ 24) ∧ (B.lk = M.ml) ∧ (M.mf = 0 ∨ M.mw = 1) ∧ (∀ q, q < M.mf → (0 ≤ M.Fd q ∧ M.Fd q < (M.mr : Int)) ∧ B.OF q = ((3264 * (stN M.Oc M.Bc (M.Fd q).toNat / 40) + stN M.Oc M.Bc (M.Fd q).toNat % 40 : Nat) : Int) ∧ ∀ t, t < rLI M.Oc M.Bc (M.Fd q).toNat → B.G q t = rowN M.Rf M.Ps M.En M.Oc M.Ob M.Bc M.Bd (M.Fd q).toNat t)
theorem Rel.no {B : BD} {M : MD} (h : Rel B M) : B.no = M.mo := h.1
theorem Rel.no3 {B : BD} {M : MD} (h : Rel B M) : M.mo ≤ 3 := h.2.1
theorem Rel.op {B : BD} {M : MD} (h : Rel B M) : ∀ i, i < M.mo → B.O i = 4 * M.Ln i + M.K i ∧ (0 ≤ M.K i ∧ M.K i ≤ 3) ∧ (1 ≤ M.Ln i ∧ M.Ln i ≤ 63) := h.2.2.1
theorem Rel.nb {B : BD} {M : MD} (h : Rel B M) : B.nb = M.mb := h.2.2.2.1
theorem Rel.nb24 {B : BD} {M : MD} (h : Rel B M) : M.mb ≤ 24 := h.2.2.2.2.1
theorem Rel.ba {B : BD} {M : MD} (h : Rel B M) : ∀ j, j < M.mb → B.B j = M.Cd j ∧ 0 ≤ M.Cd j ∧ M.Cd j ≤ 15 := h.2.2.2.2.2.1
theorem Rel.cn {B : BD} {M : MD} (h : Rel B M) : B.cn = M.mr := h.2.2.2.2.2.2.1
theorem Rel.cn24 {B : BD} {M : MD} (h : Rel B M) : M.mr ≤ 24 := h.2.2.2.2.2.2.2.1
theorem Rel.rd {B : BD} {M : MD} (h : Rel B M) : ∀ i, i < M.mr → B.RF i = M.Rf i ∧ B.PO i = M.Ps i ∧ B.EN i = M.En i ∧ B.BN i = binI (M.Ps i) (M.En i) ∧ B.ST i = (stN M.Oc M.Bc i : Int) := h.2.2.2.2.2.2.2.2.1
theorem Rel.rr {B : BD} {M : MD} (h : Rel B M) : ∀ i, i < M.mr → (0 ≤ M.Rf i ∧ M.Rf i ≤ 1) ∧ (0 ≤ M.Ps i ∧ M.Ps i < M.En i ∧ M.En i ≤ 4096) := h.2.2.2.2.2.2.2.2.2.1
theorem Rel.rc {B : BD} {M : MD} (h : Rel B M) : ∀ i, i < M.mr → (0 ≤ M.Oc i ∧ M.Oc i ≤ 3) ∧ (0 ≤ M.Bc i ∧ M.Bc i ≤ 24) := h.2.2.2.2.2.2.2.2.2.2.1
theorem Rel.ob {B : BD} {M : MD} (h : Rel B M) : ∀ i, i < M.mr → ∀ j, j < (M.Oc i).toNat → 0 ≤ M.Ob (3 * i + j) ∧ M.Ob (3 * i + j) ≤ 255 := h.2.2.2.2.2.2.2.2.2.2.2.1
theorem Rel.bd {B : BD} {M : MD} (h : Rel B M) : ∀ i, i < M.mr → ∀ j, j < (M.Bc i).toNat → 0 ≤ M.Bd (24 * i + j) ∧ M.Bd (24 * i + j) ≤ 15 := h.2.2.2.2.2.2.2.2.2.2.2.2.1
theorem Rel.en {B : BD} {M : MD} (h : Rel B M) : ∀ i, i < M.mr → M.En i = M.Ps i + spanN (fun z => M.Ob (3 * i + z)) (M.Oc i).toNat := h.2.2.2.2.2.2.2.2.2.2.2.2.2.1
theorem Rel.sl {B : BD} {M : MD} (h : Rel B M) : B.sl = stN M.Oc M.Bc M.mr := h.2.2.2.2.2.2.2.2.2.2.2.2.2.2.1
theorem Rel.sb {B : BD} {M : MD} (h : Rel B M) : ∀ i, i < M.mr → ∀ j, j < rLI M.Oc M.Bc i → B.SB (stN M.Oc M.Bc i + j) = rowN M.Rf M.Ps M.En M.Oc M.Ob M.Bc M.Bd i j := h.2.2.2.2.2.2.2.2.2.2.2.2.2.2.2.1
theorem Rel.dk {B : BD} {M : MD} (h : Rel B M) : (M.mw = 0 ∧ B.sz = 0 ∧ B.bc = 0 ∧ M.mz = 0 ∧ M.mt = 0 ∧ B.tn = -1 ∧ M.mu = -1) ∨ (M.mw = 1 ∧ Wr B M) := h.2.2.2.2.2.2.2.2.2.2.2.2.2.2.2.2.1
theorem Rel.nf {B : BD} {M : MD} (h : Rel B M) : B.nf = M.mf := h.2.2.2.2.2.2.2.2.2.2.2.2.2.2.2.2.2.1
theorem Rel.nf24 {B : BD} {M : MD} (h : Rel B M) : M.mf ≤ 24 := h.2.2.2.2.2.2.2.2.2.2.2.2.2.2.2.2.2.2.1
theorem Rel.lk {B : BD} {M : MD} (h : Rel B M) : B.lk = M.ml := h.2.2.2.2.2.2.2.2.2.2.2.2.2.2.2.2.2.2.2.1
theorem Rel.fw {B : BD} {M : MD} (h : Rel B M) : M.mf = 0 ∨ M.mw = 1 := h.2.2.2.2.2.2.2.2.2.2.2.2.2.2.2.2.2.2.2.2.1
theorem Rel.fd {B : BD} {M : MD} (h : Rel B M) : ∀ q, q < M.mf → (0 ≤ M.Fd q ∧ M.Fd q < (M.mr : Int)) ∧ B.OF q = ((3264 * (stN M.Oc M.Bc (M.Fd q).toNat / 40) + stN M.Oc M.Bc (M.Fd q).toNat % 40 : Nat) : Int) ∧ ∀ t, t < rLI M.Oc M.Bc (M.Fd q).toNat → B.G q t = rowN M.Rf M.Ps M.En M.Oc M.Ob M.Bc M.Bd (M.Fd q).toNat t := h.2.2.2.2.2.2.2.2.2.2.2.2.2.2.2.2.2.2.2.2.2
theorem Rel.mk {B : BD} {M : MD} (z0 : B.no = M.mo) (z1 : M.mo ≤ 3) (z2 : ∀ i, i < M.mo → B.O i = 4 * M.Ln i + M.K i ∧ (0 ≤ M.K i ∧ M.K i ≤ 3) ∧ (1 ≤ M.Ln i ∧ M.Ln i ≤ 63)) (z3 : B.nb = M.mb) (z4 : M.mb ≤ 24) (z5 : ∀ j, j < M.mb → B.B j = M.Cd j ∧ 0 ≤ M.Cd j ∧ M.Cd j ≤ 15) (z6 : B.cn = M.mr) (z7 : M.mr ≤ 24) (z8 : ∀ i, i < M.mr → B.RF i = M.Rf i ∧ B.PO i = M.Ps i ∧ B.EN i = M.En i ∧ B.BN i = binI (M.Ps i) (M.En i) ∧ B.ST i = (stN M.Oc M.Bc i : Int)) (z9 : ∀ i, i < M.mr → (0 ≤ M.Rf i ∧ M.Rf i ≤ 1) ∧ (0 ≤ M.Ps i ∧ M.Ps i < M.En i ∧ M.En i ≤ 4096)) (z10 : ∀ i, i < M.mr → (0 ≤ M.Oc i ∧ M.Oc i ≤ 3) ∧ (0 ≤ M.Bc i ∧ M.Bc i ≤ 24)) (z11 : ∀ i, i < M.mr → ∀ j, j < (M.Oc i).toNat → 0 ≤ M.Ob (3 * i + j) ∧ M.Ob (3 * i + j) ≤ 255) (z12 : ∀ i, i < M.mr → ∀ j, j < (M.Bc i).toNat → 0 ≤ M.Bd (24 * i + j) ∧ M.Bd (24 * i + j) ≤ 15) (z13 : ∀ i, i < M.mr → M.En i = M.Ps i + spanN (fun z => M.Ob (3 * i + z)) (M.Oc i).toNat) (z14 : B.sl = stN M.Oc M.Bc M.mr) (z15 : ∀ i, i < M.mr → ∀ j, j < rLI M.Oc M.Bc i → B.SB (stN M.Oc M.Bc i + j) = rowN M.Rf M.Ps M.En M.Oc M.Ob M.Bc M.Bd i j) (z16 : (M.mw = 0 ∧ B.sz = 0 ∧ B.bc = 0 ∧ M.mz = 0 ∧ M.mt = 0 ∧ B.tn = -1 ∧ M.mu = -1) ∨ (M.mw = 1 ∧ Wr B M)) (z17 : B.nf = M.mf) (z18 : M.mf ≤ 24) (z19 : B.lk = M.ml) (z20 : M.mf = 0 ∨ M.mw = 1) (z21 : ∀ q, q < M.mf → (0 ≤ M.Fd q ∧ M.Fd q < (M.mr : Int)) ∧ B.OF q = ((3264 * (stN M.Oc M.Bc (M.Fd q).toNat / 40) + stN M.Oc M.Bc (M.Fd q).toNat % 40 : Nat) : Int) ∧ ∀ t, t < rLI M.Oc M.Bc (M.Fd q).toNat → B.G q t = rowN M.Rf M.Ps M.En M.Oc M.Ob M.Bc M.Bd (M.Fd q).toNat t) : Rel B M := ⟨z0, z1, z2, z3, z4, z5, z6, z7, z8, z9, z10, z11, z12, z13, z14, z15, z16, z17, z18, z19, z20, z21⟩
theorem rB_rg {x y b : Int} {no nb : Nat} {O B : Nat → Int} (hx : 0 ≤ x ∧ x ≤ 1) (hy : 0 ≤ y ∧ y ≤ 4095) (hb : 0 ≤ b ∧ b ≤ 72) (hno : no ≤ 3) (hnb : nb ≤ 24) (hO : ∀ j, j < no → 0 ≤ O j ∧ O j ≤ 255) (hB : ∀ j, j < nb → 0 ≤ B j ∧ B j ≤ 15) {j : Nat} (hj : j < 7 + no + (nb + 1) / 2) : 0 ≤ rB x y b no nb O B j ∧ rB x y b no nb O B j ≤ 255 := by
  by_cases h7 : j < 7
  · unfold rB
    rcases (show j = 0 ∨ j = 1 ∨ j = 2 ∨ j = 3 ∨ j = 4 ∨ j = 5 ∨ j = 6 by omega) with rfl | rfl | rfl | rfl | rfl | rfl | rfl
    · rw [if_pos rfl]
      omega
    · rw [if_neg (by decide), if_pos rfl]
      omega
    · rw [if_neg (by decide), if_neg (by decide), if_pos rfl]
      omega
    · rw [if_neg (by decide), if_neg (by decide), if_neg (by decide), if_pos rfl]
      omega
    · rw [if_neg (by decide), if_neg (by decide), if_neg (by decide), if_neg (by decide), if_pos rfl]
      omega
    · rw [if_neg (by decide), if_neg (by decide), if_neg (by decide), if_neg (by decide), if_neg (by decide), if_pos rfl]
      omega
    · rw [if_neg (by decide), if_neg (by decide), if_neg (by decide), if_neg (by decide), if_neg (by decide), if_neg (by decide), if_pos rfl]
      omega
  · by_cases ho : j < 7 + no
    · obtain ⟨i, rfl⟩ : ∃ i, j = 7 + i := ⟨j - 7, by omega⟩
      rw [rB_op (by omega)]
      exact hO i (by omega)
    · obtain ⟨t, rfl⟩ : ∃ t, j = 7 + no + t := ⟨j - (7 + no), by omega⟩
      rw [rB_pair]
      have h1 := hB (2 * t) (by omega)
      by_cases h2 : 2 * t + 1 < nb
      · rw [if_pos h2]
        have h3 := hB (2 * t + 1) h2
        omega
      · rw [if_neg h2]
        omega
section REL
variable {B : BD} {M : MD}
theorem Rel.row_rg (h : Rel B M) {i j : Nat} (hi : i < M.mr) (hj : j < rLI M.Oc M.Bc i) : 0 ≤ rowN M.Rf M.Ps M.En M.Oc M.Ob M.Bc M.Bd i j ∧ rowN M.Rf M.Ps M.En M.Oc M.Ob M.Bc M.Bd i j ≤ 255 := by
  have h1 := h.rr i hi
  have h2 := h.rc i hi
  exact rB_rg h1.1 ⟨h1.2.1, by omega⟩ (binI_rg h1.2) (by omega) (by omega) (h.ob i hi) (h.bd i hi) hj
theorem Rel.T (h : Rel B M) : stN M.Oc M.Bc M.mr ≤ 22 * M.mr := stN_le h.rc (Nat.le_refl _)
theorem Rel.SBr (h : Rel B M) {j : Nat} (hj : j < stN M.Oc M.Bc M.mr) : 0 ≤ B.SB j ∧ B.SB j ≤ 255 := by
  obtain ⟨i, k, h1, h2, rfl⟩ := st_in hj
  rw [h.sb i h1 k h2]
  exact h.row_rg h1 h2
theorem Rel.Or (h : Rel B M) : ∀ i, i < B.no → 0 ≤ B.O i ∧ B.O i ≤ 255 := fun i hi => by
  have h1 := h.op i (by rw [← h.no]; exact hi)
  omega
theorem Rel.Br (h : Rel B M) : ∀ j, j < B.nb → 0 ≤ B.B j ∧ B.B j ≤ 15 := fun j hj => by
  have h1 := h.ba j (by rw [← h.nb]; exact hj)
  omega
theorem Rel.RFr (h : Rel B M) : ∀ i, i < B.cn → 0 ≤ B.RF i ∧ B.RF i ≤ 1 := fun i hi => by
  rw [h.cn] at hi
  have h1 := h.rd i hi
  have h2 := h.rr i hi
  omega
theorem Rel.POr (h : Rel B M) : ∀ i, i < B.cn → 0 ≤ B.PO i ∧ B.PO i ≤ 4095 := fun i hi => by
  rw [h.cn] at hi
  have h1 := h.rd i hi
  have h2 := h.rr i hi
  omega
theorem Rel.ENr (h : Rel B M) : ∀ i, i < B.cn → 0 ≤ B.EN i ∧ B.EN i ≤ 4096 := fun i hi => by
  rw [h.cn] at hi
  have h1 := h.rd i hi
  have h2 := h.rr i hi
  omega
theorem Rel.BNr (h : Rel B M) : ∀ i, i < B.cn → 0 ≤ B.BN i ∧ B.BN i ≤ 72 := fun i hi => by
  rw [h.cn] at hi
  have h1 := h.rd i hi
  have h2 := binI_rg (h.rr i hi).2
  omega
theorem Rel.Dkr (h : Rel B M) (w : Wr B M) {j : Nat} (hj : j < M.mz) : 0 ≤ M.Dk j ∧ M.Dk j ≤ 255 := by
  rw [w.mz] at hj
  obtain ⟨z, h1, h2, h3⟩ := blk_of hj
  have e := w.dk z h1 (j - stB (stN M.Oc M.Bc M.mr) z) (by omega)
  rw [show stB (stN M.Oc M.Bc M.mr) z + (j - stB (stN M.Oc M.Bc M.mr) z) = j by omega] at e
  rw [e]
  exact blkB_rg (fun i hi => h.SBr (by have hi : i < min 40 (stN M.Oc M.Bc M.mr - 40 * z) := hi; omega))
theorem Rel.szr (h : Rel B M) : B.sz ≤ 693 := by
  rcases h.dk with w | ⟨_, w⟩
  · omega
  · have h1 := w.sz
    have h2 := w.mz
    have h3 := h.T
    have h4 := h.cn24
    omega
theorem Rel.DBr (h : Rel B M) : ∀ j, j < B.sz → 0 ≤ B.DB j ∧ B.DB j ≤ 255 := fun j hj => by
  rcases h.dk with w | ⟨_, w⟩
  · omega
  · have h1 := w.sz
    rw [w.db j (by omega)]
    exact byN_rg (by rw [Int.toNat_natCast]; exact h.Dkr w (by omega))
theorem Rel.w1 (h : Rel B M) : (0 < B.sz ∧ M.mw = 1) ∨ (B.sz = 0 ∧ M.mw = 0) := by
  rcases h.dk with w | ⟨w1, w⟩
  · omega
  · have h1 := w.sz
    have h2 := w.mz
    omega
theorem Rel.bcr (h : Rel B M) : B.bc ≤ 15 := by
  rcases h.dk with w | ⟨_, w⟩
  · omega
  · have h1 := w.bc
    have h3 := h.T
    have h4 := h.cn24
    omega
theorem Rel.KSr (h : Rel B M) : ∀ z, z < B.bc → 0 ≤ B.KS z ∧ B.KS z + 11 ≤ (B.sz : Int) := fun z hz => by
  rcases h.dk with w | ⟨_, w⟩
  · omega
  · have h1 := w.bc
    have h2 := w.mz
    have h3 := w.sz
    rw [w.ks z (by omega)]
    have h4 : stB (stN M.Oc M.Bc M.mr) z = min (40 * z) (stN M.Oc M.Bc M.mr) + 11 * z := rfl
    omega
/-- a block is sound if the turned bit is not in it, and only then -/
theorem Rel.snd (h : Rel B M) (w : Wr B M) {z : Nat} (hz : z ≤ (stN M.Oc M.Bc M.mr + 39) / 40) : sndN B.DB B.sz (B.KS z).toNat ↔ ¬ (0 ≤ M.mu ∧ ((stB (stN M.Oc M.Bc M.mr) z : Nat) : Int) ≤ M.mu / 8 ∧ M.mu / 8 < ((stB (stN M.Oc M.Bc M.mr) z + (7 + lnB (stN M.Oc M.Bc M.mr) z + 4) : Nat) : Int)) := by
  have hmz := w.mz
  have hsz := w.sz
  have hend : stB (stN M.Oc M.Bc M.mr) z + (7 + lnB (stN M.Oc M.Bc M.mr) z + 4) ≤ M.mz := by
    show min (40 * z) (stN M.Oc M.Bc M.mr) + 11 * z + (7 + min 40 (stN M.Oc M.Bc M.mr - 40 * z) + 4) ≤ _
    omega
  have hS : ∀ j, j < lnB (stN M.Oc M.Bc M.mr) z → 0 ≤ B.SB (min (40 * z) (stN M.Oc M.Bc M.mr) + j) ∧ B.SB (min (40 * z) (stN M.Oc M.Bc M.mr) + j) ≤ 255 := fun j hj => h.SBr (by have hj : j < min 40 (stN M.Oc M.Bc M.mr - 40 * z) := hj; omega)
  have hk40 : lnB (stN M.Oc M.Bc M.mr) z ≤ 40 := Nat.min_le_left _ _
  have hdk := w.dk z hz
  have hdb := w.db
  rw [w.ks z hz, Int.toNat_natCast]
  generalize lnB (stN M.Oc M.Bc M.mr) z = k at hend hS hk40 hdk ⊢
  generalize stB (stN M.Oc M.Bc M.mr) z = st at hend hdk ⊢
  generalize min (40 * z) (stN M.Oc M.Bc M.mr) = f at hS hdk
  have hDk : ∀ t, t < 7 + k + 4 → 0 ≤ M.Dk (st + t) ∧ M.Dk (st + t) ≤ 255 := fun t ht => h.Dkr w (by omega)
  have hor : sndN M.Dk B.sz st := snd_ok hk40 (by omega) hS hdk
  have hnum : numN M.Dk (st + 3) 2 = k := by
    rw [num2, show st + 3 + 1 = st + 4 by omega, hdk 3 (by omega), hdk 4 (by omega)]
    show (((k / 256 ^ 0 % 256 : Nat) : Int)).toNat + (((k / 256 ^ 1 % 256 : Nat) : Int)).toNat * 256 = k
    omega
  constructor
  · intro hs hin
    obtain ⟨m1, m2, m3⟩ := hin
    refine snd_bad (F := M.Dk) (F' := B.DB) (i := (M.mu / 8).toNat - st) hnum hor hDk (fun t ht => h.DBr _ (by omega)) (by omega) ?_ (fun t ht hti => ?_) hs
    · rw [show st + ((M.mu / 8).toNat - st) = (M.mu / 8).toNat by omega, hdb _ (by omega)]
      have hc : ((M.mu / 8).toNat : Int) = M.mu / 8 := by omega
      rw [hc]
      exact byN_ne (by have := hDk ((M.mu / 8).toNat - st) (by omega); rw [show st + ((M.mu / 8).toNat - st) = (M.mu / 8).toNat by omega] at this; exact this.1) ⟨m1, rfl⟩
    · rw [hdb _ (by omega), byN_no (by omega), Int.toNat_natCast]
  · intro hn
    have same : ∀ t, t < 7 + k + 4 → B.DB (st + t) = blkB B.SB f k t := fun t ht => by
      rw [hdb _ (by omega), byN_no (by omega), Int.toNat_natCast]
      exact hdk t ht
    exact snd_ok hk40 (by omega) hS same
end REL
