/-! what a query looks at and finds: lists of reads -/
/-- the list is in order -/
theorem selN_up {P : Nat → Bool} {lo n i : Nat} (h : i + 1 < (selN P lo n).length) : (selN P lo n).getD i 0 < (selN P lo n).getD (i + 1) 0 := by
  induction n with
  | zero => exact absurd h (Nat.not_lt_zero _)
  | succ n ih =>
    by_cases hc : lo ≤ n ∧ P n = true
    · rw [selN_yes hc.1 hc.2] at h ⊢
      rw [List.length_append] at h
      have h : i + 1 < (selN P lo n).length + 1 := h
      by_cases e : i + 1 < (selN P lo n).length
      · rw [getD_app (by omega), getD_app e]
        exact ih e
      · rw [getD_app (by omega), show i + 1 = (selN P lo n).length by omega, getD_last]
        have h1 := selN_mem.mp (getD_mem (L := selN P lo n) (i := i) (by omega))
        exact h1.2.1
    · have e1 : selN P lo (n + 1) = selN P lo n := by
        show selN P lo n ++ (if lo ≤ n ∧ P n = true then [n] else []) = _
        rw [if_neg hc, List.append_nil]
      rw [e1] at h ⊢
      exact ih h
theorem selN_congr {P P' : Nat → Bool} {lo n : Nat} (h : ∀ i, lo ≤ i → i < n → P i = P' i) : selN P lo n = selN P' lo n := by
  induction n with
  | zero => rfl
  | succ n ih =>
    show selN P lo n ++ (if lo ≤ n ∧ P n = true then [n] else []) = selN P' lo n ++ (if lo ≤ n ∧ P' n = true then [n] else [])
    rw [ih (fun i h1 h2 => h i h1 (by omega))]
    by_cases hl : lo ≤ n
    · rw [h n hl (by omega)]
    · rw [if_neg (fun q => hl q.1), if_neg (fun q => hl q.1)]
/-- the first n of L of which ov holds -/
def fndL (L : List Nat) (ov : Nat → Bool) : Nat → List Nat
  | 0 => []
  | n + 1 => fndL L ov n ++ (if ov (L.getD n 0) = true then [L.getD n 0] else [])
theorem fndL_yes {L : List Nat} {ov : Nat → Bool} {n : Nat} (h : ov (L.getD n 0) = true) : fndL L ov (n + 1) = fndL L ov n ++ [L.getD n 0] := by
  show fndL L ov n ++ (if ov (L.getD n 0) = true then [L.getD n 0] else []) = _
  rw [if_pos h]
theorem fndL_no {L : List Nat} {ov : Nat → Bool} {n : Nat} (h : ¬ ov (L.getD n 0) = true) : fndL L ov (n + 1) = fndL L ov n := by
  show fndL L ov n ++ (if ov (L.getD n 0) = true then [L.getD n 0] else []) = _
  rw [if_neg h, List.append_nil]
theorem fndL_len {L : List Nat} {ov : Nat → Bool} {n : Nat} : (fndL L ov n).length ≤ n := by
  induction n with
  | zero => exact Nat.le_refl _
  | succ n ih =>
    by_cases h : ov (L.getD n 0) = true
    · rw [fndL_yes h, List.length_append]
      show _ + 1 ≤ _
      omega
    · rw [fndL_no h]
      omega
theorem fndL_app {L L2 : List Nat} {ov : Nat → Bool} {n : Nat} (h : n ≤ L.length) : fndL (L ++ L2) ov n = fndL L ov n := by
  induction n with
  | zero => rfl
  | succ n ih =>
    show fndL (L ++ L2) ov n ++ _ = fndL L ov n ++ _
    rw [ih (by omega), getD_app (by omega)]
theorem fndL_sel {P ov : Nat → Bool} {lo n : Nat} : fndL (selN P lo n) ov (selN P lo n).length = selN (fun z => P z && ov z) lo n := by
  induction n with
  | zero => rfl
  | succ n ih =>
    by_cases hc : lo ≤ n ∧ P n = true
    · rw [selN_yes hc.1 hc.2, List.length_append]
      show fndL (selN P lo n ++ [n]) ov ((selN P lo n).length + 1) = _
      by_cases h : ov n = true
      · rw [fndL_yes (by rw [getD_last]; exact h), getD_last, fndL_app (Nat.le_refl _), ih, selN_yes hc.1 (by show (P n && ov n) = true; rw [hc.2, h]; rfl)]
      · rw [fndL_no (by rw [getD_last]; exact h), fndL_app (Nat.le_refl _), ih, selN_no (fun q => h (by have q : (P n && ov n) = true := q; rw [hc.2] at q; exact q))]
    · have e1 : selN P lo (n + 1) = selN P lo n := by
        show selN P lo n ++ (if lo ≤ n ∧ P n = true then [n] else []) = _
        rw [if_neg hc, List.append_nil]
      have e2 : selN (fun z => P z && ov z) lo (n + 1) = selN (fun z => P z && ov z) lo n := by
        show selN (fun z => P z && ov z) lo n ++ (if lo ≤ n ∧ (P n && ov n) = true then [n] else []) = _
        rw [if_neg (fun q => hc ⟨q.1, (Bool.and_eq_true _ _ ▸ q.2).1⟩), List.append_nil]
      rw [e1, e2]
      exact ih
/-- starts of rows: one behind the other -/
theorem sN_mono {sN : Nat → Nat} {cn : Nat} (h : ∀ z, z < cn → sN z < sN (z + 1)) {z z' : Nat} (hz : z < z') (hc : z' ≤ cn) : sN (z + 1) ≤ sN z' := by
  induction z' with
  | zero => omega
  | succ w ih =>
    by_cases e : z = w
    · rw [e]
      exact Nat.le_refl _
    · have h1 := ih (by omega) (by omega)
      have h2 := h w (by omega)
      omega
theorem acs_step {S : Nat → Prop} {L : List Nat} {sN : Nat → Nat} {cn i nx : Nat} (hmo : ∀ z, z < cn → sN z < sN (z + 1)) (hL : ∀ q, q ≤ i → L.getD q 0 < cn) (hLs : ∀ q, q + 1 ≤ i → L.getD q 0 < L.getD (q + 1) 0) (hal : ∀ q, q < i → ∀ k, sN (L.getD q 0) / 40 ≤ k → k ≤ (sN (L.getD q 0 + 1) - 1) / 40 → S k) (hnx : nx = 0 ∨ (0 < i ∧ nx = (sN (L.getD (i - 1) 0 + 1) - 1) / 40 + 1)) (h68 : ∀ z : Nat, max nx (sN (L.getD i 0) / 40) ≤ z → (z : Int) ≤ (((sN (L.getD i 0 + 1) - 1) / 40 : Nat) : Int) → S z) : ∀ q, q < i + 1 → ∀ k, sN (L.getD q 0) / 40 ≤ k → k ≤ (sN (L.getD q 0 + 1) - 1) / 40 → S k := by
  intro q hq k h1 h2
  by_cases e : q = i
  · subst e
    by_cases h3 : nx ≤ k
    · exact h68 k (by omega) (by omega)
    · rcases hnx with hnx | ⟨hi0, hnx⟩
      · omega
      · obtain ⟨w, rfl⟩ : ∃ w, q = w + 1 := ⟨q - 1, by omega⟩
        rw [Nat.add_sub_cancel] at hnx
        have h4 := hLs w (by omega)
        have h5 := sN_mono hmo h4 (Nat.le_of_lt (hL (w + 1) (by omega)))
        have h6 := hmo (L.getD w 0) (hL w (by omega))
        exact hal w (by omega) k (by omega) (by omega)
  · exact hal q (by omega) k h1 h2
/-- the first of its kind is one -/
theorem first_one {C : Nat → Prop} {n i j : Nat} (hi : i ≤ n) (hi1 : ∀ z, z < i → ¬ C z) (hi2 : i < n → C i) (hj : j ≤ n) (hj1 : ∀ z, z < j → ¬ C z) (hj2 : j < n → C j) : i = j := by
  rcases Nat.lt_trichotomy i j with h | h | h
  · exact absurd (hi2 (by omega)) (hj1 i h)
  · exact h
  · exact absurd (hj2 (by omega)) (hi1 j h)
/-- a read more in the finding -/
theorem qry_push {F : List Nat} {n : Nat} {G2 G4 : Nat → Nat → Int} {O2 SB KS : Nat → Int} {sN : Nat → Nat} {v : Int} (h : ∀ q, q < F.length → (∀ t, t < sN (F.getD q 0 + 1) - sN (F.getD q 0) → G2 q t = SB (sN (F.getD q 0) + t)) ∧ O2 q = ((64 * (KS (sN (F.getD q 0) / 40)).toNat + sN (F.getD q 0) % 40 : Nat) : Int)) (h1 : ∀ z, z ≠ F.length → G4 z = G2 z) (h2 : ∀ t, t < sN (n + 1) - sN n → G4 F.length t = SB (sN n + t)) (hv : v = ((64 * (KS (sN n / 40)).toNat + sN n % 40 : Nat) : Int)) : ∀ q, q < (F ++ [n]).length → (∀ t, t < sN ((F ++ [n]).getD q 0 + 1) - sN ((F ++ [n]).getD q 0) → G4 q t = SB (sN ((F ++ [n]).getD q 0) + t)) ∧ bU O2 F.length v q = ((64 * (KS (sN ((F ++ [n]).getD q 0) / 40)).toNat + sN ((F ++ [n]).getD q 0) % 40 : Nat) : Int) := by
  intro q hq
  rw [List.length_append] at hq
  have hq : q < F.length + 1 := hq
  by_cases e : q = F.length
  · subst e
    rw [getD_last, bU_s]
    exact ⟨h2, hv⟩
  · rw [getD_app (by omega), bU_n e, h1 q e]
    exact h q (by omega)
