/-! the document's words in numbers: span, width, bins -/
def spanN (G : Nat → Int) : Nat → Int
  | 0 => 0
  | n + 1 => spanN G n + (if G n % 4 = 1 then 0 else G n / 4)
theorem spanN_step {G : Nat → Int} {n : Nat} (h : ¬ G n % 4 = 1) : spanN G (n + 1) = spanN G n + G n / 4 := by
  show spanN G n + (if G n % 4 = 1 then 0 else G n / 4) = _
  rw [if_neg h]
theorem spanN_skip {G : Nat → Int} {n : Nat} (h : G n % 4 = 1) : spanN G (n + 1) = spanN G n := by
  show spanN G n + (if G n % 4 = 1 then 0 else G n / 4) = _
  rw [if_pos h, Int.add_zero]
theorem spanN_rg {G : Nat → Int} {k : Nat} (h : ∀ i, i < k → 0 ≤ G i ∧ G i ≤ 255) : 0 ≤ spanN G k ∧ spanN G k ≤ 63 * k := by
  induction k with
  | zero => exact ⟨Int.le_refl _, by show (0 : Int) ≤ _; omega⟩
  | succ k ih =>
    have h1 := ih (fun i hi => h i (by omega))
    have h2 := h k (by omega)
    show 0 ≤ spanN G k + (if G k % 4 = 1 then 0 else G k / 4) ∧ spanN G k + (if G k % 4 = 1 then 0 else G k / 4) ≤ _
    split <;> omega
theorem spanN_congr {G G' : Nat → Int} {k : Nat} (h : ∀ i, i < k → G i = G' i) : spanN G k = spanN G' k := by
  induction k with
  | zero => rfl
  | succ k ih =>
    show spanN G k + (if G k % 4 = 1 then 0 else G k / 4) = spanN G' k + (if G' k % 4 = 1 then 0 else G' k / 4)
    rw [ih (fun i hi => h i (by omega)), h k (by omega)]
def widthN (G : Nat → Int) : Nat → Int
  | 0 => 0
  | n + 1 => widthN G n + (if G n % 4 = 0 ∨ G n % 4 = 1 then G n / 4 else 0)
theorem widthN_step {G : Nat → Int} {n : Nat} (h : G n % 4 = 0 ∨ G n % 4 = 1) : widthN G (n + 1) = widthN G n + G n / 4 := by
  show widthN G n + (if G n % 4 = 0 ∨ G n % 4 = 1 then G n / 4 else 0) = _
  rw [if_pos h]
theorem widthN_skip {G : Nat → Int} {n : Nat} (h : ¬ G n % 4 = 0) (h2 : ¬ G n % 4 = 1) : widthN G (n + 1) = widthN G n := by
  show widthN G n + (if G n % 4 = 0 ∨ G n % 4 = 1 then G n / 4 else 0) = _
  rw [if_neg (by omega), Int.add_zero]
theorem widthN_rg {G : Nat → Int} {k : Nat} (h : ∀ i, i < k → 0 ≤ G i ∧ G i ≤ 255) : 0 ≤ widthN G k ∧ widthN G k ≤ 63 * k := by
  induction k with
  | zero => exact ⟨Int.le_refl _, by show (0 : Int) ≤ _; omega⟩
  | succ k ih =>
    have h1 := ih (fun i hi => h i (by omega))
    have h2 := h k (by omega)
    show 0 ≤ widthN G k + (if G k % 4 = 0 ∨ G k % 4 = 1 then G k / 4 else 0) ∧ widthN G k + (if G k % 4 = 0 ∨ G k % 4 = 1 then G k / 4 else 0) ≤ _
    split <;> omega
/-- the bin of the places from a to before b -/
def binI (a b : Int) : Int := if a / 64 = (b - 1) / 64 then 9 + a / 64 else if a / 512 = (b - 1) / 512 then 1 + a / 512 else 0
theorem binI_rg {a b : Int} (h : 0 ≤ a ∧ a < b ∧ b ≤ 4096) : 0 ≤ binI a b ∧ binI a b ≤ 72 := by
  unfold binI
  split
  · omega
  · split <;> omega
/-- where a bin begins and ends -/
def binB (n : Int) : Int := if 9 ≤ n then 64 * (n - 9) else if 1 ≤ n then 512 * (n - 1) else 0
def binE (n : Int) : Int := if 9 ≤ n then 64 * (n - 9) + 64 else if 1 ≤ n then 512 * (n - 1) + 512 else 4096
theorem binB_rg {n : Int} (h : 0 ≤ n ∧ n ≤ 72) : 0 ≤ binB n ∧ binB n ≤ 4096 := by
  unfold binB
  split
  · omega
  · split <;> omega
theorem binE_rg {n : Int} (h : 0 ≤ n ∧ n ≤ 72) : 0 ≤ binE n ∧ binE n ≤ 4096 := by
  unfold binE
  split
  · omega
  · split <;> omega
/-- Math.max, Math.min -/
theorem bk_max {a b : Int} (ha : -2147483648 ≤ a ∧ a < 2147483648) (hb : -2147483648 ≤ b ∧ b < 2147483648) : (if iI a < iI b then iI b else iI a) = iI (max a b) := by
  by_cases h : a < b
  · rw [if_pos ((iI_lt ha hb).mpr h), Int.max_def, if_pos (by omega)]
  · rw [if_neg (fun q => h ((iI_lt ha hb).mp q)), Int.max_def]
    by_cases h2 : a ≤ b
    · rw [if_pos h2, show a = b by omega]
    · rw [if_neg h2]
theorem bk_min {a b : Int} (ha : -2147483648 ≤ a ∧ a < 2147483648) (hb : -2147483648 ≤ b ∧ b < 2147483648) : (if iI b < iI a then iI b else iI a) = iI (min a b) := by
  by_cases h : b < a
  · rw [if_pos ((iI_lt hb ha).mpr h), Int.min_def, if_neg (by omega)]
  · rw [if_neg (fun q => h ((iI_lt hb ha).mp q)), Int.min_def, if_pos (by omega)]
/-- the numbers from lo to before n that P holds of, in their order -/
def selN (P : Nat → Bool) (lo : Nat) : Nat → List Nat
  | 0 => []
  | n + 1 => selN P lo n ++ (if lo ≤ n ∧ P n = true then [n] else [])
theorem selN_yes {P : Nat → Bool} {lo n : Nat} (h : lo ≤ n) (hp : P n = true) : selN P lo (n + 1) = selN P lo n ++ [n] := by
  show selN P lo n ++ (if lo ≤ n ∧ P n = true then [n] else []) = _
  rw [if_pos ⟨h, hp⟩]
theorem selN_no {P : Nat → Bool} {lo n : Nat} (hp : ¬ P n = true) : selN P lo (n + 1) = selN P lo n := by
  show selN P lo n ++ (if lo ≤ n ∧ P n = true then [n] else []) = _
  rw [if_neg (fun q => hp q.2), List.append_nil]
theorem selN_lo {P : Nat → Bool} {lo n : Nat} (h : n ≤ lo) : selN P lo n = [] := by
  induction n with
  | zero => rfl
  | succ n ih =>
    show selN P lo n ++ (if lo ≤ n ∧ P n = true then [n] else []) = _
    rw [ih (by omega), if_neg (by omega)]
    rfl
theorem selN_len {P : Nat → Bool} {lo n : Nat} : (selN P lo n).length ≤ n := by
  induction n with
  | zero => exact Nat.le_refl _
  | succ n ih =>
    show (selN P lo n ++ (if lo ≤ n ∧ P n = true then [n] else [])).length ≤ _
    rw [List.length_append]
    split
    · show _ + 1 ≤ _
      omega
    · show _ + 0 ≤ _
      omega
theorem selN_mem {P : Nat → Bool} {lo n i : Nat} : i ∈ selN P lo n ↔ lo ≤ i ∧ i < n ∧ P i = true := by
  induction n with
  | zero =>
    constructor
    · intro h
      cases h
    · intro h
      omega
  | succ n ih =>
    show i ∈ selN P lo n ++ (if lo ≤ n ∧ P n = true then [n] else []) ↔ _
    rw [List.mem_append, ih]
    constructor
    · rintro (h | h)
      · exact ⟨h.1, by omega, h.2.2⟩
      · by_cases hc : lo ≤ n ∧ P n = true
        · rw [if_pos hc] at h
          have := List.mem_singleton.mp h
          subst this
          exact ⟨hc.1, by omega, hc.2⟩
        · rw [if_neg hc] at h
          cases h
    · rintro ⟨h1, h2, h3⟩
      by_cases hn : i = n
      · subst hn
        exact Or.inr (by rw [if_pos ⟨h1, h3⟩]; exact List.mem_singleton.mpr rfl)
      · exact Or.inl ⟨h1, by omega, h3⟩
theorem getD_mem {L : List Nat} {i : Nat} (h : i < L.length) : L.getD i 0 ∈ L := by
  rw [List.getD_eq_getElem?_getD, List.getElem?_eq_getElem h]
  exact List.getElem_mem h
theorem mem_getD {L : List Nat} {z : Nat} (h : z ∈ L) : ∃ i, i < L.length ∧ L.getD i 0 = z := by
  obtain ⟨i, hi, e⟩ := List.mem_iff_getElem.mp h
  exact ⟨i, hi, by rw [List.getD_eq_getElem?_getD, List.getElem?_eq_getElem hi]; exact e⟩
theorem getD_app {L L2 : List Nat} {i : Nat} (h : i < L.length) : (L ++ L2).getD i 0 = L.getD i 0 := by
  rw [List.getD_eq_getElem?_getD, List.getD_eq_getElem?_getD, List.getElem?_append_left h]
theorem getD_last {L : List Nat} {n : Nat} : (L ++ [n]).getD L.length 0 = n := by
  rw [List.getD_eq_getElem?_getD, List.getElem?_append_right (Nat.le_refl _), Nat.sub_self]
  rfl
/-- an array holds a list of places -/
def holdsL (F : Nat → Int) (L : List Nat) : Prop := ∀ k, k < L.length → F k = ((L.getD k 0 : Nat) : Int)
theorem holdsL_nil {F : Nat → Int} : holdsL F [] := fun k h => absurd h (Nat.not_lt_zero k)
theorem holdsL_push {F : Nat → Int} {L : List Nat} {n : Nat} (h : holdsL F L) : holdsL (bU F L.length (n : Int)) (L ++ [n]) := fun k hk => by
  rw [List.length_append] at hk
  have hk : k < L.length + 1 := hk
  by_cases e : k = L.length
  · subst e
    rw [bU_s]
    rw [getD_last]
  · rw [bU_n e, h k (by omega)]
    rw [getD_app (by omega)]
/-- bits of small numbers -/
theorem iI_n (n : Nat) : iI (n : Int) = nI n := Int32.ofInt_eq_ofNat
theorem iI_and255 {a : Int} (h : 0 ≤ a ∧ a < 2147483648) : iI a &&& iI 255 = iI (a % 256) := by
  obtain ⟨n, rfl⟩ := Int.eq_ofNat_of_zero_le h.1
  rw [iI_n, pk_andN (by omega) 8 (by decide), ← iI_n]
  exact congrArg iI (by omega)
theorem iI_and15 {a : Int} (h : 0 ≤ a ∧ a < 2147483648) : iI a &&& iI 15 = iI (a % 16) := by
  obtain ⟨n, rfl⟩ := Int.eq_ofNat_of_zero_le h.1
  rw [iI_n, pk_andN (by omega) 4 (by decide), ← iI_n]
  exact congrArg iI (by omega)
theorem iI_ushr8 {a : Int} (h : 0 ≤ a ∧ a < 2147483648) : ((iI a).toUInt32 >>> ((iI 8).toUInt32 &&& Int32.toUInt32 31)).toInt32 = iI (a / 256) := by
  obtain ⟨n, rfl⟩ := Int.eq_ofNat_of_zero_le h.1
  rw [iI_n, pk_ushrN (by omega) _ 8 (by decide), ← iI_n]
  exact congrArg iI (by omega)
theorem iI_ushr4 {a : Int} (h : 0 ≤ a ∧ a < 2147483648) : ((iI a).toUInt32 >>> ((iI 4).toUInt32 &&& Int32.toUInt32 31)).toInt32 = iI (a / 16) := by
  obtain ⟨n, rfl⟩ := Int.eq_ofNat_of_zero_le h.1
  rw [iI_n, pk_ushrN (by omega) _ 4 (by decide), ← iI_n]
  exact congrArg iI (by omega)
theorem iI_shr8 {a : Int} (h : 0 ≤ a ∧ a < 2147483648) : iI a >>> (iI 8 &&& 31) = iI (a / 256) := by
  obtain ⟨n, rfl⟩ := Int.eq_ofNat_of_zero_le h.1
  rw [iI_n, pk_shrN (by omega) _ 8 (by decide), ← iI_n]
  exact congrArg iI (by omega)
/-- byte j of a read's row -/
def rB (ref pos bin : Int) (no nb : Nat) (O B : Nat → Int) (j : Nat) : Int :=
  if j = 0 then ((6 + no + (nb + 1) / 2 : Nat) : Int) else if j = 1 then ref else if j = 2 then pos % 256 else if j = 3 then pos / 256 else if j = 4 then bin else if j = 5 then (no : Int) else if j = 6 then (nb : Int)
  else if j < 7 + no then O (j - 7) else 16 * B (2 * (j - 7 - no)) + (if 2 * (j - 7 - no) + 1 < nb then B (2 * (j - 7 - no) + 1) else 0)
/-- a row's length -/
abbrev rL (no nb : Nat) : Nat := 7 + no + (nb + 1) / 2
