/-! words of 32 bits as iI (c : Int), c < 2^32; the sum of bytes; numbers in bytes -/
theorem bw_xor (a b : Nat) : nI a ^^^ nI b = nI (a ^^^ b) := Int32.toBitVec_inj.1 (BitVec.eq_of_toNat_eq (by
  show (BitVec.ofNat 32 a ^^^ BitVec.ofNat 32 b).toNat = (BitVec.ofNat 32 (a ^^^ b)).toNat
  simp [BitVec.toNat_xor, BitVec.toNat_ofNat, Nat.xor_mod_two_pow]))
theorem bw_or (a b : Nat) : nI a ||| nI b = nI (a ||| b) := Int32.toBitVec_inj.1 (BitVec.eq_of_toNat_eq (by
  show (BitVec.ofNat 32 a ||| BitVec.ofNat 32 b).toNat = (BitVec.ofNat 32 (a ||| b)).toNat
  simp [BitVec.toNat_or, BitVec.toNat_ofNat, Nat.or_mod_two_pow]))
theorem iI_inj32 {a b : Nat} (ha : a < 4294967296) (hb : b < 4294967296) (h : iI (a : Int) = iI (b : Int)) : a = b := by
  rw [iI_n, iI_n] at h
  have h2 : (nI a).toBitVec.toNat = (nI b).toBitVec.toNat := congrArg (fun x : Int32 => x.toBitVec.toNat) h
  rw [pk_tn (by omega), pk_tn (by omega)] at h2
  exact h2
theorem iI_xorN (a b : Nat) : iI (a : Int) ^^^ iI (b : Int) = iI ((a ^^^ b : Nat) : Int) := by rw [iI_n, iI_n, bw_xor, iI_n]
theorem iI_xorV (a : Nat) {v : Int} (hv : 0 ≤ v) : iI (a : Int) ^^^ iI v = iI ((a ^^^ v.toNat : Nat) : Int) := by
  obtain ⟨n, rfl⟩ := Int.eq_ofNat_of_zero_le hv
  exact iI_xorN a n
theorem iI_xorVV {v w : Int} (hv : 0 ≤ v) (hw : 0 ≤ w) : iI v ^^^ iI w = iI ((v.toNat ^^^ w.toNat : Nat) : Int) := by
  obtain ⟨n, rfl⟩ := Int.eq_ofNat_of_zero_le hv
  exact iI_xorV n hw
theorem iI_m1 : iI (-1) = iI ((4294967295 : Nat) : Int) := by decide
theorem iI_mask : iI (-306674912) = iI ((3988292384 : Nat) : Int) := by decide
theorem iI_xorM (a : Nat) : iI (a : Int) ^^^ iI (-306674912) = iI ((a ^^^ 3988292384 : Nat) : Int) := by rw [iI_mask, iI_xorN]
theorem iI_not (a : Nat) : iI (a : Int) ^^^ iI (-1) = iI ((a ^^^ 4294967295 : Nat) : Int) := by rw [iI_m1, iI_xorN]
theorem iI_and1 {a : Nat} (h : a < 4294967296) : iI (a : Int) &&& iI 1 = iI ((a % 2 : Nat) : Int) := by
  rw [iI_n, pk_andN (by omega) 1 (by decide), iI_n]
theorem iI_andB {a : Nat} (h : a < 4294967296) : iI (a : Int) &&& iI 255 = iI ((a % 256 : Nat) : Int) := by
  rw [iI_n, pk_andN (by omega) 8 (by decide), iI_n]
theorem iI_andW {a : Nat} (h : a < 4294967296) : iI (a : Int) &&& iI 65535 = iI ((a % 65536 : Nat) : Int) := by
  rw [iI_n, pk_andN (by omega) 16 (by decide), iI_n]
theorem iI_andm1 : iI (-1) &&& iI 255 = iI 255 := by decide
theorem iI_ushr1 {a : Nat} (h : a < 4294967296) : ((iI (a : Int)).toUInt32 >>> ((iI 1).toUInt32 &&& Int32.toUInt32 31)).toInt32 = iI ((a / 2 : Nat) : Int) := by
  rw [iI_n, pk_ushrN (by omega) _ 1 (by decide), iI_n]
/-- a word's byte i, 0 to 3 -/
theorem iI_ushrB {a i : Nat} (h : a < 4294967296) (hi : i < 4) : ((iI (a : Int)).toUInt32 >>> ((iI ((8 * i : Nat) : Int)).toUInt32 &&& Int32.toUInt32 31)).toInt32 = iI ((a / 256 ^ i : Nat) : Int) := by
  have hk : ∀ j, j < 4 → (((iI ((8 * j : Nat) : Int)).toUInt32 &&& Int32.toUInt32 31).toBitVec % 32).toNat = 8 * j := by decide
  rw [iI_n a, pk_ushrN (by omega) _ (8 * i) (hk i hi), iI_n, Nat.pow_mul]
theorem iI_shlB {a i : Nat} (h : a < 256) (hi : i < 4) : iI (a : Int) <<< (iI ((8 * i : Nat) : Int) &&& 31) = iI ((a * 256 ^ i : Nat) : Int) := by
  have hk : ∀ j, j < 4 → ((iI ((8 * j : Nat) : Int) &&& 31).toBitVec.smod 32).toNat = 8 * j := by decide
  have hp : (2 : Nat) ^ (8 * i) = 256 ^ i := by rw [Nat.pow_mul]
  have hb : (256 : Nat) ^ i ≤ 16777216 := by
    have h4 : ∀ j, j < 4 → 256 ^ j ≤ 16777216 := by decide
    exact h4 i hi
  rw [iI_n a, pk_shlN _ (8 * i) (hk i hi) (by rw [hp]; exact Nat.lt_of_le_of_lt (Nat.mul_le_mul (show a ≤ 255 by omega) hb) (by decide)), hp, iI_n]
theorem iI_shl1 {i : Int} (hi : 0 ≤ i ∧ i ≤ 7) : iI 1 <<< (iI i &&& 31) = iI ((2 ^ i.toNat : Nat) : Int) := by
  have hk : ∀ j, j < 8 → iI 1 <<< (iI ((j : Nat) : Int) &&& 31) = iI ((2 ^ j : Nat) : Int) := by decide
  obtain ⟨n, rfl⟩ := Int.eq_ofNat_of_zero_le hi.1
  exact hk n (by omega)
/-- one step of the sum; k steps; a byte; n bytes of F from f on -/
def crc1 (c : Nat) : Nat := if c % 2 = 1 then (c / 2) ^^^ 3988292384 else c / 2
def crcK (c : Nat) : Nat → Nat
  | 0 => c
  | k + 1 => crc1 (crcK c k)
def crcN (F : Nat → Int) (f : Nat) : Nat → Nat
  | 0 => 4294967295
  | n + 1 => crcK (crcN F f n ^^^ (F (f + n)).toNat) 8
theorem crcK_odd {c k : Nat} (h : crcK c k % 2 = 1) : crcK c (k + 1) = (crcK c k / 2) ^^^ 3988292384 := by
  show (if crcK c k % 2 = 1 then _ else _) = _
  rw [if_pos h]
theorem crcK_even {c k : Nat} (h : ¬ crcK c k % 2 = 1) : crcK c (k + 1) = crcK c k / 2 := by
  show (if crcK c k % 2 = 1 then _ else _) = _
  rw [if_neg h]
theorem xor32 {a b : Nat} (ha : a < 4294967296) (hb : b < 4294967296) : a ^^^ b < 4294967296 := Nat.xor_lt_two_pow (n := 32) ha hb
theorem crc1_lt {c : Nat} (h : c < 4294967296) : crc1 c < 4294967296 := by
  unfold crc1
  split
  · exact xor32 (by omega) (by decide)
  · omega
theorem crcK_lt {c k : Nat} (h : c < 4294967296) : crcK c k < 4294967296 := by
  induction k with
  | zero => exact h
  | succ k ih => exact crc1_lt ih
theorem crcN_lt {F : Nat → Int} {f n : Nat} (h : ∀ j, j < n → 0 ≤ F (f + j) ∧ F (f + j) ≤ 255) : crcN F f n < 4294967296 := by
  induction n with
  | zero => exact (by decide : (4294967295 : Nat) < 4294967296)
  | succ n ih =>
    have h1 := h n (by omega)
    exact crcK_lt (xor32 (ih (fun j hj => h j (by omega))) (by omega))
theorem crcN_congr {F F' : Nat → Int} {f f' n : Nat} (h : ∀ j, j < n → F (f + j) = F' (f' + j)) : crcN F f n = crcN F' f' n := by
  induction n with
  | zero => rfl
  | succ n ih =>
    show crcK (crcN F f n ^^^ (F (f + n)).toNat) 8 = crcK (crcN F' f' n ^^^ (F' (f' + n)).toNat) 8
    rw [ih (fun j hj => h j (by omega)), h n (by omega)]
/-- a step loses nothing -/
theorem crc1_inj {a b : Nat} (ha : a < 4294967296) (hb : b < 4294967296) (h : crc1 a = crc1 b) : a = b := by
  have top : ∀ x : Nat, x < 2147483648 → (x ^^^ 3988292384).testBit 31 = true := fun x hx => by
    rw [Nat.testBit_xor, Nat.testBit_lt_two_pow (show x < 2 ^ 31 from hx)]
    decide
  have low : ∀ x : Nat, x < 2147483648 → x.testBit 31 = false := fun x hx => Nat.testBit_lt_two_pow (show x < 2 ^ 31 from hx)
  unfold crc1 at h
  by_cases h1 : a % 2 = 1 <;> by_cases h2 : b % 2 = 1
  · rw [if_pos h1, if_pos h2] at h
    have h3 : a / 2 = b / 2 := by
      have := congrArg (fun z => z ^^^ 3988292384) h
      simpa [Nat.xor_assoc] using this
    omega
  · rw [if_pos h1, if_neg h2] at h
    have h3 := top (a / 2) (by omega)
    rw [h, low (b / 2) (by omega)] at h3
    cases h3
  · rw [if_neg h1, if_pos h2] at h
    have h3 := top (b / 2) (by omega)
    rw [← h, low (a / 2) (by omega)] at h3
    cases h3
  · rw [if_neg h1, if_neg h2] at h
    omega
theorem crcK_inj {a b k : Nat} (ha : a < 4294967296) (hb : b < 4294967296) (h : crcK a k = crcK b k) : a = b := by
  induction k with
  | zero => exact h
  | succ k ih => exact ih (crc1_inj (crcK_lt ha) (crcK_lt hb) h)
theorem xor_can {a b c : Nat} (h : a ^^^ c = b ^^^ c) : a = b := by
  have := congrArg (fun z => z ^^^ c) h
  simpa [Nat.xor_assoc] using this
theorem xor_can2 {a b c : Nat} (h : c ^^^ a = c ^^^ b) : a = b := by
  rw [Nat.xor_comm c a, Nat.xor_comm c b] at h
  exact xor_can h
/-- one byte that differs is noticed -/
theorem crcN_one {F F' : Nat → Int} {f n i : Nat} (hF : ∀ j, j < n → 0 ≤ F (f + j) ∧ F (f + j) ≤ 255) (hF' : ∀ j, j < n → 0 ≤ F' (f + j) ∧ F' (f + j) ≤ 255) (hi : i < n) (hne : F (f + i) ≠ F' (f + i)) (hsame : ∀ j, j < n → j ≠ i → F (f + j) = F' (f + j)) : crcN F f n ≠ crcN F' f n := by
  induction n with
  | zero => omega
  | succ n ih =>
    intro h
    have h1 := crcN_lt (F := F) (f := f) (n := n) (fun j hj => hF j (by omega))
    have h2 := crcN_lt (F := F') (f := f) (n := n) (fun j hj => hF' j (by omega))
    have h3 := hF n (by omega)
    have h4 := hF' n (by omega)
    have h5 : crcN F f n ^^^ (F (f + n)).toNat = crcN F' f n ^^^ (F' (f + n)).toNat := crcK_inj (xor32 h1 (by omega)) (xor32 h2 (by omega)) h
    by_cases e : i = n
    · subst e
      rw [crcN_congr (F := F) (F' := F') (f := f) (f' := f) (fun j hj => hsame j (by omega) (by omega))] at h5
      have h6 := xor_can2 h5
      exact hne (by omega)
    · rw [hsame n (by omega) (fun q => e q.symm)] at h5
      exact ih (fun j hj => hF j (by omega)) (fun j hj => hF' j (by omega)) (by omega) (fun j hj => hsame j (by omega)) (xor_can h5)
/-- the number in n bytes of F from f on, the lowest first -/
def numN (F : Nat → Int) (f : Nat) : Nat → Nat
  | 0 => 0
  | n + 1 => numN F f n + (F (f + n)).toNat * 256 ^ n
theorem numN_lt {F : Nat → Int} {f n : Nat} (h : ∀ j, j < n → 0 ≤ F (f + j) ∧ F (f + j) ≤ 255) : numN F f n < 256 ^ n := by
  induction n with
  | zero => exact (by decide : (0 : Nat) < 1)
  | succ n ih =>
    have h1 := ih (fun j hj => h j (by omega))
    have h2 := h n (by omega)
    show numN F f n + (F (f + n)).toNat * 256 ^ n < 256 ^ (n + 1)
    rw [Nat.pow_succ]
    have h3 : (F (f + n)).toNat * 256 ^ n ≤ 255 * 256 ^ n := Nat.mul_le_mul_right _ (by omega)
    omega
theorem or_add {a b n : Nat} (h : a < 256 ^ n) : a ||| b * 256 ^ n = a + b * 256 ^ n := by
  have hp : (256 : Nat) ^ n = 2 ^ (8 * n) := by rw [Nat.pow_mul]
  rw [hp] at h ⊢
  rw [Nat.or_comm, Nat.mul_comm, ← Nat.two_pow_add_eq_or_of_lt h, Nat.add_comm]
theorem iI_orB {a b n : Nat} (h : a < 256 ^ n) : iI (a : Int) ||| iI ((b * 256 ^ n : Nat) : Int) = iI ((a + b * 256 ^ n : Nat) : Int) := by
  rw [iI_n, iI_n, bw_or, or_add h, iI_n]
/-- bytes of c appended at z -/
def apN (F : Nat → Int) (z c k : Nat) : Nat → Int := fun j => if z ≤ j ∧ j < z + k then ((c / 256 ^ (j - z) % 256 : Nat) : Int) else F j
theorem apN_0 (F : Nat → Int) (z c : Nat) : apN F z c 0 = F := funext fun j => if_neg (by omega)
theorem apN_s (F : Nat → Int) (z c k : Nat) : bU (apN F z c k) (z + k) ((c / 256 ^ k % 256 : Nat) : Int) = apN F z c (k + 1) := by
  funext j
  unfold bU apN
  by_cases e : j = z + k
  · subst e
    rw [if_pos rfl, if_pos (by omega), Nat.add_sub_cancel_left]
  · rw [if_neg e]
    by_cases h : z ≤ j ∧ j < z + k
    · rw [if_pos h, if_pos (by omega)]
    · rw [if_neg h, if_neg (by omega)]
/-- byte t of the block of cnt bytes of F from f on -/
def blkB (F : Nat → Int) (f cnt t : Nat) : Int :=
  if t = 0 then 31 else if t = 1 then 139 else if t = 2 then 1 else if t < 5 then ((cnt / 256 ^ (t - 3) % 256 : Nat) : Int) else if t < 7 then (((cnt ^^^ 4294967295) / 256 ^ (t - 5) % 256 : Nat) : Int)
  else if t < 7 + cnt then F (f + (t - 7)) else (((crcN F f cnt ^^^ 4294967295) / 256 ^ (t - 7 - cnt) % 256 : Nat) : Int)
/-- SB from f on, t bytes of it, copied into F at z -/
def cpN (F : Nat → Int) (z : Nat) (SB : Nat → Int) (f t : Nat) : Nat → Int := fun j => if z ≤ j ∧ j < z + t then SB (f + (j - z)) else F j
theorem cpN_0 (F : Nat → Int) (z : Nat) (SB : Nat → Int) (f : Nat) : cpN F z SB f 0 = F := funext fun j => if_neg (by omega)
theorem cpN_s (F : Nat → Int) (z : Nat) (SB : Nat → Int) (f t : Nat) : bU (cpN F z SB f t) (z + t) (SB (f + t)) = cpN F z SB f (t + 1) := by
  funext j
  unfold bU cpN
  by_cases e : j = z + t
  · subst e
    rw [if_pos rfl, if_pos (by omega), Nat.add_sub_cancel_left]
  · rw [if_neg e]
    by_cases h : z ≤ j ∧ j < z + t
    · rw [if_pos h, if_pos (by omega)]
    · rw [if_neg h, if_neg (by omega)]
theorem cpN_in {F SB : Nat → Int} {z f t j : Nat} (h : j < t) : cpN F z SB f t (z + j) = SB (f + j) := by
  unfold cpN
  rw [if_pos (by omega), Nat.add_sub_cancel_left]
/-- what a disk is once a block is appended, in the steps in which it is written -/
def hdN (DB : Nat → Int) (sz k : Nat) : Nat → Int := apN (apN (bU (bU (bU DB sz 31) (sz + 1) 139) (sz + 1 + 1) 1) (sz + 1 + 1 + 1) k 2) (sz + 1 + 1 + 1 + 2) (k ^^^ 4294967295) 2
def bkN (DB SB : Nat → Int) (sz f k : Nat) : Nat → Int := apN (cpN (hdN DB sz k) (sz + 7) SB f k) (sz + 7 + k) (crcN SB f k ^^^ 4294967295) 4
theorem hdN_lo {DB : Nat → Int} {sz k j : Nat} (h : j < sz) : hdN DB sz k j = DB j := by
  unfold hdN apN bU
  rw [if_neg (by omega), if_neg (by omega), if_neg (by omega), if_neg (by omega), if_neg (by omega)]
theorem hdN_hi {DB : Nat → Int} {sz k t : Nat} (h : t < 7) : hdN DB sz k (sz + t) = blkB DB 0 k t := by
  unfold hdN apN bU blkB
  rcases (show t = 0 ∨ t = 1 ∨ t = 2 ∨ t = 3 ∨ t = 4 ∨ t = 5 ∨ t = 6 by omega) with rfl | rfl | rfl | rfl | rfl | rfl | rfl
  · rw [if_neg (by omega), if_neg (by omega), if_neg (by omega), if_neg (by omega), if_pos (by omega), if_pos rfl]
  · rw [if_neg (by omega), if_neg (by omega), if_neg (by omega), if_pos (by omega), if_neg (by omega), if_pos rfl]
  · rw [if_neg (by omega), if_neg (by omega), if_pos (by omega), if_neg (by omega), if_neg (by omega), if_pos rfl]
  · rw [if_neg (by omega), if_pos (by omega), if_neg (by omega), if_neg (by omega), if_neg (by omega), if_pos (by omega), show sz + 3 - (sz + 1 + 1 + 1) = 3 - 3 by omega]
  · rw [if_neg (by omega), if_pos (by omega), if_neg (by omega), if_neg (by omega), if_neg (by omega), if_pos (by omega), show sz + 4 - (sz + 1 + 1 + 1) = 4 - 3 by omega]
  · rw [if_pos (by omega), if_neg (by omega), if_neg (by omega), if_neg (by omega), if_neg (by omega), if_pos (by omega), show sz + 5 - (sz + 1 + 1 + 1 + 2) = 5 - 5 by omega]
  · rw [if_pos (by omega), if_neg (by omega), if_neg (by omega), if_neg (by omega), if_neg (by omega), if_pos (by omega), show sz + 6 - (sz + 1 + 1 + 1 + 2) = 6 - 5 by omega]
theorem blkB_head {F F' : Nat → Int} {f f' k t : Nat} (h : t < 7) : blkB F f k t = blkB F' f' k t := by
  unfold blkB
  rcases (show t = 0 ∨ t = 1 ∨ t = 2 ∨ t = 3 ∨ t = 4 ∨ t = 5 ∨ t = 6 by omega) with rfl | rfl | rfl | rfl | rfl | rfl | rfl <;> rfl
theorem blkB_rg {F : Nat → Int} {f k t : Nat} (hF : ∀ j, j < k → 0 ≤ F (f + j) ∧ F (f + j) ≤ 255) : 0 ≤ blkB F f k t ∧ blkB F f k t ≤ 255 := by
  unfold blkB
  split
  · omega
  · split
    · omega
    · split
      · omega
      · split
        · omega
        · split
          · omega
          · split
            · exact hF (t - 7) (by omega)
            · omega
theorem blk_cp {DB SB : Nat → Int} {sz sl f k n : Nat} (hDB : ∀ j, j < sz → 0 ≤ DB j ∧ DB j ≤ 255) (hSB : ∀ j, j < sl → 0 ≤ SB j ∧ SB j ≤ 255) (hfk : f + k ≤ sl) (hn : n ≤ sz + 7 + k) : ∀ j, j < n → 0 ≤ cpN (hdN DB sz k) (sz + 7) SB f k j ∧ cpN (hdN DB sz k) (sz + 7) SB f k j ≤ 255 := by
  intro j hj
  unfold cpN
  by_cases h : sz + 7 ≤ j ∧ j < sz + 7 + k
  · rw [if_pos h]
    exact hSB _ (by omega)
  · rw [if_neg h]
    by_cases h2 : j < sz
    · rw [hdN_lo h2]
      exact hDB j h2
    · obtain ⟨t, rfl⟩ : ∃ t, j = sz + t := ⟨j - sz, by omega⟩
      rw [hdN_hi (show t < 7 by omega), blkB_head (F' := SB) (f' := f) (show t < 7 by omega)]
      exact blkB_rg (fun j hj => hSB _ (by omega))
theorem bkN_lo {DB SB : Nat → Int} {sz f k j : Nat} (h : j < sz) : bkN DB SB sz f k j = DB j := by
  unfold bkN apN cpN
  rw [if_neg (by omega), if_neg (by omega), hdN_lo h]
theorem bkN_hi {DB SB : Nat → Int} {sz f k t : Nat} (h : t < k + 11) : bkN DB SB sz f k (sz + t) = blkB SB f k t := by
  by_cases h7 : t < 7
  · unfold bkN apN cpN
    rw [if_neg (by omega), if_neg (by omega), hdN_hi h7]
    exact blkB_head h7
  · unfold bkN apN cpN blkB
    rw [if_neg (show ¬ t = 0 by omega), if_neg (show ¬ t = 1 by omega), if_neg (show ¬ t = 2 by omega), if_neg (show ¬ t < 5 by omega), if_neg h7]
    by_cases hk : t < 7 + k
    · rw [if_neg (by omega), if_pos (by omega), if_pos hk, show sz + t - (sz + 7) = t - 7 by omega]
    · rw [if_pos (by omega), if_neg hk, show sz + t - (sz + 7 + k) = t - 7 - k by omega]
/-- the check of the block that begins at st -/
def sndN (DB : Nat → Int) (sz st : Nat) : Prop := DB st = 31 ∧ DB (st + 1) = 139 ∧ DB (st + 2) = 1 ∧ numN DB (st + 5) 2 = (numN DB (st + 3) 2 ^^^ 4294967295) % 65536 ∧ st + 7 + numN DB (st + 3) 2 + 4 ≤ sz ∧ numN DB (st + 7 + numN DB (st + 3) 2) 4 = crcN DB (st + 7) (numN DB (st + 3) 2) ^^^ 4294967295
/-- byte j of the stream, as it lies on the disk -/
def sbD (DB KS : Nat → Int) (j : Nat) : Int := DB ((KS (j / 40)).toNat + 7 + j % 40)
theorem rwF_some {R : Nat → Nat} {j : Nat} (h : j < 24) : rwF R j = some (R j) := if_pos h
theorem gU_ne {G : Nat → Nat → Int} {k j z : Nat} {v : Int} (h : z ≠ k) : gU G k j v z = G z := if_neg h
theorem gU_row {G : Nat → Nat → Int} {S : Nat → Int} {k i t : Nat} (h : ∀ t, t < i → G k t = S t) (ht : t < i + 1) : gU G k i (S i) k t = S t := by
  unfold gU
  rw [if_pos rfl]
  by_cases e : t = i
  · subst e
    exact bU_s
  · rw [bU_n e]
    exact h t (by omega)
/-- the reference's sum of the lengths of ops of three kinds -/
def sumK (K L : Nat → Int) (x y z : Int) : Nat → Int
  | 0 => 0
  | n + 1 => sumK K L x y z n + (if K n = x ∨ K n = y ∨ K n = z then L n else 0)
theorem sumK_yes {K L : Nat → Int} {x y z : Int} {n : Nat} (h : K n = x ∨ K n = y ∨ K n = z) : sumK K L x y z (n + 1) = sumK K L x y z n + L n := by
  show sumK K L x y z n + (if K n = x ∨ K n = y ∨ K n = z then L n else 0) = _
  rw [if_pos h]
theorem sumK_no {K L : Nat → Int} {x y z : Int} {n : Nat} (h : ¬ (K n = x ∨ K n = y ∨ K n = z)) : sumK K L x y z (n + 1) = sumK K L x y z n := by
  show sumK K L x y z n + (if K n = x ∨ K n = y ∨ K n = z then L n else 0) = _
  rw [if_neg h, Int.add_zero]
theorem sumK_rg {K L : Nat → Int} {x y z : Int} {n : Nat} (h : ∀ t, t < n → 1 ≤ L t ∧ L t ≤ 63) : 0 ≤ sumK K L x y z n ∧ sumK K L x y z n ≤ 63 * n := by
  induction n with
  | zero => exact ⟨Int.le_refl _, by show (0 : Int) ≤ _; omega⟩
  | succ n ih =>
    have h1 := ih (fun t ht => h t (by omega))
    have h2 := h n (by omega)
    show 0 ≤ sumK K L x y z n + (if K n = x ∨ K n = y ∨ K n = z then L n else 0) ∧ sumK K L x y z n + (if K n = x ∨ K n = y ∨ K n = z then L n else 0) ≤ _
    split <;> omega
/-- byte k of a disk of which the bit u (8 * byte + bit, or -1) is turned -/
def byN (Dk : Nat → Int) (u k : Int) : Int := if 0 ≤ u ∧ u / 8 = k then (((Dk k.toNat).toNat ^^^ ((2 ^ (u % 8).toNat : Nat) : Int).toNat : Nat) : Int) else Dk k.toNat
theorem byN_yes {Dk : Nat → Int} {u k : Int} (h : 0 ≤ u ∧ u / 8 = k) : byN Dk u k = (((Dk k.toNat).toNat ^^^ ((2 ^ (u % 8).toNat : Nat) : Int).toNat : Nat) : Int) := if_pos h
theorem byN_no {Dk : Nat → Int} {u k : Int} (h : ¬ (0 ≤ u ∧ u / 8 = k)) : byN Dk u k = Dk k.toNat := if_neg h
theorem bin_facts (n : Int) : (9 ≤ n → binB n = 64 * (n - 9) ∧ binE n = 64 * (n - 9) + 64) ∧ (1 ≤ n → n < 9 → binB n = 512 * (n - 1) ∧ binE n = 512 * (n - 1) + 512) ∧ (n < 1 → binB n = 0 ∧ binE n = 4096) := by
  unfold binB binE
  refine ⟨fun h => ?_, fun h1 h2 => ?_, fun h => ?_⟩
  · rw [if_pos h, if_pos h]
    exact ⟨rfl, rfl⟩
  · rw [if_neg (by omega), if_pos h1, if_neg (by omega), if_pos h1]
    exact ⟨rfl, rfl⟩
  · rw [if_neg (by omega), if_neg (by omega), if_neg (by omega), if_neg (by omega)]
    exact ⟨rfl, rfl⟩
/-- what found tells of read r -/
def fndN (Bg Ps En Oc Bc : Nat → Int) (r : Nat) (v : Int) : Int := if v = 0 then 3264 * (Bg r / 40) + Bg r % 40 else if v = 1 then Ps r else if v = 2 then binI (Ps r) (En r) else if v = 3 then En r else if v = 4 then Oc r else if v = 5 then Bc r else -1
/-- a row's first seven bytes, as they are appended -/
def r7N (v0 : Int) (SB : Nat → Int) (sl : Nat) (x y b : Int) (no nb : Nat) : Nat → Int := bU (bU (bU (bU (bU (bU (bU SB sl v0) (sl + 1) x) (sl + 1 + 1) (y % 256)) (sl + 1 + 1 + 1) (y / 256)) (sl + 1 + 1 + 1 + 1) b) (sl + 1 + 1 + 1 + 1 + 1) (no : Int)) (sl + 1 + 1 + 1 + 1 + 1 + 1) (nb : Int)
theorem r7_lo {v0 : Int} {SB : Nat → Int} {sl : Nat} {x y b : Int} {no nb j : Nat} (h : j < sl) : r7N v0 SB sl x y b no nb j = SB j := by
  unfold r7N
  rw [bU_n (by omega), bU_n (by omega), bU_n (by omega), bU_n (by omega), bU_n (by omega), bU_n (by omega), bU_n (by omega)]
theorem r7_hi {v0 : Int} {SB : Nat → Int} {sl : Nat} {x y b : Int} {no nb j : Nat} {O B : Nat → Int} (h1 : 1 ≤ j) (h2 : j < 7) : r7N v0 SB sl x y b no nb (sl + j) = rB x y b no nb O B j := by
  unfold r7N rB bU
  rcases (show j = 1 ∨ j = 2 ∨ j = 3 ∨ j = 4 ∨ j = 5 ∨ j = 6 by omega) with rfl | rfl | rfl | rfl | rfl | rfl
  · rw [if_neg (by omega), if_neg (by omega), if_neg (by omega), if_neg (by omega), if_neg (by omega), if_pos (by omega)]
    rfl
  · rw [if_neg (by omega), if_neg (by omega), if_neg (by omega), if_neg (by omega), if_pos (by omega)]
    rfl
  · rw [if_neg (by omega), if_neg (by omega), if_neg (by omega), if_pos (by omega)]
    rfl
  · rw [if_neg (by omega), if_neg (by omega), if_pos (by omega)]
    rfl
  · rw [if_neg (by omega), if_pos (by omega)]
    rfl
  · rw [if_pos (by omega)]
    rfl
theorem rB_op {x y b : Int} {no nb i : Nat} {O B : Nat → Int} (h : i < no) : rB x y b no nb O B (7 + i) = O i := by
  unfold rB
  rw [if_neg (by omega), if_neg (by omega), if_neg (by omega), if_neg (by omega), if_neg (by omega), if_neg (by omega), if_neg (by omega), if_pos (by omega), Nat.add_sub_cancel_left]
theorem rB_pair {x y b : Int} {no nb t : Nat} {O B : Nat → Int} : rB x y b no nb O B (7 + no + t) = 16 * B (2 * t) + (if 2 * t + 1 < nb then B (2 * t + 1) else 0) := by
  unfold rB
  rw [if_neg (by omega), if_neg (by omega), if_neg (by omega), if_neg (by omega), if_neg (by omega), if_neg (by omega), if_neg (by omega), if_neg (by omega), show 7 + no + t - 7 - no = t by omega]
theorem row_up {S2 f : Nat → Int} {sl n : Nat} {v : Int} (h : ∀ j, 1 ≤ j → j < n → S2 (sl + j) = f j) (hv : v = f n) : ∀ j, 1 ≤ j → j < n + 1 → bU S2 (sl + n) v (sl + j) = f j := fun j h1 h2 => by
  by_cases e : j = n
  · subst e
    rw [bU_s, hv]
  · rw [bU_n (by omega)]
    exact h j h1 (by omega)
theorem r7_hi0 {SB : Nat → Int} {sl : Nat} {x y b : Int} {no nb j : Nat} {O B : Nat → Int} (h2 : j < 7) : r7N ((6 + no + (nb + 1) / 2 : Nat) : Int) SB sl x y b no nb (sl + j) = rB x y b no nb O B j := by
  by_cases h : j = 0
  · subst h
    unfold r7N rB bU
    rw [if_neg (by omega), if_neg (by omega), if_neg (by omega), if_neg (by omega), if_neg (by omega), if_neg (by omega), if_pos (by omega), if_pos rfl]
  · exact r7_hi (by omega) h2
theorem row_up0 {S2 f : Nat → Int} {sl n : Nat} {v : Int} (h : ∀ j, j < n → S2 (sl + j) = f j) (hv : v = f n) : ∀ j, j < n + 1 → bU S2 (sl + n) v (sl + j) = f j := fun j h2 => by
  by_cases e : j = n
  · subst e
    rw [bU_s, hv]
  · rw [bU_n (by omega)]
    exact h j (by omega)
theorem lo_up {S2 SB : Nat → Int} {sl n : Nat} {v : Int} (h : ∀ j, j < sl → S2 j = SB j) : ∀ j, j < sl → bU S2 (sl + n) v j = SB j := fun j hj => (bU_n (by omega)).trans (h j hj)
/-- a byte of a word, by an arithmetic shift -/
theorem sarB {c i : Nat} (h : c < 4294967296) (hi : i < 4) : (iI (c : Int) >>> (iI ((8 * i : Nat) : Int) &&& 31)) &&& iI 255 = iI ((c / 256 ^ i % 256 : Nat) : Int) := by
  have hk : ∀ j, j < 4 → ((iI ((8 * j : Nat) : Int) &&& 31).toBitVec.smod 32).toNat = 8 * j := by decide
  have h1 := pk_shr (iI (c : Int)) (iI ((8 * i : Nat) : Int) &&& 31) (8 * i) (hk i hi)
  have hm : (iI 255).toBitVec.toNat = 2 ^ 8 - 1 := by decide
  generalize (iI (c : Int) >>> (iI ((8 * i : Nat) : Int) &&& 31)) = x at h1 ⊢
  rw [pk_and _ 8 hm, iI_n]
  refine congrArg nI ?_
  have e1 : (iI (c : Int)).toBitVec.toNat = c := by rw [iI_n]; exact pk_tn h
  have e2 : (iI (c : Int)).toInt = if 2 * c < 4294967296 then (c : Int) else (c : Int) - 4294967296 := by
    show (iI (c : Int)).toBitVec.toInt = _
    rw [BitVec.toInt_eq_toNat_cond, e1]
    rfl
  have e3 : x.toInt = if 2 * x.toBitVec.toNat < 4294967296 then (x.toBitVec.toNat : Int) else (x.toBitVec.toNat : Int) - 4294967296 := by
    show x.toBitVec.toInt = _
    rw [BitVec.toInt_eq_toNat_cond]
    rfl
  rw [Int.shiftRight_eq_div_pow, e2, e3] at h1
  have hx := x.toBitVec.isLt
  generalize x.toBitVec.toNat = y at h1 hx ⊢
  rcases (show i = 0 ∨ i = 1 ∨ i = 2 ∨ i = 3 by omega) with rfl | rfl | rfl | rfl
  · have h2 : (if 2 * y < 4294967296 then (y : Int) else (y : Int) - 4294967296) = (if 2 * c < 4294967296 then (c : Int) else (c : Int) - 4294967296) / 1 := h1
    show y % 256 = c / 1 % 256
    split at h2 <;> split at h2 <;> omega
  · have h2 : (if 2 * y < 4294967296 then (y : Int) else (y : Int) - 4294967296) = (if 2 * c < 4294967296 then (c : Int) else (c : Int) - 4294967296) / 256 := h1
    show y % 256 = c / 256 % 256
    split at h2 <;> split at h2 <;> omega
  · have h2 : (if 2 * y < 4294967296 then (y : Int) else (y : Int) - 4294967296) = (if 2 * c < 4294967296 then (c : Int) else (c : Int) - 4294967296) / 65536 := h1
    show y % 256 = c / 65536 % 256
    split at h2 <;> split at h2 <;> omega
  · have h2 : (if 2 * y < 4294967296 then (y : Int) else (y : Int) - 4294967296) = (if 2 * c < 4294967296 then (c : Int) else (c : Int) - 4294967296) / 16777216 := h1
    show y % 256 = c / 16777216 % 256
    split at h2 <;> split at h2 <;> omega
theorem and255s {a : Int} (h : 0 ≤ a ∧ a ≤ 255) : iI a &&& iI 255 = iI ((a.toNat : Nat) : Int) := by
  rw [iI_and255 (by omega)]
  exact congrArg iI (by omega)
/-- a block's first seven bytes, as the reference stores them -/
def m7N (Dk : Nat → Int) (mz n : Nat) : Nat → Int := bU (bU (bU (bU (bU (bU (bU Dk mz ((31 : Nat) : Int)) (mz + 1) ((139 : Nat) : Int)) (mz + 1 + 1) ((1 : Nat) : Int)) (mz + 1 + 1 + 1) ((n % 256 : Nat) : Int)) (mz + 1 + 1 + 1 + 1) ((n / 256 ^ 1 % 256 : Nat) : Int)) (mz + 1 + 1 + 1 + 1 + 1) (((n ^^^ 4294967295) % 256 : Nat) : Int)) (mz + 1 + 1 + 1 + 1 + 1 + 1) (((n ^^^ 4294967295) / 256 ^ 1 % 256 : Nat) : Int)
theorem m7_lo {Dk : Nat → Int} {mz n j : Nat} (h : j < mz) : m7N Dk mz n j = Dk j := by
  unfold m7N
  rw [bU_n (by omega), bU_n (by omega), bU_n (by omega), bU_n (by omega), bU_n (by omega), bU_n (by omega), bU_n (by omega)]
theorem m7_hi {Dk Sm : Nat → Int} {mz f n j : Nat} (h : j < 7) : m7N Dk mz n (mz + j) = blkB Sm f n j := by
  unfold m7N blkB bU
  rcases (show j = 0 ∨ j = 1 ∨ j = 2 ∨ j = 3 ∨ j = 4 ∨ j = 5 ∨ j = 6 by omega) with rfl | rfl | rfl | rfl | rfl | rfl | rfl
  · rw [if_neg (by omega), if_neg (by omega), if_neg (by omega), if_neg (by omega), if_neg (by omega), if_neg (by omega), if_pos (by omega)]
    rfl
  · rw [if_neg (by omega), if_neg (by omega), if_neg (by omega), if_neg (by omega), if_neg (by omega), if_pos (by omega)]
    rfl
  · rw [if_neg (by omega), if_neg (by omega), if_neg (by omega), if_neg (by omega), if_pos (by omega)]
    rfl
  · rw [if_neg (by omega), if_neg (by omega), if_neg (by omega), if_pos (by omega)]
    show _ = ((n / 1 % 256 : Nat) : Int)
    rw [Nat.div_one]
  · rw [if_neg (by omega), if_neg (by omega), if_pos (by omega)]
    rfl
  · rw [if_neg (by omega), if_pos (by omega)]
    show _ = (((n ^^^ 4294967295) / 1 % 256 : Nat) : Int)
    rw [Nat.div_one]
  · rw [if_pos (by omega)]
    rfl
theorem blkB_piece {F : Nat → Int} {f n t : Nat} (h : t < n) : blkB F f n (7 + t) = F (f + t) := by
  unfold blkB
  rw [if_neg (by omega), if_neg (by omega), if_neg (by omega), if_neg (by omega), if_neg (by omega), if_pos (by omega), Nat.add_sub_cancel_left]
theorem blkB_tail {F : Nat → Int} {f n k : Nat} : blkB F f n (7 + n + k) = (((crcN F f n ^^^ 4294967295) / 256 ^ k % 256 : Nat) : Int) := by
  unfold blkB
  rw [if_neg (by omega), if_neg (by omega), if_neg (by omega), if_neg (by omega), if_neg (by omega), if_neg (by omega), show 7 + n + k - 7 - n = k by omega]
/-- blocks written one behind the other -/
theorem wr_blk {D2 SB : Nat → Int} {sl b zz : Nat} (h : ∀ z, z < b → ∀ t, t < (min 40 (sl - 40 * z)) + 11 → D2 (51 * z + t) = blkB SB (40 * z) (min 40 (sl - 40 * z)) t) (hz : zz = 51 * b) : ∀ z, z < b + 1 → ∀ t, t < (min 40 (sl - 40 * z)) + 11 → bkN D2 SB zz (40 * b) (min 40 (sl - 40 * b)) (51 * z + t) = blkB SB (40 * z) (min 40 (sl - 40 * z)) t := by
  intro z hzb t ht
  subst hz
  by_cases e : z = b
  · subst e
    exact bkN_hi ht
  · rw [bkN_lo (by omega)]
    exact h z (by omega) t ht
theorem wr_ks {K2 : Nat → Int} {b zz : Nat} (h : ∀ z, z < b → K2 z = ((51 * z : Nat) : Int)) (hz : zz = 51 * b) : ∀ z, z < b + 1 → bU K2 b (zz : Int) z = ((51 * z : Nat) : Int) := by
  intro z hzb
  subst hz
  by_cases e : z = b
  · subst e
    exact bU_s
  · rw [bU_n e]
    exact h z (by omega)
theorem wr_rg {D2 SB : Nat → Int} {zz sl f k : Nat} (h : ∀ j, j < zz → 0 ≤ D2 j ∧ D2 j ≤ 255) (hS : ∀ j, j < sl → 0 ≤ SB j ∧ SB j ≤ 255) (hk : f + k ≤ sl) : ∀ j, j < zz + 7 + k + 4 → 0 ≤ bkN D2 SB zz f k j ∧ bkN D2 SB zz f k j ≤ 255 := by
  intro j hj
  by_cases e : j < zz
  · rw [bkN_lo e]
    exact h j e
  · obtain ⟨t, rfl⟩ : ∃ t, j = zz + t := ⟨j - zz, by omega⟩
    rw [bkN_hi (by omega)]
    exact blkB_rg (fun i hi => hS _ (by omega))
theorem wr_end {D2 K2 SB : Nat → Int} {sl : Nat} (hb : ∀ z, z < (sl + 39) / 40 → ∀ t, t < (min 40 (sl - 40 * z)) + 11 → D2 (51 * z + t) = blkB SB (40 * z) (min 40 (sl - 40 * z)) t) (hk : ∀ z, z < (sl + 39) / 40 → K2 z = ((51 * z : Nat) : Int)) (hr : ∀ j, j < sl + 11 * ((sl + 39) / 40) → 0 ≤ D2 j ∧ D2 j ≤ 255) (hS : ∀ j, j < sl → 0 ≤ SB j ∧ SB j ≤ 255) :
    (∀ z, z < (sl + 39) / 40 → ∀ t, t < (min 40 (sl - 40 * z)) + 11 → bkN D2 SB (sl + 11 * ((sl + 39) / 40)) sl 0 (51 * z + t) = blkB SB (40 * z) (min 40 (sl - 40 * z)) t) ∧ (∀ t, t < 11 → bkN D2 SB (sl + 11 * ((sl + 39) / 40)) sl 0 (sl + 11 * ((sl + 39) / 40) + t) = blkB SB sl 0 t) ∧ (∀ z, z < (sl + 39) / 40 → bU K2 ((sl + 39) / 40) ((sl + 11 * ((sl + 39) / 40) : Nat) : Int) z = ((51 * z : Nat) : Int)) ∧ bU K2 ((sl + 39) / 40) ((sl + 11 * ((sl + 39) / 40) : Nat) : Int) ((sl + 39) / 40) = ((sl + 11 * ((sl + 39) / 40) : Nat) : Int) ∧ (∀ j, j < sl + 11 * ((sl + 39) / 40) + 11 → 0 ≤ bkN D2 SB (sl + 11 * ((sl + 39) / 40)) sl 0 j ∧ bkN D2 SB (sl + 11 * ((sl + 39) / 40)) sl 0 j ≤ 255) := by
  refine ⟨fun z hz t ht => ?_, fun t ht => bkN_hi (by omega), fun z hz => ?_, bU_s, fun j hj => ?_⟩
  · rw [bkN_lo (by omega)]
    exact hb z hz t ht
  · rw [bU_n (by omega)]
    exact hk z hz
  · exact wr_rg (f := sl) (k := 0) hr hS (by omega) j (by omega)
/-- the reference's rows: lengths, starts, bytes -/
def rLI (Oc Bc : Nat → Int) (i : Nat) : Nat := 7 + (Oc i).toNat + ((Bc i).toNat + 1) / 2
def stN (Oc Bc : Nat → Int) : Nat → Nat
  | 0 => 0
  | i + 1 => stN Oc Bc i + rLI Oc Bc i
def rowN (Rf Ps En Oc Ob Bc Bd : Nat → Int) (i : Nat) : Nat → Int := rB (Rf i) (Ps i) (binI (Ps i) (En i)) (Oc i).toNat (Bc i).toNat (fun z => Ob (3 * i + z)) (fun z => Bd (24 * i + z))
theorem stN_le {Oc Bc : Nat → Int} {n : Nat} (h : ∀ i, i < n → (0 ≤ Oc i ∧ Oc i ≤ 3) ∧ (0 ≤ Bc i ∧ Bc i ≤ 24)) {i : Nat} (hi : i ≤ n) : stN Oc Bc i ≤ 22 * i := by
  induction i with
  | zero => exact Nat.le_refl _
  | succ i ih =>
    have h1 := ih (by omega)
    have h2 := h i (by omega)
    show stN Oc Bc i + (7 + (Oc i).toNat + ((Bc i).toNat + 1) / 2) ≤ _
    omega
theorem stN_mono {Oc Bc : Nat → Int} {i j : Nat} (h : i ≤ j) : stN Oc Bc i + 7 * (j - i) ≤ stN Oc Bc j := by
  induction j with
  | zero =>
    rw [show i = 0 by omega]
    exact Nat.le_refl _
  | succ j ih =>
    by_cases e : i = j + 1
    · subst e
      omega
    · have h1 := ih (by omega)
      show _ ≤ stN Oc Bc j + (7 + (Oc j).toNat + ((Bc j).toNat + 1) / 2)
      omega
theorem stN_congr {Oc Bc Oc' Bc' : Nat → Int} {n : Nat} (h : ∀ i, i < n → Oc i = Oc' i ∧ Bc i = Bc' i) : stN Oc Bc n = stN Oc' Bc' n := by
  induction n with
  | zero => rfl
  | succ n ih =>
    show stN Oc Bc n + (7 + (Oc n).toNat + ((Bc n).toNat + 1) / 2) = stN Oc' Bc' n + (7 + (Oc' n).toNat + ((Bc' n).toNat + 1) / 2)
    rw [ih (fun i hi => h i (by omega)), (h n (by omega)).1, (h n (by omega)).2]
/-- every byte of the stream is a byte of some row -/
theorem st_in {Oc Bc : Nat → Int} {n j : Nat} (h : j < stN Oc Bc n) : ∃ i k, i < n ∧ k < rLI Oc Bc i ∧ j = stN Oc Bc i + k := by
  induction n with
  | zero => exact absurd h (Nat.not_lt_zero j)
  | succ n ih =>
    by_cases e : j < stN Oc Bc n
    · obtain ⟨i, k, h1, h2, h3⟩ := ih e
      exact ⟨i, k, by omega, h2, h3⟩
    · have h1 : j < stN Oc Bc n + rLI Oc Bc n := h
      exact ⟨n, j - stN Oc Bc n, by omega, by omega, by omega⟩
/-- a row more: starts and bytes -/
theorem fin_bg {Oc Bc B2 : Nat → Int} {i : Nat} (h : ∀ z, z < i → B2 z = (stN Oc Bc z : Int) ∧ B2 (z + 1) = (stN Oc Bc (z + 1) : Int)) {v w : Int} (hv : v = (stN Oc Bc i : Int)) (hw : w = (stN Oc Bc (i + 1) : Int)) : ∀ z, z < i + 1 → bU (bU B2 i v) (i + 1) w z = (stN Oc Bc z : Int) ∧ bU (bU B2 i v) (i + 1) w (z + 1) = (stN Oc Bc (z + 1) : Int) := by
  intro z hz
  by_cases e : z = i
  · subst e
    rw [bU_n (by omega), bU_s, bU_s]
    exact ⟨hv, hw⟩
  · rw [bU_n (by omega), bU_n e]
    refine ⟨(h z (by omega)).1, ?_⟩
    rw [bU_n (by omega)]
    by_cases e2 : z + 1 = i
    · rw [e2, bU_s, hv]
    · rw [bU_n e2]
      exact (h z (by omega)).2
theorem fin_row {Oc Bc S2 S4 : Nat → Int} {f : Nat → Nat → Int} {i : Nat} (h : ∀ z, z < i → ∀ j, j < rLI Oc Bc z → S2 (stN Oc Bc z + j) = f z j) (h0 : ∀ j, j < stN Oc Bc i → S4 j = S2 j) (h1 : ∀ j, j < rLI Oc Bc i → S4 (stN Oc Bc i + j) = f i j) : ∀ z, z < i + 1 → ∀ j, j < rLI Oc Bc z → S4 (stN Oc Bc z + j) = f z j := by
  intro z hz j hj
  by_cases e : z = i
  · subst e
    exact h1 j hj
  · have h2 := stN_mono (Oc := Oc) (Bc := Bc) (show z + 1 ≤ i by omega)
    have h3 : stN Oc Bc (z + 1) = stN Oc Bc z + rLI Oc Bc z := rfl
    rw [h0 _ (by omega)]
    exact h z (by omega) j hj
/-- a block more on the reference's disk -/
theorem fin_blk {D2 D4 SB : Nat → Int} {sl b zz : Nat} (h : ∀ z, z < b → ∀ t, t < (min 40 (sl - 40 * z)) + 11 → D2 (51 * z + t) = blkB SB (40 * z) (min 40 (sl - 40 * z)) t) (hz : zz = 51 * b) (h0 : ∀ j, j < zz → D4 j = D2 j) (h1 : ∀ t, t < 7 + min 40 (sl - 40 * b) + 4 → D4 (zz + t) = blkB SB (40 * b) (min 40 (sl - 40 * b)) t) : ∀ z, z < b + 1 → ∀ t, t < (min 40 (sl - 40 * z)) + 11 → D4 (51 * z + t) = blkB SB (40 * z) (min 40 (sl - 40 * z)) t := by
  intro z hzb t ht
  subst hz
  by_cases e : z = b
  · subst e
    exact h1 t (by omega)
  · rw [h0 _ (by omega)]
    exact h z (by omega) t ht
/-- what add answers -/
def addC (w : Int) (n no : Nat) (sp wd : Int) (nb : Nat) (x y lr lp : Int) : Int :=
  if w = 1 ∨ 24 ≤ n then -1 else if no = 0 ∨ sp = 0 ∨ wd ≠ (nb : Int) then -2 else if ¬ (0 ≤ x ∧ x ≤ 1 ∧ 0 ≤ y ∧ y ≤ 4095 ∧ y + sp ≤ 4096) then -3 else if 0 < n ∧ (x < lr ∨ (x = lr ∧ y < lp)) then -4 else (n : Int)
theorem addC_1 {w : Int} {n no : Nat} {sp wd : Int} {nb : Nat} {x y lr lp : Int} (h : w = 1 ∨ 24 ≤ n) : addC w n no sp wd nb x y lr lp = -1 := if_pos h
theorem addC_2 {w : Int} {n no : Nat} {sp wd : Int} {nb : Nat} {x y lr lp : Int} (h : ¬ (w = 1 ∨ 24 ≤ n)) (h2 : no = 0 ∨ sp = 0 ∨ wd ≠ (nb : Int)) : addC w n no sp wd nb x y lr lp = -2 := (if_neg h).trans (if_pos h2)
theorem addC_3 {w : Int} {n no : Nat} {sp wd : Int} {nb : Nat} {x y lr lp : Int} (h : ¬ (w = 1 ∨ 24 ≤ n)) (h2 : ¬ (no = 0 ∨ sp = 0 ∨ wd ≠ (nb : Int))) (h3 : ¬ (0 ≤ x ∧ x ≤ 1 ∧ 0 ≤ y ∧ y ≤ 4095 ∧ y + sp ≤ 4096)) : addC w n no sp wd nb x y lr lp = -3 := (if_neg h).trans ((if_neg h2).trans (if_pos h3))
theorem addC_4 {w : Int} {n no : Nat} {sp wd : Int} {nb : Nat} {x y lr lp : Int} (h : ¬ (w = 1 ∨ 24 ≤ n)) (h2 : ¬ (no = 0 ∨ sp = 0 ∨ wd ≠ (nb : Int))) (h3 : 0 ≤ x ∧ x ≤ 1 ∧ 0 ≤ y ∧ y ≤ 4095 ∧ y + sp ≤ 4096) (h4 : 0 < n ∧ (x < lr ∨ (x = lr ∧ y < lp))) : addC w n no sp wd nb x y lr lp = -4 := (if_neg h).trans ((if_neg h2).trans ((if_neg (fun q => q h3)).trans (if_pos h4)))
theorem addC_5 {w : Int} {n no : Nat} {sp wd : Int} {nb : Nat} {x y lr lp : Int} (h : ¬ (w = 1 ∨ 24 ≤ n)) (h2 : ¬ (no = 0 ∨ sp = 0 ∨ wd ≠ (nb : Int))) (h3 : 0 ≤ x ∧ x ≤ 1 ∧ 0 ≤ y ∧ y ≤ 4095 ∧ y + sp ≤ 4096) (h4 : ¬ (0 < n ∧ (x < lr ∨ (x = lr ∧ y < lp)))) : addC w n no sp wd nb x y lr lp = (n : Int) := (if_neg h).trans ((if_neg h2).trans ((if_neg (fun q => q h3)).trans (if_neg h4)))
/-- the read i is in a damaged block -/
def hurtN (mu : Int) (mz : Nat) (Bg : Nat → Int) (i : Nat) : Prop := 0 ≤ mu ∧ mu / 8 < (mz : Int) - 11 ∧ Bg i / 40 ≤ mu / 8 / 51 ∧ mu / 8 / 51 ≤ (Bg (i + 1) - 1) / 40
theorem q_bd {L : List Nat} {i : Nat} {h : Nat → Prop} {b b2 : Int} (hb : (b = 1 ∧ ∃ z, z ∈ L ∧ h z) ∨ (b = 0 ∧ ∀ z, z ∈ L → ¬ h z)) (h2 : (b2 = 1 ∧ (¬ b = 0 ∨ h i)) ∨ (b2 = 0 ∧ b = 0 ∧ ¬ h i)) : (b2 = 1 ∧ ∃ z, z ∈ L ++ [i] ∧ h z) ∨ (b2 = 0 ∧ ∀ z, z ∈ L ++ [i] → ¬ h z) := by
  rcases h2 with ⟨h3, h4⟩ | ⟨h3, h4, h5⟩
  · refine Or.inl ⟨h3, ?_⟩
    rcases h4 with h4 | h4
    · rcases hb with ⟨_, z, q1, q2⟩ | ⟨q, _⟩
      · exact ⟨z, List.mem_append.mpr (Or.inl q1), q2⟩
      · exact absurd q h4
    · exact ⟨i, List.mem_append.mpr (Or.inr (List.mem_singleton.mpr rfl)), h4⟩
  · refine Or.inr ⟨h3, fun z hz => ?_⟩
    rcases hb with ⟨q, _⟩ | ⟨_, q⟩
    · rw [h4] at q
      exact absurd q (by decide)
    · rcases List.mem_append.mp hz with hz | hz
      · exact q z hz
      · rw [List.mem_singleton.mp hz]
        exact h5
