/-! base: ints as mathematical integers, rows over them, the shape of every contract, calls -/
-- ints
def iI (a : Int) : Int32 := Int32.ofInt a
theorem iI_ti {a : Int} (h : -2147483648 ≤ a ∧ a < 2147483648) : (iI a).toInt = a := Int32.toInt_ofInt_of_le (by omega) (by omega)
theorem iI_of (x : Int32) : x = iI x.toInt := (Int32.ofInt_toInt x).symm
theorem iI_rg (x : Int32) : -2147483648 ≤ x.toInt ∧ x.toInt < 2147483648 := by
  have h1 := Int32.le_toInt x
  have h2 := Int32.toInt_lt x
  omega
theorem iI_add (a b : Int) : iI a + iI b = iI (a + b) := (Int32.ofInt_add a b).symm
theorem iI_sub (a b : Int) : iI a - iI b = iI (a - b) := (Int32.ofInt_sub a b).symm
theorem iI_mul (a b : Int) : iI a * iI b = iI (a * b) := (Int32.ofInt_mul a b).symm
theorem iI_lt {a b : Int} (ha : -2147483648 ≤ a ∧ a < 2147483648) (hb : -2147483648 ≤ b ∧ b < 2147483648) : iI a < iI b ↔ a < b := by rw [Int32.lt_iff_toInt_lt, iI_ti ha, iI_ti hb]
theorem iI_le {a b : Int} (ha : -2147483648 ≤ a ∧ a < 2147483648) (hb : -2147483648 ≤ b ∧ b < 2147483648) : iI a ≤ iI b ↔ a ≤ b := by rw [Int32.le_iff_toInt_le, iI_ti ha, iI_ti hb]
theorem iI_eq {a b : Int} (ha : -2147483648 ≤ a ∧ a < 2147483648) (hb : -2147483648 ≤ b ∧ b < 2147483648) : iI a = iI b ↔ a = b := by rw [← Int32.toInt_inj, iI_ti ha, iI_ti hb]
theorem iI_0 : (0 : Int32) = iI 0 := by decide
theorem iI_div {a b : Int} (ha : 0 ≤ a ∧ a < 2147483648) (hb : 0 < b ∧ b < 2147483648) : iI a / iI b = iI (a / b) := by
  have h1 : Int32.minValue.toInt = -2147483648 := by decide
  have h2 : Int32.maxValue.toInt = 2147483647 := by decide
  rw [← Int.tdiv_eq_ediv_of_nonneg ha.1]
  exact (Int32.ofInt_tdiv (by omega) (by omega) (by omega) (by omega)).symm
theorem iI_rem {a b : Int} (ha : 0 ≤ a ∧ a < 2147483648) (hb : 0 < b ∧ b < 2147483648) : iI a - iI a / iI b * iI b = iI (a % b) := by
  rw [iI_div ha hb, iI_mul, iI_sub, Int.emod_def, Int.mul_comm b]
theorem iI_cl {a : Int} {j : Nat} (hj : a = j) (h : j < 2147483648) : (iI a).toNatClampNeg = j := by
  rw [← Int32.toNat_toInt, iI_ti (by omega)]
  omega
theorem iI_in {a : Int} {j n : Nat} (hj : a = j) (h : j < n) (hn : n ≤ 2147483647) : vp_in (iI a) n := by
  rw [vp_in_iff, iI_ti (by omega)]
  omega
theorem iI_ne0 {b : Int} (hb : 0 < b ∧ b < 2147483648) : ¬ iI b = 0 := fun h => by
  rw [iI_0, iI_eq (by omega) (by omega)] at h
  omega
/-- truth values -/
def bI (b : Bool) : Int := if b then 1 else 0
theorem bI_rg (b : Bool) : 0 ≤ bI b ∧ bI b ≤ 1 := by cases b <;> decide
theorem bI_nar (b : Bool) : narrow .boolean (.int (iI (bI b))) = .int (iI (bI b)) := by cases b <;> decide +kernel
theorem iI_nar0 : narrow .boolean (.int (iI 0)) = .int (iI 0) := by decide +kernel
theorem iI_nar1 : narrow .boolean (.int (iI 1)) = .int (iI 1) := by decide +kernel
theorem nar01 {r : Int} (h : r = 0 ∨ r = 1) : narrow .boolean (.int (iI r)) = .int (iI r) := by
  rcases h with rfl | rfl
  · exact iI_nar0
  · exact iI_nar1
-- arrays of ints
def bU (F : Nat → Int) (k : Nat) (v : Int) : Nat → Int := fun j => if j = k then v else F j
theorem bU_s {F : Nat → Int} {k : Nat} {v : Int} : bU F k v k = v := if_pos rfl
theorem bU_n {F : Nat → Int} {k j : Nat} {v : Int} (h : j ≠ k) : bU F k v j = F j := if_neg h
theorem bU_upd (F : Nat → Int) (k : Nat) (v : Int) : upd (fun j => iI (F j)) k (iI v) = fun j => iI (bU F k v j) := by
  funext j
  by_cases h : j = k
  · subst h
    simp [upd, bU]
  · simp [upd, bU, h]
abbrev ar (cA : ClassId) (n : Nat) (F : Nat → Int) : va_E := .inl (cA, n, .inl (fun j => iI (F j)))
/-- an array of references -/
abbrev aq (cA : ClassId) (n : Nat) (f : Nat → Option Nat) : va_E := .inl (cA, n, .inr (.inr (.inr (.inr f))))
section BKR
variable {p : Program} {l : Launch} {e : Env} {R : Room} {s : State} {m : MethodId} {args : Array Value} {below : List Frame} {meth : Method} {c : Code} {H : Heap} {locs : List Loc} {cells slots : Nat} {Q : State → Prop}
variable {cc : ByteArray} {pc : Nat} {ls : Array Slot} {rest : List Value} {D : va_G} {cl : List vw_C} {A : Nat → Prop} {q : Nat} {tys : List (ClassId × FieldType)} {ws : va_W} {H0 : Heap} {a b off : Int} {tgt : Nat}
theorem bk_top {x y : Int32} (h : x = y) (k : W p l e R s m args below meth c H locs cells slots Q (F0 m pc ls (.int y :: rest))) : W p l e R s m args below meth c H locs cells slots Q (F0 m pc ls (.int x :: rest)) := by
  rw [h]
  exact k
theorem bk_add (hx : p.tables.exec = Jvm.exec) (hb : c.code = cc) (hdg : decode cc pc = .ok (.iadd, 1)) (k : W p l e R s m args below meth c H locs cells slots Q (F0 m (pc + 1) ls (.int (iI (a + b)) :: rest))) : W p l e R s m args below meth c H locs cells slots Q (F0 m pc ls (.int (iI b) :: .int (iI a) :: rest)) := lv_iadd hx hb hdg (bk_top (iI_add a b) k)
theorem bk_sub (hx : p.tables.exec = Jvm.exec) (hb : c.code = cc) (hdg : decode cc pc = .ok (.isub, 1)) (k : W p l e R s m args below meth c H locs cells slots Q (F0 m (pc + 1) ls (.int (iI (a - b)) :: rest))) : W p l e R s m args below meth c H locs cells slots Q (F0 m pc ls (.int (iI b) :: .int (iI a) :: rest)) := lv_isub hx hb hdg (bk_top (iI_sub a b) k)
theorem bk_mul (hx : p.tables.exec = Jvm.exec) (hb : c.code = cc) (hdg : decode cc pc = .ok (.imul, 1)) (k : W p l e R s m args below meth c H locs cells slots Q (F0 m (pc + 1) ls (.int (iI (a * b)) :: rest))) : W p l e R s m args below meth c H locs cells slots Q (F0 m pc ls (.int (iI b) :: .int (iI a) :: rest)) := lv_imul hx hb hdg (bk_top (iI_mul a b) k)
theorem bk_div (hx : p.tables.exec = Jvm.exec) (hb : c.code = cc) (hdg : decode cc pc = .ok (.idiv, 1)) (h1 : 0 ≤ a ∧ a < 2147483648) (h2 : 0 < b ∧ b < 2147483648) (k : W p l e R s m args below meth c H locs cells slots Q (F0 m (pc + 1) ls (.int (iI (a / b)) :: rest))) : W p l e R s m args below meth c H locs cells slots Q (F0 m pc ls (.int (iI b) :: .int (iI a) :: rest)) := lv_idiv hx hb hdg (iI_ne0 h2) (bk_top (iI_div h1 h2) k)
theorem bk_rem (hx : p.tables.exec = Jvm.exec) (hb : c.code = cc) (hdg : decode cc pc = .ok (.irem, 1)) (h1 : 0 ≤ a ∧ a < 2147483648) (h2 : 0 < b ∧ b < 2147483648) (k : W p l e R s m args below meth c H locs cells slots Q (F0 m (pc + 1) ls (.int (iI (a % b)) :: rest))) : W p l e R s m args below meth c H locs cells slots Q (F0 m pc ls (.int (iI b) :: .int (iI a) :: rest)) := lv_irem hx hb hdg (iI_ne0 h2) (bk_top (iI_rem h1 h2) k)
theorem bk_icmp_lt (hx : p.tables.exec = Jvm.exec) (hb : c.code = cc) (hdg : decode cc pc = .ok (.if_icmp .lt off, 3)) (ht : (pc : Int) + off = (tgt : Int)) (h1 : -2147483648 ≤ a ∧ a < 2147483648) (h2 : -2147483648 ≤ b ∧ b < 2147483648) (kt : a < b → W p l e R s m args below meth c H locs cells slots Q (F0 m tgt ls rest)) (kf : b ≤ a → W p l e R s m args below meth c H locs cells slots Q (F0 m (pc + 3) ls rest)) : W p l e R s m args below meth c H locs cells slots Q (F0 m pc ls (.int (iI b) :: .int (iI a) :: rest)) := lv_icmp_lt hx hb hdg ht (fun h => kt ((iI_lt h1 h2).mp h)) (fun h => kf (Int.not_lt.mp fun q => h ((iI_lt h1 h2).mpr q)))
theorem bk_icmp_ge (hx : p.tables.exec = Jvm.exec) (hb : c.code = cc) (hdg : decode cc pc = .ok (.if_icmp .ge off, 3)) (ht : (pc : Int) + off = (tgt : Int)) (h1 : -2147483648 ≤ a ∧ a < 2147483648) (h2 : -2147483648 ≤ b ∧ b < 2147483648) (kt : b ≤ a → W p l e R s m args below meth c H locs cells slots Q (F0 m tgt ls rest)) (kf : a < b → W p l e R s m args below meth c H locs cells slots Q (F0 m (pc + 3) ls rest)) : W p l e R s m args below meth c H locs cells slots Q (F0 m pc ls (.int (iI b) :: .int (iI a) :: rest)) := lv_icmp_ge hx hb hdg ht (fun h => kt ((iI_le h2 h1).mp h)) (fun h => kf (Int.not_le.mp fun q => h ((iI_le h2 h1).mpr q)))
theorem bk_icmp_gt (hx : p.tables.exec = Jvm.exec) (hb : c.code = cc) (hdg : decode cc pc = .ok (.if_icmp .gt off, 3)) (ht : (pc : Int) + off = (tgt : Int)) (h1 : -2147483648 ≤ a ∧ a < 2147483648) (h2 : -2147483648 ≤ b ∧ b < 2147483648) (kt : b < a → W p l e R s m args below meth c H locs cells slots Q (F0 m tgt ls rest)) (kf : a ≤ b → W p l e R s m args below meth c H locs cells slots Q (F0 m (pc + 3) ls rest)) : W p l e R s m args below meth c H locs cells slots Q (F0 m pc ls (.int (iI b) :: .int (iI a) :: rest)) := lv_icmp_gt hx hb hdg ht (fun h => kt ((iI_lt h2 h1).mp h)) (fun h => kf (Int.not_lt.mp fun q => h ((iI_lt h2 h1).mpr q)))
theorem bk_icmp_le (hx : p.tables.exec = Jvm.exec) (hb : c.code = cc) (hdg : decode cc pc = .ok (.if_icmp .le off, 3)) (ht : (pc : Int) + off = (tgt : Int)) (h1 : -2147483648 ≤ a ∧ a < 2147483648) (h2 : -2147483648 ≤ b ∧ b < 2147483648) (kt : a ≤ b → W p l e R s m args below meth c H locs cells slots Q (F0 m tgt ls rest)) (kf : b < a → W p l e R s m args below meth c H locs cells slots Q (F0 m (pc + 3) ls rest)) : W p l e R s m args below meth c H locs cells slots Q (F0 m pc ls (.int (iI b) :: .int (iI a) :: rest)) := lv_icmp_le hx hb hdg ht (fun h => kt ((iI_le h1 h2).mp h)) (fun h => kf (Int.not_le.mp fun q => h ((iI_le h1 h2).mpr q)))
theorem bk_icmp_eq (hx : p.tables.exec = Jvm.exec) (hb : c.code = cc) (hdg : decode cc pc = .ok (.if_icmp .eq off, 3)) (ht : (pc : Int) + off = (tgt : Int)) (h1 : -2147483648 ≤ a ∧ a < 2147483648) (h2 : -2147483648 ≤ b ∧ b < 2147483648) (kt : a = b → W p l e R s m args below meth c H locs cells slots Q (F0 m tgt ls rest)) (kf : ¬ a = b → W p l e R s m args below meth c H locs cells slots Q (F0 m (pc + 3) ls rest)) : W p l e R s m args below meth c H locs cells slots Q (F0 m pc ls (.int (iI b) :: .int (iI a) :: rest)) := lv_icmp_eq hx hb hdg ht (fun h => kt ((iI_eq h1 h2).mp h)) (fun h => kf (fun q => h ((iI_eq h1 h2).mpr q)))
theorem bk_icmp_ne (hx : p.tables.exec = Jvm.exec) (hb : c.code = cc) (hdg : decode cc pc = .ok (.if_icmp .ne off, 3)) (ht : (pc : Int) + off = (tgt : Int)) (h1 : -2147483648 ≤ a ∧ a < 2147483648) (h2 : -2147483648 ≤ b ∧ b < 2147483648) (kt : ¬ a = b → W p l e R s m args below meth c H locs cells slots Q (F0 m tgt ls rest)) (kf : a = b → W p l e R s m args below meth c H locs cells slots Q (F0 m (pc + 3) ls rest)) : W p l e R s m args below meth c H locs cells slots Q (F0 m pc ls (.int (iI b) :: .int (iI a) :: rest)) := lv_icmp_ne hx hb hdg ht (fun h => kt (fun q => h ((iI_eq h1 h2).mpr q))) (fun h => kf ((iI_eq h1 h2).mp h))
theorem iI_equ {a b : Int} (ha : 0 ≤ a ∧ a < 4294967296) (hb : 0 ≤ b ∧ b < 4294967296) : iI a = iI b ↔ a = b := by
  refine ⟨fun h => ?_, fun h => by rw [h]⟩
  obtain ⟨n, rfl⟩ := Int.eq_ofNat_of_zero_le ha.1
  obtain ⟨k, rfl⟩ := Int.eq_ofNat_of_zero_le hb.1
  have h1 : Int32.ofNat n = Int32.ofNat k := by rw [← Int32.ofInt_eq_ofNat, ← Int32.ofInt_eq_ofNat]; exact h
  have h2 : (nI n).toBitVec.toNat = (nI k).toBitVec.toNat := congrArg (fun x : Int32 => x.toBitVec.toNat) h1
  rw [pk_tn (by omega), pk_tn (by omega)] at h2
  rw [h2]
theorem bk_icmpU_ne (hx : p.tables.exec = Jvm.exec) (hb : c.code = cc) (hdg : decode cc pc = .ok (.if_icmp .ne off, 3)) (ht : (pc : Int) + off = (tgt : Int)) (h1 : 0 ≤ a ∧ a < 4294967296) (h2 : 0 ≤ b ∧ b < 4294967296) (kt : ¬ a = b → W p l e R s m args below meth c H locs cells slots Q (F0 m tgt ls rest)) (kf : a = b → W p l e R s m args below meth c H locs cells slots Q (F0 m (pc + 3) ls rest)) : W p l e R s m args below meth c H locs cells slots Q (F0 m pc ls (.int (iI b) :: .int (iI a) :: rest)) := lv_icmp_ne hx hb hdg ht (fun h => kt (fun q => h ((iI_equ h1 h2).mpr q))) (fun h => kf ((iI_equ h1 h2).mp h))
theorem bk_if_eq (hx : p.tables.exec = Jvm.exec) (hb : c.code = cc) (hdg : decode cc pc = .ok (.ifCond .eq off, 3)) (ht : (pc : Int) + off = (tgt : Int)) (h1 : -2147483648 ≤ a ∧ a < 2147483648) (kt : a = 0 → W p l e R s m args below meth c H locs cells slots Q (F0 m tgt ls rest)) (kf : ¬ a = 0 → W p l e R s m args below meth c H locs cells slots Q (F0 m (pc + 3) ls rest)) : W p l e R s m args below meth c H locs cells slots Q (F0 m pc ls (.int (iI a) :: rest)) := lv_if_eq hx hb hdg ht (fun h => kt ((iI_eq h1 (by omega)).mp h)) (fun h => kf (fun q => h ((iI_eq (b := 0) h1 (by omega)).mpr q)))
theorem bk_if_ne (hx : p.tables.exec = Jvm.exec) (hb : c.code = cc) (hdg : decode cc pc = .ok (.ifCond .ne off, 3)) (ht : (pc : Int) + off = (tgt : Int)) (h1 : -2147483648 ≤ a ∧ a < 2147483648) (kt : ¬ a = 0 → W p l e R s m args below meth c H locs cells slots Q (F0 m tgt ls rest)) (kf : a = 0 → W p l e R s m args below meth c H locs cells slots Q (F0 m (pc + 3) ls rest)) : W p l e R s m args below meth c H locs cells slots Q (F0 m pc ls (.int (iI a) :: rest)) := lv_if_ne hx hb hdg ht (fun h => kt (fun q => h ((iI_eq (b := 0) h1 (by omega)).mpr q))) (fun h => kf ((iI_eq h1 (by omega)).mp h))
theorem bk_if_lt (hx : p.tables.exec = Jvm.exec) (hb : c.code = cc) (hdg : decode cc pc = .ok (.ifCond .lt off, 3)) (ht : (pc : Int) + off = (tgt : Int)) (h1 : -2147483648 ≤ a ∧ a < 2147483648) (kt : a < 0 → W p l e R s m args below meth c H locs cells slots Q (F0 m tgt ls rest)) (kf : 0 ≤ a → W p l e R s m args below meth c H locs cells slots Q (F0 m (pc + 3) ls rest)) : W p l e R s m args below meth c H locs cells slots Q (F0 m pc ls (.int (iI a) :: rest)) := lv_if_lt hx hb hdg ht (fun h => kt ((iI_lt h1 (by omega)).mp h)) (fun h => kf (Int.not_lt.mp fun q => h ((iI_lt (b := 0) h1 (by omega)).mpr q)))
theorem bk_if_ge (hx : p.tables.exec = Jvm.exec) (hb : c.code = cc) (hdg : decode cc pc = .ok (.ifCond .ge off, 3)) (ht : (pc : Int) + off = (tgt : Int)) (h1 : -2147483648 ≤ a ∧ a < 2147483648) (kt : 0 ≤ a → W p l e R s m args below meth c H locs cells slots Q (F0 m tgt ls rest)) (kf : a < 0 → W p l e R s m args below meth c H locs cells slots Q (F0 m (pc + 3) ls rest)) : W p l e R s m args below meth c H locs cells slots Q (F0 m pc ls (.int (iI a) :: rest)) := lv_if_ge hx hb hdg ht (fun h => kt ((iI_le (by omega) h1).mp h)) (fun h => kf (Int.not_le.mp fun q => h ((iI_le (a := 0) (by omega) h1).mpr q)))
theorem bk_if_gt (hx : p.tables.exec = Jvm.exec) (hb : c.code = cc) (hdg : decode cc pc = .ok (.ifCond .gt off, 3)) (ht : (pc : Int) + off = (tgt : Int)) (h1 : -2147483648 ≤ a ∧ a < 2147483648) (kt : 0 < a → W p l e R s m args below meth c H locs cells slots Q (F0 m tgt ls rest)) (kf : a ≤ 0 → W p l e R s m args below meth c H locs cells slots Q (F0 m (pc + 3) ls rest)) : W p l e R s m args below meth c H locs cells slots Q (F0 m pc ls (.int (iI a) :: rest)) := lv_if_gt hx hb hdg ht (fun h => kt ((iI_lt (by omega) h1).mp h)) (fun h => kf (Int.not_lt.mp fun q => h ((iI_lt (a := 0) (by omega) h1).mpr q)))
theorem bk_if_le (hx : p.tables.exec = Jvm.exec) (hb : c.code = cc) (hdg : decode cc pc = .ok (.ifCond .le off, 3)) (ht : (pc : Int) + off = (tgt : Int)) (h1 : -2147483648 ≤ a ∧ a < 2147483648) (kt : a ≤ 0 → W p l e R s m args below meth c H locs cells slots Q (F0 m tgt ls rest)) (kf : 0 < a → W p l e R s m args below meth c H locs cells slots Q (F0 m (pc + 3) ls rest)) : W p l e R s m args below meth c H locs cells slots Q (F0 m pc ls (.int (iI a) :: rest)) := lv_if_le hx hb hdg ht (fun h => kt ((iI_le h1 (by omega)).mp h)) (fun h => kf (Int.not_le.mp fun q => h ((iI_le (b := 0) h1 (by omega)).mpr q)))
theorem bk_iald (hx : p.tables.exec = Jvm.exec) (hb : c.code = cc) (hK : va_K D cl tys s) (hP : va_P D cl ws H) (q0 t0 : Nat) {cA : ClassId} {n : Nat} {F : Nat → Int} (ha : ws[q0]? = some (q, ar cA n F)) (ht : tys[t0]? = some (cA, .int)) (j : Nat) (hj : a = (j : Int) ∧ j < n) (hn : n ≤ 2147483647) (hdg : decode cc pc = .ok (.iaload, 1))
    (k : W p l e R s m args below meth c H locs cells slots Q (F0 m (pc + 1) ls (.int (iI (F j)) :: rest))) : W p l e R s m args below meth c H locs cells slots Q (F0 m pc ls (.int (iI a) :: .ref q :: rest)) := by
  refine va_iald hx hb hK hP q0 t0 ha ht (iI_in hj.1 hj.2 hn) hdg ?_
  rw [iI_cl hj.1 (by omega)]
  exact k
theorem bk_iast (hx : p.tables.exec = Jvm.exec) (hb : c.code = cc) (hK : va_K D cl tys s) (hP : va_P D cl ws H) (hD : va_D A ws) (hS : va_S A H0 H locs) (q0 t0 : Nat) {cA : ClassId} {n : Nat} {F : Nat → Int} (ha : ws[q0]? = some (q, ar cA n F)) (ht : tys[t0]? = some (cA, .int)) (j : Nat) (hj : a = (j : Int) ∧ j < n) (hn : n ≤ 2147483647) (hdg : decode cc pc = .ok (.iastore, 1))
    (kk : ∀ (H1 : Heap) (locs1 : List Loc), va_P D cl (ws.set q0 (q, ar cA n (bU F j b))) H1 → va_D A (ws.set q0 (q, ar cA n (bU F j b))) → va_S A H0 H1 locs1 → W p l e R s m args below meth c H1 locs1 cells slots Q (F0 m (pc + 1) ls rest)) : W p l e R s m args below meth c H locs cells slots Q (F0 m pc ls (.int (iI b) :: .int (iI a) :: .ref q :: rest)) := by
  refine va_iast hx hb hK hP hD hS q0 t0 ha ht (iI_in hj.1 hj.2 hn) hdg (fun H1 locs1 h1 h2 h3 => ?_)
  rw [iI_cl hj.1 (by omega), bU_upd] at h1 h2
  exact kk H1 locs1 h1 h2 h3
/-- a row of an array of arrays -/
theorem bk_aald (hx : p.tables.exec = Jvm.exec) (hb : c.code = cc) (hK : va_K D cl tys s) (hP : va_P D cl ws H) (q0 t0 : Nat) {cA : ClassId} {ty : FieldType} {n : Nat} {f : Nat → Option Nat} (ha : ws[q0]? = some (q, aq cA n f)) (ht : tys[t0]? = some (cA, .array ty)) (j : Nat) (hj : a = (j : Int) ∧ j < n) (hn : n ≤ 2147483647) {r : Nat} (hr : f j = some r) (hdg : decode cc pc = .ok (.aaload, 1))
    (k : W p l e R s m args below meth c H locs cells slots Q (F0 m (pc + 1) ls (.ref r :: rest))) : W p l e R s m args below meth c H locs cells slots Q (F0 m pc ls (.int (iI a) :: .ref q :: rest)) := by
  have hin := iI_in hj.1 hj.2 hn
  have hc := iI_cl hj.1 (by omega)
  refine W.aald (v := .ref r) (ty := .array ty) hx hb (hP q0 _ ha) ((hK.2 t0 _ ht).1 n (fun j => va_rf (f j))) rfl (fun q => by cases q) (by show ¬ (_ ∨ (arrV _ _ _).slots.size ≤ _); rw [arrV_size]; exact hin) (by show (arrV _ _ _).slots[_]? = _; rw [hc, arrV_read _ _ hj.2, hr]; rfl) rfl rfl hdg k
/-- a new array of ints, its class by its name -/
theorem bk_newa (hx : p.tables.exec = Jvm.exec) (hb : c.code = cc) (harr : (Cond.arrayClass .int).before args s = true) (hK : va_K D cl tys s) {cI : ClassId} (t0 : Nat) (ht : tys[t0]? = some (cI, .int)) (hP : va_P D cl ws H) (hD : va_D A ws) (hS : va_S A H0 H locs) (hA : ∀ q, H0.size ≤ q → A q) (N : Nat) (hN : a = (N : Int) ∧ N ≤ 100000) (hcells : cells + 1 ≤ R.cells) (hslots : slots + N ≤ R.slots) (hdg : decode cc pc = .ok (.newarray .int, 2))
    (kk : ∀ (q : Nat) (H1 : Heap), va_P D cl (ws ++ [(q, ar cI N (fun _ => 0))]) H1 → va_D A (ws ++ [(q, ar cI N (fun _ => 0))]) → va_S A H0 H1 locs → W p l e R s m args below meth c H1 locs (cells + 1) (slots + N) Q (F0 m (pc + 2) ls (.ref q :: rest))) : W p l e R s m args below meth c H locs cells slots Q (F0 m pc ls (.int (iI a) :: rest)) := by
  refine va_newa (atype := .int) (ty := .int) (N' := N) (a0 := (N, .inl (fun _ => iI 0))) hx hb harr rfl hK hP hD hS hA (fun cA => by rw [vp_cell_i]; rfl) (fun h => ?_) (iI_cl hN.1 (by omega)) (by show N * 4 ≤ _; omega) hcells hslots hdg (fun q cA H1 hK1 h1 h2 h3 => ?_)
  · rw [iI_0, iI_lt (by omega) (by omega)] at h
    omega
  · have e1 := (hK1.2 tys.length (cA, .int) (by simp)).2
    have e2 := (hK.2 t0 _ ht).2
    have e3 : cA = cI := Option.some.inj (Eq.trans (Eq.symm e1) e2)
    subst e3
    exact kk q H1 h1 h2 h3
end BKR
