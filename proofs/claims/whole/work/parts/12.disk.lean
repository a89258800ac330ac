abbrev rm_Disk_empty : Room := { frames := 0, cells := 0, slots := 0, locals := 0 }
set_option maxRecDepth 100000 in
set_option maxHeartbeats 4000000 in
theorem c_Disk_empty (l : Launch) (D : va_G) (cI cO : ClassId) (hk qd qk : Nat) (DB KS : Nat → Int) (sz bc : Nat) (tn : Int) : Mv l y_Disk_empty b_Disk_empty 1 rm_Disk_empty D cI cO [.ref hk] ([(hk, .inr (0, [.ref qd, .ref qk, .int (iI (sz : Int)), .int (iI (bc : Int)), .int (iI tn)])), (qd, ar cI 693 DB), (qk, ar cI 15 KS)]) (fun (_ : Unit) => True) (fun (_ : Unit) => [(hk, .inr (0, [.ref qd, .ref qk, .int (iI 0), .int (iI 0), .int (iI (-1))])), (qd, ar cI 693 DB), (qk, ar cI 15 KS)]) 0 0 := by
  refine bk_start (by decide) (ble_le rfl) ?_
  intro p e s m args below meth c A ls Q hx hb hr hml hlk hown hnm hT hK hA hAe hQ hP hD hS hl
  have hown : s.vm.findClass "BinnedReads$Disk" = some m.cls := hown
  have hl : lv_has ls 1 [(0, .ref hk)] := hl
  refine lv_aload_n hx hb d_Disk_empty_0 rfl (lv_at hl 0 rfl) ?_
  refine lv_iconst (v := iI 0) hx hb d_Disk_empty_1 rfl ?_
  refine va_put (ci := 0) (v := .int (iI 0)) (ty := .int) (C := R_Disk) (T := F_Disk) (N := 5) hx hb hT in_Disk t_Disk to_Disk n_Disk hown hK.1 hP hD hS 0 rfl rfl 2 (by decide) (hT _ tw_99) (fun _ h => h) rfl (by decide +kernel) rfl rfl (ble_lt rfl) d_Disk_empty_2 (fun H locs hP hD hS => ?_)
  have hP : va_P D classes ([(hk, .inr (0, [.ref qd, .ref qk, .int (iI 0), .int (iI (bc : Int)), .int (iI tn)])), (qd, ar cI 693 DB), (qk, ar cI 15 KS)]) H := hP
  have hD : va_D A ([(hk, .inr (0, [.ref qd, .ref qk, .int (iI 0), .int (iI (bc : Int)), .int (iI tn)])), (qd, ar cI 693 DB), (qk, ar cI 15 KS)]) := hD
  refine lv_aload_n hx hb d_Disk_empty_5 rfl (lv_at hl 0 rfl) ?_
  refine lv_iconst (v := iI 0) hx hb d_Disk_empty_6 rfl ?_
  refine va_put (ci := 0) (v := .int (iI 0)) (ty := .int) (C := R_Disk) (T := F_Disk) (N := 5) hx hb hT in_Disk t_Disk to_Disk n_Disk hown hK.1 hP hD hS 0 rfl rfl 3 (by decide) (hT _ tw_101) (fun _ h => h) rfl (by decide +kernel) rfl rfl (ble_lt rfl) d_Disk_empty_7 (fun H locs hP hD hS => ?_)
  have hP : va_P D classes ([(hk, .inr (0, [.ref qd, .ref qk, .int (iI 0), .int (iI 0), .int (iI tn)])), (qd, ar cI 693 DB), (qk, ar cI 15 KS)]) H := hP
  have hD : va_D A ([(hk, .inr (0, [.ref qd, .ref qk, .int (iI 0), .int (iI 0), .int (iI tn)])), (qd, ar cI 693 DB), (qk, ar cI 15 KS)]) := hD
  refine lv_aload_n hx hb d_Disk_empty_10 rfl (lv_at hl 0 rfl) ?_
  refine lv_iconst (v := iI (-1)) hx hb d_Disk_empty_11 rfl ?_
  refine va_put (ci := 0) (v := .int (iI (-1))) (ty := .int) (C := R_Disk) (T := F_Disk) (N := 5) hx hb hT in_Disk t_Disk to_Disk n_Disk hown hK.1 hP hD hS 0 rfl rfl 4 (by decide) (hT _ tw_103) (fun _ h => h) rfl (by decide +kernel) rfl rfl (ble_lt rfl) d_Disk_empty_12 (fun H locs hP hD hS => ?_)
  have hP : va_P D classes ([(hk, .inr (0, [.ref qd, .ref qk, .int (iI 0), .int (iI 0), .int (iI (-1))])), (qd, ar cI 693 DB), (qk, ar cI 15 KS)]) H := hP
  have hD : va_D A ([(hk, .inr (0, [.ref qd, .ref qk, .int (iI 0), .int (iI 0), .int (iI (-1))])), (qd, ar cI 693 DB), (qk, ar cI 15 KS)]) := hD
  exact bk_retv hx hb hr hlk hAe hQ hS () trivial hP hD d_Disk_empty_15
abbrev rm_Disk_isWritten : Room := { frames := 0, cells := 0, slots := 0, locals := 0 }
set_option maxRecDepth 100000 in
set_option maxHeartbeats 4000000 in
theorem c_Disk_isWritten (l : Launch) (D : va_G) (cI cO : ClassId) (hk qd qk : Nat) (DB KS : Nat → Int) (sz bc : Nat) (tn : Int) (hsz : sz ≤ 693) : Mi l y_Disk_isWritten b_Disk_isWritten 1 .boolean rm_Disk_isWritten D cI cO [.ref hk] ([(hk, .inr (0, [.ref qd, .ref qk, .int (iI (sz : Int)), .int (iI (bc : Int)), .int (iI tn)])), (qd, ar cI 693 DB), (qk, ar cI 15 KS)]) (fun (r : Int) (_ : Unit) => ((0 < sz) ∧ r = 1) ∨ (¬ (0 < sz) ∧ r = 0)) (fun (_ : Unit) => [(hk, .inr (0, [.ref qd, .ref qk, .int (iI (sz : Int)), .int (iI (bc : Int)), .int (iI tn)])), (qd, ar cI 693 DB), (qk, ar cI 15 KS)]) 0 0 := by
  refine bk_start (by decide) (ble_le rfl) ?_
  intro p e s m args below meth c A ls Q hx hb hr hml hlk hown hnm hT hK hA hAe hQ hP hD hS hl
  have hown : s.vm.findClass "BinnedReads$Disk" = some m.cls := hown
  have hl : lv_has ls 1 [(0, .ref hk)] := hl
  refine lv_aload_n hx hb d_Disk_isWritten_0 rfl (lv_at hl 0 rfl) ?_
  refine va_get (ci := 0) (C := R_Disk) (T := F_Disk) (N := 5) hx hb hT in_Disk hown hK.1 hP 0 rfl rfl 2 (by decide) (hT _ tw_99) (fun _ h => h) rfl d_Disk_isWritten_1 ?_
  refine bk_if_le (tgt := 11) hx hb d_Disk_isWritten_4 (by decide) (by omega) (fun c4 => ?_) (fun c4 => ?_)
  · skip
    refine lv_iconst (v := iI 0) hx hb d_Disk_isWritten_11 rfl ?_
    exact bk_reti (r := 0) hx hb hr iI_nar0 hlk hAe hQ hS () (by omega) hP hD d_Disk_isWritten_12
  · skip
    refine lv_iconst (v := iI 1) hx hb d_Disk_isWritten_7 rfl ?_
    refine lv_goto (tgt := 12) hx hb d_Disk_isWritten_8 (by decide) ?_
    exact bk_reti (r := 1) hx hb hr iI_nar1 hlk hAe hQ hS () (by omega) hP hD d_Disk_isWritten_12
abbrev rm_Disk_at : Room := { frames := 0, cells := 0, slots := 0, locals := 0 }
set_option maxRecDepth 100000 in
set_option maxHeartbeats 4000000 in
theorem c_Disk_at (l : Launch) (D : va_G) (cI cO : ClassId) (hk qd qk : Nat) (DB KS : Nat → Int) (sz bc : Nat) (tn : Int) (k : Int) (hsz : sz ≤ 693) (hk1 : -2147483648 ≤ k ∧ k < 2147483648) : Mi l y_Disk_at b_Disk_at 2 .int rm_Disk_at D cI cO [.ref hk, .int (iI k)] ([(hk, .inr (0, [.ref qd, .ref qk, .int (iI (sz : Int)), .int (iI (bc : Int)), .int (iI tn)])), (qd, ar cI 693 DB), (qk, ar cI 15 KS)]) (fun (r : Int) (_ : Unit) => (0 ≤ k ∧ k < (sz : Int) ∧ r = DB k.toNat) ∨ (¬ (0 ≤ k ∧ k < (sz : Int)) ∧ r = -1)) (fun (_ : Unit) => [(hk, .inr (0, [.ref qd, .ref qk, .int (iI (sz : Int)), .int (iI (bc : Int)), .int (iI tn)])), (qd, ar cI 693 DB), (qk, ar cI 15 KS)]) 0 0 := by
  refine bk_start (by decide) (ble_le rfl) ?_
  intro p e s m args below meth c A ls Q hx hb hr hml hlk hown hnm hT hK hA hAe hQ hP hD hS hl
  have hown : s.vm.findClass "BinnedReads$Disk" = some m.cls := hown
  have hl : lv_has ls 2 [(0, .ref hk), (1, .int (iI k))] := hl
  refine lv_iload_n hx hb d_Disk_at_0 rfl (lv_at hl 1 rfl) ?_
  refine bk_if_lt (tgt := 12) hx hb d_Disk_at_1 (by decide) (by omega) (fun c1 => ?_) (fun c1 => ?_)
  · skip
    refine lv_iconst (v := iI (-1)) hx hb d_Disk_at_12 rfl ?_
    refine lv_goto (tgt := 22) hx hb d_Disk_at_13 (by decide) ?_
    exact bk_reti (r := (-1)) hx hb hr rfl hlk hAe hQ hS () (by omega) hP hD d_Disk_at_22
  · skip
    refine lv_iload_n hx hb d_Disk_at_4 rfl (lv_at hl 1 rfl) ?_
    refine lv_aload_n hx hb d_Disk_at_5 rfl (lv_at hl 0 rfl) ?_
    refine va_get (ci := 0) (C := R_Disk) (T := F_Disk) (N := 5) hx hb hT in_Disk hown hK.1 hP 0 rfl rfl 2 (by decide) (hT _ tw_99) (fun _ h => h) rfl d_Disk_at_6 ?_
    refine bk_icmp_lt (tgt := 16) hx hb d_Disk_at_9 (by decide) (by omega) (by omega) (fun c9 => ?_) (fun c9 => ?_)
    · skip
      refine lv_aload_n hx hb d_Disk_at_16 rfl (lv_at hl 0 rfl) ?_
      refine va_get (ci := 0) (C := R_Disk) (T := F_Disk) (N := 5) hx hb hT in_Disk hown hK.1 hP 0 rfl rfl 0 (by decide) (hT _ tw_97) (fun _ h => h) rfl d_Disk_at_17 ?_
      refine lv_iload_n hx hb d_Disk_at_20 rfl (lv_at hl 1 rfl) ?_
      refine bk_iald hx hb hK.1 hP 1 0 rfl rfl k.toNat (by omega) (by decide) d_Disk_at_21 ?_
      exact bk_reti (r := DB k.toNat) hx hb hr rfl hlk hAe hQ hS () (by omega) hP hD d_Disk_at_22
    · skip
      refine lv_iconst (v := iI (-1)) hx hb d_Disk_at_12 rfl ?_
      refine lv_goto (tgt := 22) hx hb d_Disk_at_13 (by decide) ?_
      exact bk_reti (r := (-1)) hx hb hr rfl hlk hAe hQ hS () (by omega) hP hD d_Disk_at_22
set_option maxRecDepth 100000 in
set_option maxHeartbeats 4000000 in
theorem c_Disk_at_in (l : Launch) (D : va_G) (cI cO : ClassId) (hk qd qk : Nat) (DB KS : Nat → Int) (sz bc : Nat) (tn : Int) (j : Nat) (hsz : sz ≤ 693) (hj : j < sz) : Mi l y_Disk_at b_Disk_at 2 .int rm_Disk_at D cI cO [.ref hk, .int (iI (j : Int))] ([(hk, .inr (0, [.ref qd, .ref qk, .int (iI (sz : Int)), .int (iI (bc : Int)), .int (iI tn)])), (qd, ar cI 693 DB), (qk, ar cI 15 KS)]) (fun (r : Int) (_ : Unit) => r = DB j) (fun (_ : Unit) => [(hk, .inr (0, [.ref qd, .ref qk, .int (iI (sz : Int)), .int (iI (bc : Int)), .int (iI tn)])), (qd, ar cI 693 DB), (qk, ar cI 15 KS)]) 0 0 := by
  refine bk_start (by decide) (ble_le rfl) ?_
  intro p e s m args below meth c A ls Q hx hb hr hml hlk hown hnm hT hK hA hAe hQ hP hD hS hl
  have hown : s.vm.findClass "BinnedReads$Disk" = some m.cls := hown
  have hl : lv_has ls 2 [(0, .ref hk), (1, .int (iI (j : Int)))] := hl
  refine lv_iload_n hx hb d_Disk_at_0 rfl (lv_at hl 1 rfl) ?_
  refine bk_if_lt (tgt := 12) hx hb d_Disk_at_1 (by decide) (by omega) (fun c1 => ?_) (fun c1 => ?_)
  · skip
    exact absurd c1 (by omega)
  · skip
    refine lv_iload_n hx hb d_Disk_at_4 rfl (lv_at hl 1 rfl) ?_
    refine lv_aload_n hx hb d_Disk_at_5 rfl (lv_at hl 0 rfl) ?_
    refine va_get (ci := 0) (C := R_Disk) (T := F_Disk) (N := 5) hx hb hT in_Disk hown hK.1 hP 0 rfl rfl 2 (by decide) (hT _ tw_99) (fun _ h => h) rfl d_Disk_at_6 ?_
    refine bk_icmp_lt (tgt := 16) hx hb d_Disk_at_9 (by decide) (by omega) (by omega) (fun c9 => ?_) (fun c9 => ?_)
    · skip
      refine lv_aload_n hx hb d_Disk_at_16 rfl (lv_at hl 0 rfl) ?_
      refine va_get (ci := 0) (C := R_Disk) (T := F_Disk) (N := 5) hx hb hT in_Disk hown hK.1 hP 0 rfl rfl 0 (by decide) (hT _ tw_97) (fun _ h => h) rfl d_Disk_at_17 ?_
      refine lv_iload_n hx hb d_Disk_at_20 rfl (lv_at hl 1 rfl) ?_
      refine bk_iald hx hb hK.1 hP 1 0 rfl rfl j (by omega) (by decide) d_Disk_at_21 ?_
      exact bk_reti (r := DB j) hx hb hr rfl hlk hAe hQ hS () rfl hP hD d_Disk_at_22
    · skip
      exact absurd c9 (by omega)
abbrev rm_Disk_appendByte : Room := { frames := 0, cells := 0, slots := 0, locals := 0 }
set_option maxRecDepth 100000 in
set_option maxHeartbeats 4000000 in
theorem c_Disk_appendByte (l : Launch) (D : va_G) (cI cO : ClassId) (hk qd qk : Nat) (DB KS : Nat → Int) (sz bc : Nat) (tn : Int) (v : Int) (hsz : sz < 693) : Mv l y_Disk_appendByte b_Disk_appendByte 2 rm_Disk_appendByte D cI cO [.ref hk, .int (iI v)] ([(hk, .inr (0, [.ref qd, .ref qk, .int (iI (sz : Int)), .int (iI (bc : Int)), .int (iI tn)])), (qd, ar cI 693 DB), (qk, ar cI 15 KS)]) (fun (_ : Unit) => True) (fun (_ : Unit) => [(hk, .inr (0, [.ref qd, .ref qk, .int (iI ((sz + 1 : Nat) : Int)), .int (iI (bc : Int)), .int (iI tn)])), (qd, ar cI 693 (bU DB sz v)), (qk, ar cI 15 KS)]) 0 0 := by
  refine bk_start (by decide) (ble_le rfl) ?_
  intro p e s m args below meth c A ls Q hx hb hr hml hlk hown hnm hT hK hA hAe hQ hP hD hS hl
  have hown : s.vm.findClass "BinnedReads$Disk" = some m.cls := hown
  have hl : lv_has ls 2 [(0, .ref hk), (1, .int (iI v))] := hl
  refine lv_aload_n hx hb d_Disk_appendByte_0 rfl (lv_at hl 0 rfl) ?_
  refine va_get (ci := 0) (C := R_Disk) (T := F_Disk) (N := 5) hx hb hT in_Disk hown hK.1 hP 0 rfl rfl 2 (by decide) (hT _ tw_99) (fun _ h => h) rfl d_Disk_appendByte_1 ?_
  refine lv_aload_n hx hb d_Disk_appendByte_4 rfl (lv_at hl 0 rfl) ?_
  refine va_get (ci := 0) (C := R_Disk) (T := F_Disk) (N := 5) hx hb hT in_Disk hown hK.1 hP 0 rfl rfl 0 (by decide) (hT _ tw_97) (fun _ h => h) rfl d_Disk_appendByte_5 ?_
  refine va_alen (v := iI 693) hx hb hK.1 hP 1 0 rfl rfl (show Int32.ofNat 693 = iI 693 from by decide) d_Disk_appendByte_8 ?_
  refine bk_icmp_ge (tgt := 29) hx hb d_Disk_appendByte_9 (by decide) (by omega) (by omega) (fun c9 => ?_) (fun c9 => ?_)
  · skip
    exact absurd c9 (by omega)
  · skip
    refine lv_aload_n hx hb d_Disk_appendByte_12 rfl (lv_at hl 0 rfl) ?_
    refine va_get (ci := 0) (C := R_Disk) (T := F_Disk) (N := 5) hx hb hT in_Disk hown hK.1 hP 0 rfl rfl 0 (by decide) (hT _ tw_97) (fun _ h => h) rfl d_Disk_appendByte_13 ?_
    refine lv_aload_n hx hb d_Disk_appendByte_16 rfl (lv_at hl 0 rfl) ?_
    refine lv_dup hx hb d_Disk_appendByte_17 rfl ?_
    refine va_get (ci := 0) (C := R_Disk) (T := F_Disk) (N := 5) hx hb hT in_Disk hown hK.1 hP 0 rfl rfl 2 (by decide) (hT _ tw_99) (fun _ h => h) rfl d_Disk_appendByte_18 ?_
    refine lv_dup_x1 hx hb d_Disk_appendByte_21 rfl rfl ?_
    refine lv_iconst (v := iI 1) hx hb d_Disk_appendByte_22 rfl ?_
    refine bk_add hx hb d_Disk_appendByte_23 ?_
    refine bk_top (y := iI ((sz + 1 : Nat) : Int)) (congrArg iI (by omega)) ?_
    refine va_put (ci := 0) (v := .int (iI ((sz + 1 : Nat) : Int))) (ty := .int) (C := R_Disk) (T := F_Disk) (N := 5) hx hb hT in_Disk t_Disk to_Disk n_Disk hown hK.1 hP hD hS 0 rfl rfl 2 (by decide) (hT _ tw_99) (fun _ h => h) rfl (by decide +kernel) rfl rfl (ble_lt rfl) d_Disk_appendByte_24 (fun H locs hP hD hS => ?_)
    have hP : va_P D classes ([(hk, .inr (0, [.ref qd, .ref qk, .int (iI ((sz + 1 : Nat) : Int)), .int (iI (bc : Int)), .int (iI tn)])), (qd, ar cI 693 DB), (qk, ar cI 15 KS)]) H := hP
    have hD : va_D A ([(hk, .inr (0, [.ref qd, .ref qk, .int (iI ((sz + 1 : Nat) : Int)), .int (iI (bc : Int)), .int (iI tn)])), (qd, ar cI 693 DB), (qk, ar cI 15 KS)]) := hD
    refine lv_iload_n hx hb d_Disk_appendByte_27 rfl (lv_at hl 1 rfl) ?_
    refine bk_iast hx hb hK.1 hP hD hS 1 0 rfl rfl sz (by omega) (by decide) d_Disk_appendByte_28 (fun H locs hP hD hS => ?_)
    have hP : va_P D classes ([(hk, .inr (0, [.ref qd, .ref qk, .int (iI ((sz + 1 : Nat) : Int)), .int (iI (bc : Int)), .int (iI tn)])), (qd, ar cI 693 (bU DB sz v)), (qk, ar cI 15 KS)]) H := hP
    have hD : va_D A ([(hk, .inr (0, [.ref qd, .ref qk, .int (iI ((sz + 1 : Nat) : Int)), .int (iI (bc : Int)), .int (iI tn)])), (qd, ar cI 693 (bU DB sz v)), (qk, ar cI 15 KS)]) := hD
    exact bk_retv hx hb hr hlk hAe hQ hS () trivial hP hD d_Disk_appendByte_29
abbrev rm_Disk_appendNumber : Room := { frames := 1, cells := 0, slots := 0, locals := 21 }
set_option maxRecDepth 100000 in
set_option maxHeartbeats 4000000 in
theorem c_Disk_appendNumber (l : Launch) (D : va_G) (cI cO : ClassId) (hk qd qk : Nat) (DB KS : Nat → Int) (sz bc : Nat) (tn : Int) (w k : Nat) (hsz : sz + k ≤ 693) (hw : w < 4294967296) (hk1 : k ≤ 4) : Mv l y_Disk_appendNumber b_Disk_appendNumber 4 rm_Disk_appendNumber D cI cO [.ref hk, .int (iI (w : Int)), .int (iI (k : Int))] ([(hk, .inr (0, [.ref qd, .ref qk, .int (iI (sz : Int)), .int (iI (bc : Int)), .int (iI tn)])), (qd, ar cI 693 DB), (qk, ar cI 15 KS)]) (fun (_ : Unit) => True) (fun (_ : Unit) => [(hk, .inr (0, [.ref qd, .ref qk, .int (iI ((sz + k : Nat) : Int)), .int (iI (bc : Int)), .int (iI tn)])), (qd, ar cI 693 (apN DB sz w k)), (qk, ar cI 15 KS)]) 0 0 := by
  refine bk_start (by decide) (ble_le rfl) ?_
  intro p e s m args below meth c A ls Q hx hb hr hml hlk hown hnm hT hK hA hAe hQ hP hD hS hl
  have hown : s.vm.findClass "BinnedReads$Disk" = some m.cls := hown
  have hl : lv_has ls 4 [(0, .ref hk), (1, .int (iI (w : Int))), (2, .int (iI (k : Int)))] := hl
  have hcell : (ar cI 693 (apN DB sz w 0) : va_E) = ar cI 693 DB := by rw [apN_0]
  have hP : va_P D classes ([(hk, .inr (0, [.ref qd, .ref qk, .int (iI (sz : Int)), .int (iI (bc : Int)), .int (iI tn)])), (qd, ar cI 693 (apN DB sz w 0)), (qk, ar cI 15 KS)]) s.heap := by
    rw [hcell]
    exact hP
  have hD : va_D A ([(hk, .inr (0, [.ref qd, .ref qk, .int (iI (sz : Int)), .int (iI (bc : Int)), .int (iI tn)])), (qd, ar cI 693 (apN DB sz w 0)), (qk, ar cI 15 KS)]) := by
    rw [hcell]
    exact hD
  refine lv_iconst (v := iI 0) hx hb d_Disk_appendNumber_0 rfl ?_
  refine lv_istore_n hx hb d_Disk_appendNumber_1 rfl hl (by decide) rfl (fun ls hl => ?_)
  have hl : lv_has ls 4 [(3, .int (iI 0)), (0, .ref hk), (1, .int (iI (w : Int))), (2, .int (iI (k : Int)))] := hl
  have cut2 : ∀ (N0 : Nat) (i : Nat) (H : Heap) (locs : List Loc) (ls : Array Slot), k - i = N0 → (i ≤ k) → lv_has ls 4 [(0, .ref hk), (1, .int (iI (w : Int))), (2, .int (iI (k : Int))), (3, .int (iI (i : Int)))] → va_P D classes ([(hk, .inr (0, [.ref qd, .ref qk, .int (iI ((sz + i : Nat) : Int)), .int (iI (bc : Int)), .int (iI tn)])), (qd, ar cI 693 (apN DB sz w i)), (qk, ar cI 15 KS)]) H → va_D A ([(hk, .inr (0, [.ref qd, .ref qk, .int (iI ((sz + i : Nat) : Int)), .int (iI (bc : Int)), .int (iI tn)])), (qd, ar cI 693 (apN DB sz w i)), (qk, ar cI 15 KS)]) → va_S A s.heap H locs → W p l e rm_Disk_appendNumber s m args below meth c H locs 0 0 Q (F0 m 2 ls []) := by
    intro N0
    induction N0 using Nat.strongRecOn with
    | _ N0 ih2 =>
      intro i H locs ls hN2 hi hl hP hD hS
      refine lv_iload_n hx hb d_Disk_appendNumber_2 rfl (lv_at hl 3 rfl) ?_
      refine lv_iload_n hx hb d_Disk_appendNumber_3 rfl (lv_at hl 2 rfl) ?_
      refine bk_icmp_ge (tgt := 27) hx hb d_Disk_appendNumber_4 (by decide) (by omega) (by omega) (fun c4 => ?_) (fun c4 => ?_)
      · skip
        have e1 : i = k := by omega
        subst e1
        exact bk_retv hx hb hr hlk hAe hQ hS () trivial hP hD d_Disk_appendNumber_27
      · skip
        refine lv_aload_n hx hb d_Disk_appendNumber_7 rfl (lv_at hl 0 rfl) ?_
        refine lv_iload_n hx hb d_Disk_appendNumber_8 rfl (lv_at hl 1 rfl) ?_
        refine lv_bipush (v := iI 8) hx hb d_Disk_appendNumber_9 (by decide) ?_
        refine lv_iload_n hx hb d_Disk_appendNumber_11 rfl (lv_at hl 3 rfl) ?_
        refine bk_mul hx hb d_Disk_appendNumber_12 ?_
        refine bk_top (y := iI ((8 * i : Nat) : Int)) (congrArg iI (by omega)) ?_
        refine lv_iushr hx hb d_Disk_appendNumber_13 rfl ?_
        refine bk_top (y := iI ((w / 256 ^ i : Nat) : Int)) (iI_ushrB hw (by omega)) ?_
        refine lv_sipush (v := iI 255) hx hb d_Disk_appendNumber_14 (by decide) ?_
        refine lv_iand hx hb d_Disk_appendNumber_17 ?_
        refine bk_top (y := iI ((w / 256 ^ i % 256 : Nat) : Int)) (iI_andB (Nat.lt_of_le_of_lt (Nat.div_le_self _ _) hw)) ?_
        refine bk_fv (X := [(hk, .inr (0, [.ref qd, .ref qk, .int (iI ((sz + i : Nat) : Int)), .int (iI (bc : Int)), .int (iI tn)])), (qd, ar cI 693 (apN DB sz w i)), (qk, ar cI 15 KS)]) (pl := []) (Wc := [(hk, .inr (0, [.ref qd, .ref qk, .int (iI (((sz + i) : Nat) : Int)), .int (iI (bc : Int)), .int (iI tn)])), (qd, ar cI 693 (apN DB sz w i)), (qk, ar cI 15 KS)]) (wr := []) [0, 1, 2] [] rfl rfl (by decide) (by decide) hP hD hS hA (bk_rV (rest := []) hx hb hml hown hT hK (c_Disk_appendByte l D cI cO hk qd qk (apN DB sz w i) KS (sz + i) bc tn ((w / 256 ^ i % 256 : Nat) : Int) (by omega)) (bk_subP (X := [(hk, .inr (0, [.ref qd, .ref qk, .int (iI ((sz + i : Nat) : Int)), .int (iI (bc : Int)), .int (iI tn)])), (qd, ar cI 693 (apN DB sz w i)), (qk, ar cI 15 KS)]) (pl := []) (Wc := [(hk, .inr (0, [.ref qd, .ref qk, .int (iI (((sz + i) : Nat) : Int)), .int (iI (bc : Int)), .int (iI tn)])), (qd, ar cI 693 (apN DB sz w i)), (qk, ar cI 15 KS)]) hP [0, 1, 2] rfl) (bk_subD (X := [(hk, .inr (0, [.ref qd, .ref qk, .int (iI ((sz + i : Nat) : Int)), .int (iI (bc : Int)), .int (iI tn)])), (qd, ar cI 693 (apN DB sz w i)), (qk, ar cI 15 KS)]) (pl := []) (Wc := [(hk, .inr (0, [.ref qd, .ref qk, .int (iI (((sz + i) : Nat) : Int)), .int (iI (bc : Int)), .int (iI tn)])), (qd, ar cI 693 (apN DB sz w i)), (qk, ar cI 15 KS)]) hD [0, 1, 2] (by decide) rfl) 0 0 rfl rfl rfl tw_258 tw_260 ts_2 tw_5 tw_261 hd_Disk_appendByte ⟨rfl, rfl⟩ (by decide) hl.1 rfl (ble_le rfl) d_Disk_appendNumber_18 (by decide)) (fun u H locs hq hP hD hS => ?_)
        have hq : True := hq
        have hP : va_P D classes ([(hk, .inr (0, [.ref qd, .ref qk, .int (iI (((sz + i) + 1 : Nat) : Int)), .int (iI (bc : Int)), .int (iI tn)])), (qd, ar cI 693 (bU (apN DB sz w i) (sz + i) ((w / 256 ^ i % 256 : Nat) : Int))), (qk, ar cI 15 KS)]) H := hP
        have hD : va_D A ([(hk, .inr (0, [.ref qd, .ref qk, .int (iI (((sz + i) + 1 : Nat) : Int)), .int (iI (bc : Int)), .int (iI tn)])), (qd, ar cI 693 (bU (apN DB sz w i) (sz + i) ((w / 256 ^ i % 256 : Nat) : Int))), (qk, ar cI 15 KS)]) := hD
        have hcell : (ar cI 693 (apN DB sz w (i + 1)) : va_E) = ar cI 693 (bU (apN DB sz w i) (sz + i) ((w / 256 ^ i % 256 : Nat) : Int)) := by rw [apN_s]
        have hP : va_P D classes ([(hk, .inr (0, [.ref qd, .ref qk, .int (iI (((sz + i) + 1 : Nat) : Int)), .int (iI (bc : Int)), .int (iI tn)])), (qd, ar cI 693 (apN DB sz w (i + 1))), (qk, ar cI 15 KS)]) H := by
          rw [hcell]
          exact hP
        have hD : va_D A ([(hk, .inr (0, [.ref qd, .ref qk, .int (iI (((sz + i) + 1 : Nat) : Int)), .int (iI (bc : Int)), .int (iI tn)])), (qd, ar cI 693 (apN DB sz w (i + 1))), (qk, ar cI 15 KS)]) := by
          rw [hcell]
          exact hD
        refine lv_iinc (k := 3) (v := iI ((i + 1 : Nat) : Int)) hx hb d_Disk_appendNumber_21 hl rfl ((iI_add _ _).trans (congrArg iI (by omega))) (by decide) rfl (fun ls hl => ?_)
        have hl : lv_has ls 4 [(3, .int (iI ((i + 1 : Nat) : Int))), (0, .ref hk), (1, .int (iI (w : Int))), (2, .int (iI (k : Int)))] := hl
        refine lv_goto (tgt := 2) hx hb d_Disk_appendNumber_24 (by decide) ?_
        exact ih2 (k - (i + 1)) (by omega) (i + 1) _ _ _ rfl (by omega) (lv_sub hl [1, 2, 3, 0] rfl) hP hD hS
  exact cut2 _ 0 _ _ _ rfl (by omega) (lv_sub hl [1, 2, 3, 0] rfl) hP hD hS
abbrev rm_Disk_sumOf : Room := { frames := 1, cells := 0, slots := 0, locals := 21 }
set_option maxRecDepth 100000 in
set_option maxHeartbeats 4000000 in
theorem c_Disk_sumOf (l : Launch) (D : va_G) (cI cO : ClassId) (hk qd qk : Nat) (DB KS : Nat → Int) (sz bc : Nat) (tn : Int) (f k : Nat) (hsz : sz ≤ 693) (hDB : ∀ j, j < sz → 0 ≤ DB j ∧ DB j ≤ 255) (hfk : f + k ≤ sz) : Mi l y_Disk_sumOf b_Disk_sumOf 6 .int rm_Disk_sumOf D cI cO [.ref hk, .int (iI (f : Int)), .int (iI (k : Int))] ([(hk, .inr (0, [.ref qd, .ref qk, .int (iI (sz : Int)), .int (iI (bc : Int)), .int (iI tn)])), (qd, ar cI 693 DB), (qk, ar cI 15 KS)]) (fun (r : Int) (_ : Unit) => r = ((crcN DB f k ^^^ 4294967295 : Nat) : Int)) (fun (_ : Unit) => [(hk, .inr (0, [.ref qd, .ref qk, .int (iI (sz : Int)), .int (iI (bc : Int)), .int (iI tn)])), (qd, ar cI 693 DB), (qk, ar cI 15 KS)]) 0 0 := by
  refine bk_start (by decide) (ble_le rfl) ?_
  intro p e s m args below meth c A ls Q hx hb hr hml hlk hown hnm hT hK hA hAe hQ hP hD hS hl
  have hown : s.vm.findClass "BinnedReads$Disk" = some m.cls := hown
  have hl : lv_has ls 6 [(0, .ref hk), (1, .int (iI (f : Int))), (2, .int (iI (k : Int)))] := hl
  refine lv_iconst (v := iI (-1)) hx hb d_Disk_sumOf_0 rfl ?_
  refine bk_top (y := iI 4294967295) (by decide) ?_
  refine lv_istore_n hx hb d_Disk_sumOf_1 rfl hl (by decide) rfl (fun ls hl => ?_)
  have hl : lv_has ls 6 [(3, .int (iI 4294967295)), (0, .ref hk), (1, .int (iI (f : Int))), (2, .int (iI (k : Int)))] := hl
  refine lv_iload_n hx hb d_Disk_sumOf_2 rfl (lv_at hl 2 rfl) ?_
  refine lv_istore hx hb d_Disk_sumOf_3 hl (by decide) rfl (fun ls hl => ?_)
  have hl : lv_has ls 6 [(4, .int (iI (f : Int))), (3, .int (iI 4294967295)), (0, .ref hk), (1, .int (iI (f : Int))), (2, .int (iI (k : Int)))] := hl
  have cut5 : ∀ (N0 : Nat) (j : Nat) (H : Heap) (locs : List Loc) (ls : Array Slot), k - j = N0 → (j ≤ k) → lv_has ls 6 [(0, .ref hk), (1, .int (iI (f : Int))), (2, .int (iI (k : Int))), (3, .int (iI ((crcN DB f j : Nat) : Int))), (4, .int (iI ((f + j : Nat) : Int)))] → va_P D classes ([(hk, .inr (0, [.ref qd, .ref qk, .int (iI (sz : Int)), .int (iI (bc : Int)), .int (iI tn)])), (qd, ar cI 693 DB), (qk, ar cI 15 KS)]) H → va_D A ([(hk, .inr (0, [.ref qd, .ref qk, .int (iI (sz : Int)), .int (iI (bc : Int)), .int (iI tn)])), (qd, ar cI 693 DB), (qk, ar cI 15 KS)]) → va_S A s.heap H locs → W p l e rm_Disk_sumOf s m args below meth c H locs 0 0 Q (F0 m 5 ls []) := by
    intro N0
    induction N0 using Nat.strongRecOn with
    | _ N0 ih5 =>
      intro j H locs ls hN5 hj hl hP hD hS
      have hcl := crcN_lt (F := DB) (f := f) (n := j) (fun z hz => hDB (f + z) (by omega))
      refine lv_iload hx hb d_Disk_sumOf_5 (lv_at hl 4 rfl) ?_
      refine lv_iload_n hx hb d_Disk_sumOf_7 rfl (lv_at hl 1 rfl) ?_
      refine lv_iload_n hx hb d_Disk_sumOf_8 rfl (lv_at hl 2 rfl) ?_
      refine bk_add hx hb d_Disk_sumOf_9 ?_
      refine bk_top (y := iI ((f + k : Nat) : Int)) (congrArg iI (by omega)) ?_
      refine bk_icmp_ge (tgt := 68) hx hb d_Disk_sumOf_10 (by decide) (by omega) (by omega) (fun c10 => ?_) (fun c10 => ?_)
      · skip
        refine lv_iload_n hx hb d_Disk_sumOf_68 rfl (lv_at hl 3 rfl) ?_
        refine lv_iconst (v := iI (-1)) hx hb d_Disk_sumOf_69 rfl ?_
        refine lv_ixor hx hb d_Disk_sumOf_70 ?_
        refine bk_top (y := iI ((crcN DB f k ^^^ 4294967295 : Nat) : Int)) (by rw [iI_not, show k = j by omega]) ?_
        exact bk_reti (r := ((crcN DB f k ^^^ 4294967295 : Nat) : Int)) hx hb hr rfl hlk hAe hQ hS () rfl hP hD d_Disk_sumOf_71
      · skip
        have hd0 := hDB (f + j) (by omega)
        refine lv_iload_n hx hb d_Disk_sumOf_13 rfl (lv_at hl 3 rfl) ?_
        refine lv_aload_n hx hb d_Disk_sumOf_14 rfl (lv_at hl 0 rfl) ?_
        refine lv_iload hx hb d_Disk_sumOf_15 (lv_at hl 4 rfl) ?_
        refine bk_fR (ws := [(hk, .inr (0, [.ref qd, .ref qk, .int (iI (sz : Int)), .int (iI (bc : Int)), .int (iI tn)])), (qd, ar cI 693 DB), (qk, ar cI 15 KS)]) (Wc := [(hk, .inr (0, [.ref qd, .ref qk, .int (iI (sz : Int)), .int (iI (bc : Int)), .int (iI tn)])), (qd, ar cI 693 DB), (qk, ar cI 15 KS)]) (fun _ => rfl) (bk_hs (X := [(hk, .inr (0, [.ref qd, .ref qk, .int (iI (sz : Int)), .int (iI (bc : Int)), .int (iI tn)])), (qd, ar cI 693 DB), (qk, ar cI 15 KS)]) (pl := []) (Wc := [(hk, .inr (0, [.ref qd, .ref qk, .int (iI (sz : Int)), .int (iI (bc : Int)), .int (iI tn)])), (qd, ar cI 693 DB), (qk, ar cI 15 KS)]) [0, 1, 2] rfl) hP hD hS hA (bk_rV (rest := [.int (iI ((crcN DB f j : Nat) : Int))]) hx hb hml hown hT hK (c_Disk_at_in l D cI cO hk qd qk DB KS sz bc tn (f + j) hsz (by omega)) (bk_subP (X := [(hk, .inr (0, [.ref qd, .ref qk, .int (iI (sz : Int)), .int (iI (bc : Int)), .int (iI tn)])), (qd, ar cI 693 DB), (qk, ar cI 15 KS)]) (pl := []) (Wc := [(hk, .inr (0, [.ref qd, .ref qk, .int (iI (sz : Int)), .int (iI (bc : Int)), .int (iI tn)])), (qd, ar cI 693 DB), (qk, ar cI 15 KS)]) hP [0, 1, 2] rfl) (bk_subD (X := [(hk, .inr (0, [.ref qd, .ref qk, .int (iI (sz : Int)), .int (iI (bc : Int)), .int (iI tn)])), (qd, ar cI 693 DB), (qk, ar cI 15 KS)]) (pl := []) (Wc := [(hk, .inr (0, [.ref qd, .ref qk, .int (iI (sz : Int)), .int (iI (bc : Int)), .int (iI tn)])), (qd, ar cI 693 DB), (qk, ar cI 15 KS)]) hD [0, 1, 2] (by decide) rfl) 0 0 rfl rfl rfl tw_270 tw_271 tw_272 tw_5 tw_273 hd_Disk_at ⟨rfl, rfl⟩ (by decide) hl.1 rfl (ble_le rfl) d_Disk_sumOf_17 (by decide)) (fun r17 u H locs hq hP hS => ?_)
        have hq : r17 = DB (f + j) := hq
        obtain rfl := hq
        refine lv_sipush (v := iI 255) hx hb d_Disk_sumOf_20 (by decide) ?_
        refine lv_iand hx hb d_Disk_sumOf_23 ?_
        refine bk_top (y := iI (DB (f + j))) (by rw [iI_and255 (by omega)]; exact congrArg iI (by omega)) ?_
        refine lv_ixor hx hb d_Disk_sumOf_24 ?_
        refine bk_top (y := iI (((crcN DB f j ^^^ (DB (f + j)).toNat) : Nat) : Int)) (iI_xorV _ hd0.1) ?_
        refine lv_istore_n hx hb d_Disk_sumOf_25 rfl hl (by decide) rfl (fun ls hl => ?_)
        have hl : lv_has ls 6 [(3, .int (iI (((crcN DB f j ^^^ (DB (f + j)).toNat) : Nat) : Int))), (0, .ref hk), (1, .int (iI (f : Int))), (2, .int (iI (k : Int))), (4, .int (iI ((f + j : Nat) : Int)))] := hl
        refine lv_iconst (v := iI 0) hx hb d_Disk_sumOf_26 rfl ?_
        refine lv_istore hx hb d_Disk_sumOf_27 hl (by decide) rfl (fun ls hl => ?_)
        have hl : lv_has ls 6 [(5, .int (iI 0)), (3, .int (iI (((crcN DB f j ^^^ (DB (f + j)).toNat) : Nat) : Int))), (0, .ref hk), (1, .int (iI (f : Int))), (2, .int (iI (k : Int))), (4, .int (iI ((f + j : Nat) : Int)))] := hl
        have cut29 : ∀ (N0 : Nat) (t : Nat) (H : Heap) (locs : List Loc) (ls : Array Slot), 8 - t = N0 → (t ≤ 8) → lv_has ls 6 [(0, .ref hk), (1, .int (iI (f : Int))), (2, .int (iI (k : Int))), (3, .int (iI ((crcK (crcN DB f j ^^^ (DB (f + j)).toNat) t : Nat) : Int))), (4, .int (iI ((f + j : Nat) : Int))), (5, .int (iI (t : Int)))] → va_P D classes ([(hk, .inr (0, [.ref qd, .ref qk, .int (iI (sz : Int)), .int (iI (bc : Int)), .int (iI tn)])), (qd, ar cI 693 DB), (qk, ar cI 15 KS)]) H → va_D A ([(hk, .inr (0, [.ref qd, .ref qk, .int (iI (sz : Int)), .int (iI (bc : Int)), .int (iI tn)])), (qd, ar cI 693 DB), (qk, ar cI 15 KS)]) → va_S A s.heap H locs → W p l e rm_Disk_sumOf s m args below meth c H locs 0 0 Q (F0 m 29 ls []) := by
          intro N0
          induction N0 using Nat.strongRecOn with
          | _ N0 ih29 =>
            intro t H locs ls hN29 ht hl hP hD hS
            have hkl : crcK (crcN DB f j ^^^ (DB (f + j)).toNat) t < 4294967296 := crcK_lt (xor32 hcl (by omega))
            refine lv_iload hx hb d_Disk_sumOf_29 (lv_at hl 5 rfl) ?_
            refine lv_bipush (v := iI 8) hx hb d_Disk_sumOf_31 (by decide) ?_
            refine bk_icmp_ge (tgt := 62) hx hb d_Disk_sumOf_33 (by decide) (by omega) (by omega) (fun c33 => ?_) (fun c33 => ?_)
            · skip
              have hl : lv_has ls 6 [(0, .ref hk), (1, .int (iI (f : Int))), (2, .int (iI (k : Int))), (3, .int (iI ((crcN DB f (j + 1) : Nat) : Int))), (4, .int (iI ((f + j : Nat) : Int))), (5, .int (iI (t : Int)))] := by
                rw [show ((crcN DB f (j + 1) : Nat) : Int) = ((crcK (crcN DB f j ^^^ (DB (f + j)).toNat) t : Nat) : Int) from by rw [show t = 8 by omega]; rfl]
                exact hl
              refine lv_iinc (k := 4) (v := iI ((f + j + 1 : Nat) : Int)) hx hb d_Disk_sumOf_62 hl rfl ((iI_add _ _).trans (congrArg iI (by omega))) (by decide) rfl (fun ls hl => ?_)
              have hl : lv_has ls 6 [(4, .int (iI ((f + j + 1 : Nat) : Int))), (0, .ref hk), (1, .int (iI (f : Int))), (2, .int (iI (k : Int))), (3, .int (iI ((crcN DB f (j + 1) : Nat) : Int))), (5, .int (iI (t : Int)))] := hl
              refine lv_goto (tgt := 5) hx hb d_Disk_sumOf_65 (by decide) ?_
              exact ih5 (k - (j + 1)) (by omega) (j + 1) _ _ _ rfl (by omega) (lv_sub hl [1, 2, 3, 4, 0] rfl) hP hD hS
            · skip
              refine lv_iload_n hx hb d_Disk_sumOf_36 rfl (lv_at hl 3 rfl) ?_
              refine lv_iconst (v := iI 1) hx hb d_Disk_sumOf_37 rfl ?_
              refine lv_iand hx hb d_Disk_sumOf_38 ?_
              refine bk_top (y := iI ((crcK (crcN DB f j ^^^ (DB (f + j)).toNat) t % 2 : Nat) : Int)) (iI_and1 hkl) ?_
              refine lv_iconst (v := iI 1) hx hb d_Disk_sumOf_39 rfl ?_
              refine bk_icmp_ne (tgt := 52) hx hb d_Disk_sumOf_40 (by decide) (by omega) (by omega) (fun c40 => ?_) (fun c40 => ?_)
              · skip
                refine lv_iload_n hx hb d_Disk_sumOf_52 rfl (lv_at hl 3 rfl) ?_
                refine lv_iconst (v := iI 1) hx hb d_Disk_sumOf_53 rfl ?_
                refine lv_iushr hx hb d_Disk_sumOf_54 rfl ?_
                refine bk_top (y := iI ((crcK (crcN DB f j ^^^ (DB (f + j)).toNat) (t + 1) : Nat) : Int)) (by rw [iI_ushr1 hkl, crcK_even (by omega)]) ?_
                refine lv_istore_n hx hb d_Disk_sumOf_55 rfl hl (by decide) rfl (fun ls hl => ?_)
                have hl : lv_has ls 6 [(3, .int (iI ((crcK (crcN DB f j ^^^ (DB (f + j)).toNat) (t + 1) : Nat) : Int))), (0, .ref hk), (1, .int (iI (f : Int))), (2, .int (iI (k : Int))), (4, .int (iI ((f + j : Nat) : Int))), (5, .int (iI (t : Int)))] := hl
                refine lv_iinc (k := 5) (v := iI ((t + 1 : Nat) : Int)) hx hb d_Disk_sumOf_56 hl rfl ((iI_add _ _).trans (congrArg iI (by omega))) (by decide) rfl (fun ls hl => ?_)
                have hl : lv_has ls 6 [(5, .int (iI ((t + 1 : Nat) : Int))), (3, .int (iI ((crcK (crcN DB f j ^^^ (DB (f + j)).toNat) (t + 1) : Nat) : Int))), (0, .ref hk), (1, .int (iI (f : Int))), (2, .int (iI (k : Int))), (4, .int (iI ((f + j : Nat) : Int)))] := hl
                refine lv_goto (tgt := 29) hx hb d_Disk_sumOf_59 (by decide) ?_
                exact ih29 (8 - (t + 1)) (by omega) (t + 1) _ _ _ rfl (by omega) (lv_sub hl [2, 3, 4, 1, 5, 0] rfl) hP hD hS
              · skip
                refine lv_iload_n hx hb d_Disk_sumOf_43 rfl (lv_at hl 3 rfl) ?_
                refine lv_iconst (v := iI 1) hx hb d_Disk_sumOf_44 rfl ?_
                refine lv_iushr hx hb d_Disk_sumOf_45 rfl ?_
                refine bk_top (y := iI ((crcK (crcN DB f j ^^^ (DB (f + j)).toNat) t / 2 : Nat) : Int)) (iI_ushr1 hkl) ?_
                refine lv_ldc (v := (-306674912 : Int32)) hx hb hown (hT _ tw_274) d_Disk_sumOf_46 ?_
                refine bk_top (y := iI (-306674912)) (by decide) ?_
                refine lv_ixor hx hb d_Disk_sumOf_48 ?_
                refine bk_top (y := iI ((crcK (crcN DB f j ^^^ (DB (f + j)).toNat) (t + 1) : Nat) : Int)) (by rw [iI_xorM, crcK_odd (by omega)]) ?_
                refine lv_goto (tgt := 55) hx hb d_Disk_sumOf_49 (by decide) ?_
                refine lv_istore_n hx hb d_Disk_sumOf_55 rfl hl (by decide) rfl (fun ls hl => ?_)
                have hl : lv_has ls 6 [(3, .int (iI ((crcK (crcN DB f j ^^^ (DB (f + j)).toNat) (t + 1) : Nat) : Int))), (0, .ref hk), (1, .int (iI (f : Int))), (2, .int (iI (k : Int))), (4, .int (iI ((f + j : Nat) : Int))), (5, .int (iI (t : Int)))] := hl
                refine lv_iinc (k := 5) (v := iI ((t + 1 : Nat) : Int)) hx hb d_Disk_sumOf_56 hl rfl ((iI_add _ _).trans (congrArg iI (by omega))) (by decide) rfl (fun ls hl => ?_)
                have hl : lv_has ls 6 [(5, .int (iI ((t + 1 : Nat) : Int))), (3, .int (iI ((crcK (crcN DB f j ^^^ (DB (f + j)).toNat) (t + 1) : Nat) : Int))), (0, .ref hk), (1, .int (iI (f : Int))), (2, .int (iI (k : Int))), (4, .int (iI ((f + j : Nat) : Int)))] := hl
                refine lv_goto (tgt := 29) hx hb d_Disk_sumOf_59 (by decide) ?_
                exact ih29 (8 - (t + 1)) (by omega) (t + 1) _ _ _ rfl (by omega) (lv_sub hl [2, 3, 4, 1, 5, 0] rfl) hP hD hS
        exact cut29 _ 0 _ _ _ rfl (by omega) (lv_sub hl [2, 3, 4, 1, 5, 0] rfl) hP hD hS
  exact cut5 _ 0 _ _ _ rfl (by omega) (lv_sub hl [2, 3, 4, 1, 0] rfl) hP hD hS
abbrev rm_Disk_numberAt : Room := { frames := 1, cells := 0, slots := 0, locals := 21 }
set_option maxRecDepth 100000 in
set_option maxHeartbeats 4000000 in
theorem c_Disk_numberAt (l : Launch) (D : va_G) (cI cO : ClassId) (hk qd qk : Nat) (DB KS : Nat → Int) (sz bc : Nat) (tn : Int) (f k : Nat) (hsz : sz ≤ 693) (hDB : ∀ j, j < sz → 0 ≤ DB j ∧ DB j ≤ 255) (hfk : f + k ≤ sz) (hk1 : k ≤ 4) : Mi l y_Disk_numberAt b_Disk_numberAt 5 .int rm_Disk_numberAt D cI cO [.ref hk, .int (iI (f : Int)), .int (iI (k : Int))] ([(hk, .inr (0, [.ref qd, .ref qk, .int (iI (sz : Int)), .int (iI (bc : Int)), .int (iI tn)])), (qd, ar cI 693 DB), (qk, ar cI 15 KS)]) (fun (r : Int) (_ : Unit) => r = ((numN DB f k : Nat) : Int)) (fun (_ : Unit) => [(hk, .inr (0, [.ref qd, .ref qk, .int (iI (sz : Int)), .int (iI (bc : Int)), .int (iI tn)])), (qd, ar cI 693 DB), (qk, ar cI 15 KS)]) 0 0 := by
  refine bk_start (by decide) (ble_le rfl) ?_
  intro p e s m args below meth c A ls Q hx hb hr hml hlk hown hnm hT hK hA hAe hQ hP hD hS hl
  have hown : s.vm.findClass "BinnedReads$Disk" = some m.cls := hown
  have hl : lv_has ls 5 [(0, .ref hk), (1, .int (iI (f : Int))), (2, .int (iI (k : Int)))] := hl
  refine lv_iconst (v := iI 0) hx hb d_Disk_numberAt_0 rfl ?_
  refine lv_istore_n hx hb d_Disk_numberAt_1 rfl hl (by decide) rfl (fun ls hl => ?_)
  have hl : lv_has ls 5 [(3, .int (iI 0)), (0, .ref hk), (1, .int (iI (f : Int))), (2, .int (iI (k : Int)))] := hl
  refine lv_iconst (v := iI 0) hx hb d_Disk_numberAt_2 rfl ?_
  refine lv_istore hx hb d_Disk_numberAt_3 hl (by decide) rfl (fun ls hl => ?_)
  have hl : lv_has ls 5 [(4, .int (iI 0)), (3, .int (iI 0)), (0, .ref hk), (1, .int (iI (f : Int))), (2, .int (iI (k : Int)))] := hl
  have cut5 : ∀ (N0 : Nat) (i : Nat) (H : Heap) (locs : List Loc) (ls : Array Slot), k - i = N0 → (i ≤ k) → lv_has ls 5 [(0, .ref hk), (1, .int (iI (f : Int))), (2, .int (iI (k : Int))), (3, .int (iI ((numN DB f i : Nat) : Int))), (4, .int (iI (i : Int)))] → va_P D classes ([(hk, .inr (0, [.ref qd, .ref qk, .int (iI (sz : Int)), .int (iI (bc : Int)), .int (iI tn)])), (qd, ar cI 693 DB), (qk, ar cI 15 KS)]) H → va_D A ([(hk, .inr (0, [.ref qd, .ref qk, .int (iI (sz : Int)), .int (iI (bc : Int)), .int (iI tn)])), (qd, ar cI 693 DB), (qk, ar cI 15 KS)]) → va_S A s.heap H locs → W p l e rm_Disk_numberAt s m args below meth c H locs 0 0 Q (F0 m 5 ls []) := by
    intro N0
    induction N0 using Nat.strongRecOn with
    | _ N0 ih5 =>
      intro i H locs ls hN5 hi hl hP hD hS
      have hnl := numN_lt (F := DB) (f := f) (n := i) (fun z hz => hDB (f + z) (by omega))
      refine lv_iload hx hb d_Disk_numberAt_5 (lv_at hl 4 rfl) ?_
      refine lv_iload_n hx hb d_Disk_numberAt_7 rfl (lv_at hl 2 rfl) ?_
      refine bk_icmp_ge (tgt := 38) hx hb d_Disk_numberAt_8 (by decide) (by omega) (by omega) (fun c8 => ?_) (fun c8 => ?_)
      · skip
        refine lv_iload_n hx hb d_Disk_numberAt_38 rfl (lv_at hl 3 rfl) ?_
        exact bk_reti (r := ((numN DB f i : Nat) : Int)) hx hb hr rfl hlk hAe hQ hS () (by rw [show k = i by omega]) hP hD d_Disk_numberAt_39
      · skip
        have hd0 := hDB (f + i) (by omega)
        refine lv_iload_n hx hb d_Disk_numberAt_11 rfl (lv_at hl 3 rfl) ?_
        refine lv_aload_n hx hb d_Disk_numberAt_12 rfl (lv_at hl 0 rfl) ?_
        refine lv_iload_n hx hb d_Disk_numberAt_13 rfl (lv_at hl 1 rfl) ?_
        refine lv_iload hx hb d_Disk_numberAt_14 (lv_at hl 4 rfl) ?_
        refine bk_add hx hb d_Disk_numberAt_16 ?_
        refine bk_top (y := iI ((f + i : Nat) : Int)) (congrArg iI (by omega)) ?_
        refine bk_fR (ws := [(hk, .inr (0, [.ref qd, .ref qk, .int (iI (sz : Int)), .int (iI (bc : Int)), .int (iI tn)])), (qd, ar cI 693 DB), (qk, ar cI 15 KS)]) (Wc := [(hk, .inr (0, [.ref qd, .ref qk, .int (iI (sz : Int)), .int (iI (bc : Int)), .int (iI tn)])), (qd, ar cI 693 DB), (qk, ar cI 15 KS)]) (fun _ => rfl) (bk_hs (X := [(hk, .inr (0, [.ref qd, .ref qk, .int (iI (sz : Int)), .int (iI (bc : Int)), .int (iI tn)])), (qd, ar cI 693 DB), (qk, ar cI 15 KS)]) (pl := []) (Wc := [(hk, .inr (0, [.ref qd, .ref qk, .int (iI (sz : Int)), .int (iI (bc : Int)), .int (iI tn)])), (qd, ar cI 693 DB), (qk, ar cI 15 KS)]) [0, 1, 2] rfl) hP hD hS hA (bk_rV (rest := [.int (iI ((numN DB f i : Nat) : Int))]) hx hb hml hown hT hK (c_Disk_at_in l D cI cO hk qd qk DB KS sz bc tn (f + i) hsz (by omega)) (bk_subP (X := [(hk, .inr (0, [.ref qd, .ref qk, .int (iI (sz : Int)), .int (iI (bc : Int)), .int (iI tn)])), (qd, ar cI 693 DB), (qk, ar cI 15 KS)]) (pl := []) (Wc := [(hk, .inr (0, [.ref qd, .ref qk, .int (iI (sz : Int)), .int (iI (bc : Int)), .int (iI tn)])), (qd, ar cI 693 DB), (qk, ar cI 15 KS)]) hP [0, 1, 2] rfl) (bk_subD (X := [(hk, .inr (0, [.ref qd, .ref qk, .int (iI (sz : Int)), .int (iI (bc : Int)), .int (iI tn)])), (qd, ar cI 693 DB), (qk, ar cI 15 KS)]) (pl := []) (Wc := [(hk, .inr (0, [.ref qd, .ref qk, .int (iI (sz : Int)), .int (iI (bc : Int)), .int (iI tn)])), (qd, ar cI 693 DB), (qk, ar cI 15 KS)]) hD [0, 1, 2] (by decide) rfl) 0 0 rfl rfl rfl tw_270 tw_271 tw_272 tw_5 tw_273 hd_Disk_at ⟨rfl, rfl⟩ (by decide) hl.1 rfl (ble_le rfl) d_Disk_numberAt_17 (by decide)) (fun r17 u H locs hq hP hS => ?_)
        have hq : r17 = DB (f + i) := hq
        obtain rfl := hq
        refine lv_sipush (v := iI 255) hx hb d_Disk_numberAt_20 (by decide) ?_
        refine lv_iand hx hb d_Disk_numberAt_23 ?_
        refine bk_top (y := iI (((DB (f + i)).toNat : Nat) : Int)) (by rw [iI_and255 (by omega)]; exact congrArg iI (by omega)) ?_
        refine lv_bipush (v := iI 8) hx hb d_Disk_numberAt_24 (by decide) ?_
        refine lv_iload hx hb d_Disk_numberAt_26 (lv_at hl 4 rfl) ?_
        refine bk_mul hx hb d_Disk_numberAt_28 ?_
        refine bk_top (y := iI ((8 * i : Nat) : Int)) (congrArg iI (by omega)) ?_
        refine lv_ishl hx hb d_Disk_numberAt_29 ?_
        refine bk_top (y := iI (((DB (f + i)).toNat * 256 ^ i : Nat) : Int)) (iI_shlB (by omega) (by omega)) ?_
        refine lv_ior hx hb d_Disk_numberAt_30 ?_
        refine bk_top (y := iI ((numN DB f (i + 1) : Nat) : Int)) (iI_orB hnl) ?_
        refine lv_istore_n hx hb d_Disk_numberAt_31 rfl hl (by decide) rfl (fun ls hl => ?_)
        have hl : lv_has ls 5 [(3, .int (iI ((numN DB f (i + 1) : Nat) : Int))), (0, .ref hk), (1, .int (iI (f : Int))), (2, .int (iI (k : Int))), (4, .int (iI (i : Int)))] := hl
        refine lv_iinc (k := 4) (v := iI ((i + 1 : Nat) : Int)) hx hb d_Disk_numberAt_32 hl rfl ((iI_add _ _).trans (congrArg iI (by omega))) (by decide) rfl (fun ls hl => ?_)
        have hl : lv_has ls 5 [(4, .int (iI ((i + 1 : Nat) : Int))), (3, .int (iI ((numN DB f (i + 1) : Nat) : Int))), (0, .ref hk), (1, .int (iI (f : Int))), (2, .int (iI (k : Int)))] := hl
        refine lv_goto (tgt := 5) hx hb d_Disk_numberAt_35 (by decide) ?_
        exact ih5 (k - (i + 1)) (by omega) (i + 1) _ _ _ rfl (by omega) (lv_sub hl [2, 3, 4, 1, 0] rfl) hP hD hS
  exact cut5 _ 0 _ _ _ rfl (by omega) (lv_sub hl [2, 3, 4, 1, 0] rfl) hP hD hS
abbrev rm_Disk_turnBit : Room := { frames := 0, cells := 0, slots := 0, locals := 0 }
set_option maxRecDepth 100000 in
set_option maxHeartbeats 4000000 in
theorem c_Disk_turnBit (l : Launch) (D : va_G) (cI cO : ClassId) (hk qd qk : Nat) (DB KS : Nat → Int) (sz bc : Nat) (tn : Int) (k b : Int) (hsz : sz ≤ 693) (hDB : ∀ j, j < sz → 0 ≤ DB j ∧ DB j ≤ 255) (hk1 : -2147483648 ≤ k ∧ k < 2147483648) (hb1 : -2147483648 ≤ b ∧ b < 2147483648) (htn : -1 ≤ tn ∧ tn < 8 * 693) : Mi l y_Disk_turnBit b_Disk_turnBit 4 .boolean rm_Disk_turnBit D cI cO [.ref hk, .int (iI k), .int (iI b)] ([(hk, .inr (0, [.ref qd, .ref qk, .int (iI (sz : Int)), .int (iI (bc : Int)), .int (iI tn)])), (qd, ar cI 693 DB), (qk, ar cI 15 KS)]) (fun (r : Int) (u : (Nat → Int) × Int) => ((0 ≤ k ∧ k < (sz : Int) ∧ 0 ≤ b ∧ b ≤ 7 ∧ (tn = -1 ∨ tn = 8 * k + b)) ∧ r = 1 ∧ u.1 = bU DB k.toNat (((DB k.toNat).toNat ^^^ 2 ^ b.toNat : Nat) : Int) ∧ u.2 = (if tn = -1 then 8 * k + b else -1)) ∨ (¬ (0 ≤ k ∧ k < (sz : Int) ∧ 0 ≤ b ∧ b ≤ 7 ∧ (tn = -1 ∨ tn = 8 * k + b)) ∧ r = 0 ∧ u.1 = DB ∧ u.2 = tn)) (fun (u : (Nat → Int) × Int) => [(hk, .inr (0, [.ref qd, .ref qk, .int (iI (sz : Int)), .int (iI (bc : Int)), .int (iI u.2)])), (qd, ar cI 693 u.1), (qk, ar cI 15 KS)]) 0 0 := by
  refine bk_start (by decide) (ble_le rfl) ?_
  intro p e s m args below meth c A ls Q hx hb hr hml hlk hown hnm hT hK hA hAe hQ hP hD hS hl
  have hown : s.vm.findClass "BinnedReads$Disk" = some m.cls := hown
  have hl : lv_has ls 4 [(0, .ref hk), (1, .int (iI k)), (2, .int (iI b))] := hl
  refine lv_iload_n hx hb d_Disk_turnBit_0 rfl (lv_at hl 1 rfl) ?_
  refine bk_if_lt (tgt := 22) hx hb d_Disk_turnBit_1 (by decide) (by omega) (fun c1 => ?_) (fun c1 => ?_)
  · skip
    refine lv_iconst (v := iI 0) hx hb d_Disk_turnBit_22 rfl ?_
    exact bk_reti (r := 0) hx hb hr iI_nar0 hlk hAe hQ hS (DB, tn) (Or.inr ⟨by omega, rfl, rfl, rfl⟩) hP hD d_Disk_turnBit_23
  · skip
    refine lv_iload_n hx hb d_Disk_turnBit_4 rfl (lv_at hl 1 rfl) ?_
    refine lv_aload_n hx hb d_Disk_turnBit_5 rfl (lv_at hl 0 rfl) ?_
    refine va_get (ci := 0) (C := R_Disk) (T := F_Disk) (N := 5) hx hb hT in_Disk hown hK.1 hP 0 rfl rfl 2 (by decide) (hT _ tw_99) (fun _ h => h) rfl d_Disk_turnBit_6 ?_
    refine bk_icmp_ge (tgt := 22) hx hb d_Disk_turnBit_9 (by decide) (by omega) (by omega) (fun c9 => ?_) (fun c9 => ?_)
    · skip
      refine lv_iconst (v := iI 0) hx hb d_Disk_turnBit_22 rfl ?_
      exact bk_reti (r := 0) hx hb hr iI_nar0 hlk hAe hQ hS (DB, tn) (Or.inr ⟨by omega, rfl, rfl, rfl⟩) hP hD d_Disk_turnBit_23
    · skip
      refine lv_iload_n hx hb d_Disk_turnBit_12 rfl (lv_at hl 2 rfl) ?_
      refine bk_if_lt (tgt := 22) hx hb d_Disk_turnBit_13 (by decide) (by omega) (fun c13 => ?_) (fun c13 => ?_)
      · skip
        refine lv_iconst (v := iI 0) hx hb d_Disk_turnBit_22 rfl ?_
        exact bk_reti (r := 0) hx hb hr iI_nar0 hlk hAe hQ hS (DB, tn) (Or.inr ⟨by omega, rfl, rfl, rfl⟩) hP hD d_Disk_turnBit_23
      · skip
        refine lv_iload_n hx hb d_Disk_turnBit_16 rfl (lv_at hl 2 rfl) ?_
        refine lv_bipush (v := iI 7) hx hb d_Disk_turnBit_17 (by decide) ?_
        refine bk_icmp_le (tgt := 24) hx hb d_Disk_turnBit_19 (by decide) (by omega) (by omega) (fun c19 => ?_) (fun c19 => ?_)
        · skip
          have hd0 := hDB k.toNat (by omega)
          refine lv_bipush (v := iI 8) hx hb d_Disk_turnBit_24 (by decide) ?_
          refine lv_iload_n hx hb d_Disk_turnBit_26 rfl (lv_at hl 1 rfl) ?_
          refine bk_mul hx hb d_Disk_turnBit_27 ?_
          refine lv_iload_n hx hb d_Disk_turnBit_28 rfl (lv_at hl 2 rfl) ?_
          refine bk_add hx hb d_Disk_turnBit_29 ?_
          refine lv_istore_n hx hb d_Disk_turnBit_30 rfl hl (by decide) rfl (fun ls hl => ?_)
          have hl : lv_has ls 4 [(3, .int (iI (8 * k + b))), (0, .ref hk), (1, .int (iI k)), (2, .int (iI b))] := hl
          refine lv_aload_n hx hb d_Disk_turnBit_31 rfl (lv_at hl 1 rfl) ?_
          refine va_get (ci := 0) (C := R_Disk) (T := F_Disk) (N := 5) hx hb hT in_Disk hown hK.1 hP 0 rfl rfl 4 (by decide) (hT _ tw_103) (fun _ h => h) rfl d_Disk_turnBit_32 ?_
          refine lv_iconst (v := iI (-1)) hx hb d_Disk_turnBit_35 rfl ?_
          refine bk_icmp_eq (tgt := 49) hx hb d_Disk_turnBit_36 (by decide) (by omega) (by omega) (fun c36 => ?_) (fun c36 => ?_)
          · skip
            refine lv_aload_n hx hb d_Disk_turnBit_49 rfl (lv_at hl 1 rfl) ?_
            refine va_get (ci := 0) (C := R_Disk) (T := F_Disk) (N := 5) hx hb hT in_Disk hown hK.1 hP 0 rfl rfl 0 (by decide) (hT _ tw_97) (fun _ h => h) rfl d_Disk_turnBit_50 ?_
            refine lv_iload_n hx hb d_Disk_turnBit_53 rfl (lv_at hl 2 rfl) ?_
            refine lv_dup2_11 hx hb d_Disk_turnBit_54 rfl rfl ?_
            refine bk_iald hx hb hK.1 hP 1 0 rfl rfl k.toNat (by omega) (by decide) d_Disk_turnBit_55 ?_
            refine lv_iconst (v := iI 1) hx hb d_Disk_turnBit_56 rfl ?_
            refine lv_iload_n hx hb d_Disk_turnBit_57 rfl (lv_at hl 3 rfl) ?_
            refine lv_ishl hx hb d_Disk_turnBit_58 ?_
            refine bk_top (y := iI ((2 ^ b.toNat : Nat) : Int)) (iI_shl1 (by omega)) ?_
            refine lv_ixor hx hb d_Disk_turnBit_59 ?_
            refine bk_top (y := iI (((DB k.toNat).toNat ^^^ 2 ^ b.toNat : Nat) : Int)) (iI_xorVV hd0.1 (Int.natCast_nonneg _)) ?_
            refine bk_iast hx hb hK.1 hP hD hS 1 0 rfl rfl k.toNat (by omega) (by decide) d_Disk_turnBit_60 (fun H locs hP hD hS => ?_)
            have hP : va_P D classes ([(hk, .inr (0, [.ref qd, .ref qk, .int (iI (sz : Int)), .int (iI (bc : Int)), .int (iI tn)])), (qd, ar cI 693 (bU DB k.toNat (((DB k.toNat).toNat ^^^ 2 ^ b.toNat : Nat) : Int))), (qk, ar cI 15 KS)]) H := hP
            have hD : va_D A ([(hk, .inr (0, [.ref qd, .ref qk, .int (iI (sz : Int)), .int (iI (bc : Int)), .int (iI tn)])), (qd, ar cI 693 (bU DB k.toNat (((DB k.toNat).toNat ^^^ 2 ^ b.toNat : Nat) : Int))), (qk, ar cI 15 KS)]) := hD
            refine lv_aload_n hx hb d_Disk_turnBit_61 rfl (lv_at hl 1 rfl) ?_
            refine lv_aload_n hx hb d_Disk_turnBit_62 rfl (lv_at hl 1 rfl) ?_
            refine va_get (ci := 0) (C := R_Disk) (T := F_Disk) (N := 5) hx hb hT in_Disk hown hK.1 hP 0 rfl rfl 4 (by decide) (hT _ tw_103) (fun _ h => h) rfl d_Disk_turnBit_63 ?_
            refine lv_iconst (v := iI (-1)) hx hb d_Disk_turnBit_66 rfl ?_
            refine bk_icmp_ne (tgt := 74) hx hb d_Disk_turnBit_67 (by decide) (by omega) (by omega) (fun c67 => ?_) (fun c67 => ?_)
            · skip
              refine lv_iconst (v := iI (-1)) hx hb d_Disk_turnBit_74 rfl ?_
              refine va_put (ci := 0) (v := .int (iI (-1))) (ty := .int) (C := R_Disk) (T := F_Disk) (N := 5) hx hb hT in_Disk t_Disk to_Disk n_Disk hown hK.1 hP hD hS 0 rfl rfl 4 (by decide) (hT _ tw_103) (fun _ h => h) rfl (by decide +kernel) rfl rfl (ble_lt rfl) d_Disk_turnBit_75 (fun H locs hP hD hS => ?_)
              have hP : va_P D classes ([(hk, .inr (0, [.ref qd, .ref qk, .int (iI (sz : Int)), .int (iI (bc : Int)), .int (iI (-1))])), (qd, ar cI 693 (bU DB k.toNat (((DB k.toNat).toNat ^^^ 2 ^ b.toNat : Nat) : Int))), (qk, ar cI 15 KS)]) H := hP
              have hD : va_D A ([(hk, .inr (0, [.ref qd, .ref qk, .int (iI (sz : Int)), .int (iI (bc : Int)), .int (iI (-1))])), (qd, ar cI 693 (bU DB k.toNat (((DB k.toNat).toNat ^^^ 2 ^ b.toNat : Nat) : Int))), (qk, ar cI 15 KS)]) := hD
              refine lv_iconst (v := iI 1) hx hb d_Disk_turnBit_78 rfl ?_
              exact bk_reti (r := 1) hx hb hr iI_nar1 hlk hAe hQ hS (bU DB k.toNat (((DB k.toNat).toNat ^^^ 2 ^ b.toNat : Nat) : Int), (-1)) (Or.inl ⟨by omega, rfl, rfl, by dsimp only; split <;> omega⟩) hP hD d_Disk_turnBit_79
            · skip
              refine lv_iload_n hx hb d_Disk_turnBit_70 rfl (lv_at hl 0 rfl) ?_
              refine lv_goto (tgt := 75) hx hb d_Disk_turnBit_71 (by decide) ?_
              refine va_put (ci := 0) (v := .int (iI (8 * k + b))) (ty := .int) (C := R_Disk) (T := F_Disk) (N := 5) hx hb hT in_Disk t_Disk to_Disk n_Disk hown hK.1 hP hD hS 0 rfl rfl 4 (by decide) (hT _ tw_103) (fun _ h => h) rfl (by decide +kernel) rfl rfl (ble_lt rfl) d_Disk_turnBit_75 (fun H locs hP hD hS => ?_)
              have hP : va_P D classes ([(hk, .inr (0, [.ref qd, .ref qk, .int (iI (sz : Int)), .int (iI (bc : Int)), .int (iI (8 * k + b))])), (qd, ar cI 693 (bU DB k.toNat (((DB k.toNat).toNat ^^^ 2 ^ b.toNat : Nat) : Int))), (qk, ar cI 15 KS)]) H := hP
              have hD : va_D A ([(hk, .inr (0, [.ref qd, .ref qk, .int (iI (sz : Int)), .int (iI (bc : Int)), .int (iI (8 * k + b))])), (qd, ar cI 693 (bU DB k.toNat (((DB k.toNat).toNat ^^^ 2 ^ b.toNat : Nat) : Int))), (qk, ar cI 15 KS)]) := hD
              refine lv_iconst (v := iI 1) hx hb d_Disk_turnBit_78 rfl ?_
              exact bk_reti (r := 1) hx hb hr iI_nar1 hlk hAe hQ hS (bU DB k.toNat (((DB k.toNat).toNat ^^^ 2 ^ b.toNat : Nat) : Int), 8 * k + b) (Or.inl ⟨by omega, rfl, rfl, by dsimp only; split <;> omega⟩) hP hD d_Disk_turnBit_79
          · skip
            refine lv_aload_n hx hb d_Disk_turnBit_39 rfl (lv_at hl 1 rfl) ?_
            refine va_get (ci := 0) (C := R_Disk) (T := F_Disk) (N := 5) hx hb hT in_Disk hown hK.1 hP 0 rfl rfl 4 (by decide) (hT _ tw_103) (fun _ h => h) rfl d_Disk_turnBit_40 ?_
            refine lv_iload_n hx hb d_Disk_turnBit_43 rfl (lv_at hl 0 rfl) ?_
            refine bk_icmp_eq (tgt := 49) hx hb d_Disk_turnBit_44 (by decide) (by omega) (by omega) (fun c44 => ?_) (fun c44 => ?_)
            · skip
              refine lv_aload_n hx hb d_Disk_turnBit_49 rfl (lv_at hl 1 rfl) ?_
              refine va_get (ci := 0) (C := R_Disk) (T := F_Disk) (N := 5) hx hb hT in_Disk hown hK.1 hP 0 rfl rfl 0 (by decide) (hT _ tw_97) (fun _ h => h) rfl d_Disk_turnBit_50 ?_
              refine lv_iload_n hx hb d_Disk_turnBit_53 rfl (lv_at hl 2 rfl) ?_
              refine lv_dup2_11 hx hb d_Disk_turnBit_54 rfl rfl ?_
              refine bk_iald hx hb hK.1 hP 1 0 rfl rfl k.toNat (by omega) (by decide) d_Disk_turnBit_55 ?_
              refine lv_iconst (v := iI 1) hx hb d_Disk_turnBit_56 rfl ?_
              refine lv_iload_n hx hb d_Disk_turnBit_57 rfl (lv_at hl 3 rfl) ?_
              refine lv_ishl hx hb d_Disk_turnBit_58 ?_
              refine bk_top (y := iI ((2 ^ b.toNat : Nat) : Int)) (iI_shl1 (by omega)) ?_
              refine lv_ixor hx hb d_Disk_turnBit_59 ?_
              refine bk_top (y := iI (((DB k.toNat).toNat ^^^ 2 ^ b.toNat : Nat) : Int)) (iI_xorVV hd0.1 (Int.natCast_nonneg _)) ?_
              refine bk_iast hx hb hK.1 hP hD hS 1 0 rfl rfl k.toNat (by omega) (by decide) d_Disk_turnBit_60 (fun H locs hP hD hS => ?_)
              have hP : va_P D classes ([(hk, .inr (0, [.ref qd, .ref qk, .int (iI (sz : Int)), .int (iI (bc : Int)), .int (iI tn)])), (qd, ar cI 693 (bU DB k.toNat (((DB k.toNat).toNat ^^^ 2 ^ b.toNat : Nat) : Int))), (qk, ar cI 15 KS)]) H := hP
              have hD : va_D A ([(hk, .inr (0, [.ref qd, .ref qk, .int (iI (sz : Int)), .int (iI (bc : Int)), .int (iI tn)])), (qd, ar cI 693 (bU DB k.toNat (((DB k.toNat).toNat ^^^ 2 ^ b.toNat : Nat) : Int))), (qk, ar cI 15 KS)]) := hD
              refine lv_aload_n hx hb d_Disk_turnBit_61 rfl (lv_at hl 1 rfl) ?_
              refine lv_aload_n hx hb d_Disk_turnBit_62 rfl (lv_at hl 1 rfl) ?_
              refine va_get (ci := 0) (C := R_Disk) (T := F_Disk) (N := 5) hx hb hT in_Disk hown hK.1 hP 0 rfl rfl 4 (by decide) (hT _ tw_103) (fun _ h => h) rfl d_Disk_turnBit_63 ?_
              refine lv_iconst (v := iI (-1)) hx hb d_Disk_turnBit_66 rfl ?_
              refine bk_icmp_ne (tgt := 74) hx hb d_Disk_turnBit_67 (by decide) (by omega) (by omega) (fun c67 => ?_) (fun c67 => ?_)
              · skip
                refine lv_iconst (v := iI (-1)) hx hb d_Disk_turnBit_74 rfl ?_
                refine va_put (ci := 0) (v := .int (iI (-1))) (ty := .int) (C := R_Disk) (T := F_Disk) (N := 5) hx hb hT in_Disk t_Disk to_Disk n_Disk hown hK.1 hP hD hS 0 rfl rfl 4 (by decide) (hT _ tw_103) (fun _ h => h) rfl (by decide +kernel) rfl rfl (ble_lt rfl) d_Disk_turnBit_75 (fun H locs hP hD hS => ?_)
                have hP : va_P D classes ([(hk, .inr (0, [.ref qd, .ref qk, .int (iI (sz : Int)), .int (iI (bc : Int)), .int (iI (-1))])), (qd, ar cI 693 (bU DB k.toNat (((DB k.toNat).toNat ^^^ 2 ^ b.toNat : Nat) : Int))), (qk, ar cI 15 KS)]) H := hP
                have hD : va_D A ([(hk, .inr (0, [.ref qd, .ref qk, .int (iI (sz : Int)), .int (iI (bc : Int)), .int (iI (-1))])), (qd, ar cI 693 (bU DB k.toNat (((DB k.toNat).toNat ^^^ 2 ^ b.toNat : Nat) : Int))), (qk, ar cI 15 KS)]) := hD
                refine lv_iconst (v := iI 1) hx hb d_Disk_turnBit_78 rfl ?_
                exact bk_reti (r := 1) hx hb hr iI_nar1 hlk hAe hQ hS (bU DB k.toNat (((DB k.toNat).toNat ^^^ 2 ^ b.toNat : Nat) : Int), (-1)) (Or.inl ⟨by omega, rfl, rfl, by dsimp only; split <;> omega⟩) hP hD d_Disk_turnBit_79
              · skip
                refine lv_iload_n hx hb d_Disk_turnBit_70 rfl (lv_at hl 0 rfl) ?_
                refine lv_goto (tgt := 75) hx hb d_Disk_turnBit_71 (by decide) ?_
                refine va_put (ci := 0) (v := .int (iI (8 * k + b))) (ty := .int) (C := R_Disk) (T := F_Disk) (N := 5) hx hb hT in_Disk t_Disk to_Disk n_Disk hown hK.1 hP hD hS 0 rfl rfl 4 (by decide) (hT _ tw_103) (fun _ h => h) rfl (by decide +kernel) rfl rfl (ble_lt rfl) d_Disk_turnBit_75 (fun H locs hP hD hS => ?_)
                have hP : va_P D classes ([(hk, .inr (0, [.ref qd, .ref qk, .int (iI (sz : Int)), .int (iI (bc : Int)), .int (iI (8 * k + b))])), (qd, ar cI 693 (bU DB k.toNat (((DB k.toNat).toNat ^^^ 2 ^ b.toNat : Nat) : Int))), (qk, ar cI 15 KS)]) H := hP
                have hD : va_D A ([(hk, .inr (0, [.ref qd, .ref qk, .int (iI (sz : Int)), .int (iI (bc : Int)), .int (iI (8 * k + b))])), (qd, ar cI 693 (bU DB k.toNat (((DB k.toNat).toNat ^^^ 2 ^ b.toNat : Nat) : Int))), (qk, ar cI 15 KS)]) := hD
                refine lv_iconst (v := iI 1) hx hb d_Disk_turnBit_78 rfl ?_
                exact bk_reti (r := 1) hx hb hr iI_nar1 hlk hAe hQ hS (bU DB k.toNat (((DB k.toNat).toNat ^^^ 2 ^ b.toNat : Nat) : Int), 8 * k + b) (Or.inl ⟨by omega, rfl, rfl, by dsimp only; split <;> omega⟩) hP hD d_Disk_turnBit_79
            · skip
              refine lv_iconst (v := iI 0) hx hb d_Disk_turnBit_47 rfl ?_
              exact bk_reti (r := 0) hx hb hr iI_nar0 hlk hAe hQ hS (DB, tn) (Or.inr ⟨by omega, rfl, rfl, rfl⟩) hP hD d_Disk_turnBit_48
        · skip
          refine lv_iconst (v := iI 0) hx hb d_Disk_turnBit_22 rfl ?_
          exact bk_reti (r := 0) hx hb hr iI_nar0 hlk hAe hQ hS (DB, tn) (Or.inr ⟨by omega, rfl, rfl, rfl⟩) hP hD d_Disk_turnBit_23
abbrev rm_Disk_isSound : Room := { frames := 2, cells := 0, slots := 0, locals := 46 }
set_option maxRecDepth 100000 in
set_option maxHeartbeats 4000000 in
theorem c_Disk_isSound (l : Launch) (D : va_G) (cI cO : ClassId) (hk qd qk : Nat) (DB KS : Nat → Int) (sz bc : Nat) (tn : Int) (b st : Nat) (hsz : sz ≤ 693) (hDB : ∀ j, j < sz → 0 ≤ DB j ∧ DB j ≤ 255) (hb1 : b < bc ∧ bc ≤ 15) (hst : KS b = (st : Int) ∧ st + 11 ≤ sz) : Mi l y_Disk_isSound b_Disk_isSound 5 .boolean rm_Disk_isSound D cI cO [.ref hk, .int (iI (b : Int))] ([(hk, .inr (0, [.ref qd, .ref qk, .int (iI (sz : Int)), .int (iI (bc : Int)), .int (iI tn)])), (qd, ar cI 693 DB), (qk, ar cI 15 KS)]) (fun (r : Int) (_ : Unit) => (sndN DB sz st ∧ r = 1) ∨ (¬ sndN DB sz st ∧ r = 0)) (fun (_ : Unit) => [(hk, .inr (0, [.ref qd, .ref qk, .int (iI (sz : Int)), .int (iI (bc : Int)), .int (iI tn)])), (qd, ar cI 693 DB), (qk, ar cI 15 KS)]) 0 0 := by
  refine bk_start (by decide) (ble_le rfl) ?_
  intro p e s m args below meth c A ls Q hx hb hr hml hlk hown hnm hT hK hA hAe hQ hP hD hS hl
  have hown : s.vm.findClass "BinnedReads$Disk" = some m.cls := hown
  have hl : lv_has ls 5 [(0, .ref hk), (1, .int (iI (b : Int)))] := hl
  have h0 := hDB st (by omega)
  have h1 := hDB (st + 1) (by omega)
  have h2 := hDB (st + 2) (by omega)
  have hn3 : numN DB (st + 3) 2 < 65536 := numN_lt (n := 2) (fun j hj => hDB (st + 3 + j) (by omega))
  have hn5 : numN DB (st + 5) 2 < 65536 := numN_lt (n := 2) (fun j hj => hDB (st + 5 + j) (by omega))
  refine lv_iload_n hx hb d_Disk_isSound_0 rfl (lv_at hl 1 rfl) ?_
  refine bk_if_lt (tgt := 12) hx hb d_Disk_isSound_1 (by decide) (by omega) (fun c1 => ?_) (fun c1 => ?_)
  · skip
    exact absurd c1 (by omega)
  · skip
    refine lv_iload_n hx hb d_Disk_isSound_4 rfl (lv_at hl 1 rfl) ?_
    refine lv_aload_n hx hb d_Disk_isSound_5 rfl (lv_at hl 0 rfl) ?_
    refine va_get (ci := 0) (C := R_Disk) (T := F_Disk) (N := 5) hx hb hT in_Disk hown hK.1 hP 0 rfl rfl 3 (by decide) (hT _ tw_101) (fun _ h => h) rfl d_Disk_isSound_6 ?_
    refine bk_icmp_lt (tgt := 14) hx hb d_Disk_isSound_9 (by decide) (by omega) (by omega) (fun c9 => ?_) (fun c9 => ?_)
    · skip
      refine lv_aload_n hx hb d_Disk_isSound_14 rfl (lv_at hl 0 rfl) ?_
      refine va_get (ci := 0) (C := R_Disk) (T := F_Disk) (N := 5) hx hb hT in_Disk hown hK.1 hP 0 rfl rfl 1 (by decide) (hT _ tw_98) (fun _ h => h) rfl d_Disk_isSound_15 ?_
      refine lv_iload_n hx hb d_Disk_isSound_18 rfl (lv_at hl 1 rfl) ?_
      refine bk_iald hx hb hK.1 hP 2 0 rfl rfl b (by omega) (by decide) d_Disk_isSound_19 ?_
      refine bk_top (y := iI (st : Int)) (by rw [hst.1]) ?_
      refine lv_istore_n hx hb d_Disk_isSound_20 rfl hl (by decide) rfl (fun ls hl => ?_)
      have hl : lv_has ls 5 [(2, .int (iI (st : Int))), (0, .ref hk), (1, .int (iI (b : Int)))] := hl
      refine lv_aload_n hx hb d_Disk_isSound_21 rfl (lv_at hl 1 rfl) ?_
      refine lv_iload_n hx hb d_Disk_isSound_22 rfl (lv_at hl 0 rfl) ?_
      refine bk_fR (ws := [(hk, .inr (0, [.ref qd, .ref qk, .int (iI (sz : Int)), .int (iI (bc : Int)), .int (iI tn)])), (qd, ar cI 693 DB), (qk, ar cI 15 KS)]) (Wc := [(hk, .inr (0, [.ref qd, .ref qk, .int (iI (sz : Int)), .int (iI (bc : Int)), .int (iI tn)])), (qd, ar cI 693 DB), (qk, ar cI 15 KS)]) (fun _ => rfl) (bk_hs (X := [(hk, .inr (0, [.ref qd, .ref qk, .int (iI (sz : Int)), .int (iI (bc : Int)), .int (iI tn)])), (qd, ar cI 693 DB), (qk, ar cI 15 KS)]) (pl := []) (Wc := [(hk, .inr (0, [.ref qd, .ref qk, .int (iI (sz : Int)), .int (iI (bc : Int)), .int (iI tn)])), (qd, ar cI 693 DB), (qk, ar cI 15 KS)]) [0, 1, 2] rfl) hP hD hS hA (bk_rV (rest := []) hx hb hml hown hT hK (c_Disk_at_in l D cI cO hk qd qk DB KS sz bc tn st hsz (by omega)) (bk_subP (X := [(hk, .inr (0, [.ref qd, .ref qk, .int (iI (sz : Int)), .int (iI (bc : Int)), .int (iI tn)])), (qd, ar cI 693 DB), (qk, ar cI 15 KS)]) (pl := []) (Wc := [(hk, .inr (0, [.ref qd, .ref qk, .int (iI (sz : Int)), .int (iI (bc : Int)), .int (iI tn)])), (qd, ar cI 693 DB), (qk, ar cI 15 KS)]) hP [0, 1, 2] rfl) (bk_subD (X := [(hk, .inr (0, [.ref qd, .ref qk, .int (iI (sz : Int)), .int (iI (bc : Int)), .int (iI tn)])), (qd, ar cI 693 DB), (qk, ar cI 15 KS)]) (pl := []) (Wc := [(hk, .inr (0, [.ref qd, .ref qk, .int (iI (sz : Int)), .int (iI (bc : Int)), .int (iI tn)])), (qd, ar cI 693 DB), (qk, ar cI 15 KS)]) hD [0, 1, 2] (by decide) rfl) 0 0 rfl rfl rfl tw_270 tw_271 tw_272 tw_5 tw_273 hd_Disk_at ⟨rfl, rfl⟩ (by decide) hl.1 rfl (ble_le rfl) d_Disk_isSound_23 (by decide)) (fun r23 u H locs hq hP hS => ?_)
      have hq : r23 = DB st := hq
      obtain rfl := hq
      refine lv_bipush (v := iI 31) hx hb d_Disk_isSound_26 (by decide) ?_
      refine bk_icmp_ne (tgt := 55) hx hb d_Disk_isSound_28 (by decide) (by omega) (by omega) (fun c28 => ?_) (fun c28 => ?_)
      · skip
        refine lv_iconst (v := iI 0) hx hb d_Disk_isSound_55 rfl ?_
        exact bk_reti (r := 0) hx hb hr iI_nar0 hlk hAe hQ hS () (Or.inr ⟨fun q => by obtain ⟨q1, q2, q3, q4, q5, q6⟩ := q; omega, rfl⟩) hP hD d_Disk_isSound_56
      · skip
        refine lv_aload_n hx hb d_Disk_isSound_31 rfl (lv_at hl 1 rfl) ?_
        refine lv_iload_n hx hb d_Disk_isSound_32 rfl (lv_at hl 0 rfl) ?_
        refine lv_iconst (v := iI 1) hx hb d_Disk_isSound_33 rfl ?_
        refine bk_add hx hb d_Disk_isSound_34 ?_
        refine bk_top (y := iI ((st + 1 : Nat) : Int)) (congrArg iI (by omega)) ?_
        refine bk_fR (ws := [(hk, .inr (0, [.ref qd, .ref qk, .int (iI (sz : Int)), .int (iI (bc : Int)), .int (iI tn)])), (qd, ar cI 693 DB), (qk, ar cI 15 KS)]) (Wc := [(hk, .inr (0, [.ref qd, .ref qk, .int (iI (sz : Int)), .int (iI (bc : Int)), .int (iI tn)])), (qd, ar cI 693 DB), (qk, ar cI 15 KS)]) (fun _ => rfl) (bk_hs (X := [(hk, .inr (0, [.ref qd, .ref qk, .int (iI (sz : Int)), .int (iI (bc : Int)), .int (iI tn)])), (qd, ar cI 693 DB), (qk, ar cI 15 KS)]) (pl := []) (Wc := [(hk, .inr (0, [.ref qd, .ref qk, .int (iI (sz : Int)), .int (iI (bc : Int)), .int (iI tn)])), (qd, ar cI 693 DB), (qk, ar cI 15 KS)]) [0, 1, 2] rfl) hP hD hS hA (bk_rV (rest := []) hx hb hml hown hT hK (c_Disk_at_in l D cI cO hk qd qk DB KS sz bc tn (st + 1) hsz (by omega)) (bk_subP (X := [(hk, .inr (0, [.ref qd, .ref qk, .int (iI (sz : Int)), .int (iI (bc : Int)), .int (iI tn)])), (qd, ar cI 693 DB), (qk, ar cI 15 KS)]) (pl := []) (Wc := [(hk, .inr (0, [.ref qd, .ref qk, .int (iI (sz : Int)), .int (iI (bc : Int)), .int (iI tn)])), (qd, ar cI 693 DB), (qk, ar cI 15 KS)]) hP [0, 1, 2] rfl) (bk_subD (X := [(hk, .inr (0, [.ref qd, .ref qk, .int (iI (sz : Int)), .int (iI (bc : Int)), .int (iI tn)])), (qd, ar cI 693 DB), (qk, ar cI 15 KS)]) (pl := []) (Wc := [(hk, .inr (0, [.ref qd, .ref qk, .int (iI (sz : Int)), .int (iI (bc : Int)), .int (iI tn)])), (qd, ar cI 693 DB), (qk, ar cI 15 KS)]) hD [0, 1, 2] (by decide) rfl) 0 0 rfl rfl rfl tw_270 tw_271 tw_272 tw_5 tw_273 hd_Disk_at ⟨rfl, rfl⟩ (by decide) hl.1 rfl (ble_le rfl) d_Disk_isSound_35 (by decide)) (fun r35 u H locs hq hP hS => ?_)
        have hq : r35 = DB (st + 1) := hq
        obtain rfl := hq
        refine lv_sipush (v := iI 139) hx hb d_Disk_isSound_38 (by decide) ?_
        refine bk_icmp_ne (tgt := 55) hx hb d_Disk_isSound_41 (by decide) (by omega) (by omega) (fun c41 => ?_) (fun c41 => ?_)
        · skip
          refine lv_iconst (v := iI 0) hx hb d_Disk_isSound_55 rfl ?_
          exact bk_reti (r := 0) hx hb hr iI_nar0 hlk hAe hQ hS () (Or.inr ⟨fun q => by obtain ⟨q1, q2, q3, q4, q5, q6⟩ := q; omega, rfl⟩) hP hD d_Disk_isSound_56
        · skip
          refine lv_aload_n hx hb d_Disk_isSound_44 rfl (lv_at hl 1 rfl) ?_
          refine lv_iload_n hx hb d_Disk_isSound_45 rfl (lv_at hl 0 rfl) ?_
          refine lv_iconst (v := iI 2) hx hb d_Disk_isSound_46 rfl ?_
          refine bk_add hx hb d_Disk_isSound_47 ?_
          refine bk_top (y := iI ((st + 2 : Nat) : Int)) (congrArg iI (by omega)) ?_
          refine bk_fR (ws := [(hk, .inr (0, [.ref qd, .ref qk, .int (iI (sz : Int)), .int (iI (bc : Int)), .int (iI tn)])), (qd, ar cI 693 DB), (qk, ar cI 15 KS)]) (Wc := [(hk, .inr (0, [.ref qd, .ref qk, .int (iI (sz : Int)), .int (iI (bc : Int)), .int (iI tn)])), (qd, ar cI 693 DB), (qk, ar cI 15 KS)]) (fun _ => rfl) (bk_hs (X := [(hk, .inr (0, [.ref qd, .ref qk, .int (iI (sz : Int)), .int (iI (bc : Int)), .int (iI tn)])), (qd, ar cI 693 DB), (qk, ar cI 15 KS)]) (pl := []) (Wc := [(hk, .inr (0, [.ref qd, .ref qk, .int (iI (sz : Int)), .int (iI (bc : Int)), .int (iI tn)])), (qd, ar cI 693 DB), (qk, ar cI 15 KS)]) [0, 1, 2] rfl) hP hD hS hA (bk_rV (rest := []) hx hb hml hown hT hK (c_Disk_at_in l D cI cO hk qd qk DB KS sz bc tn (st + 2) hsz (by omega)) (bk_subP (X := [(hk, .inr (0, [.ref qd, .ref qk, .int (iI (sz : Int)), .int (iI (bc : Int)), .int (iI tn)])), (qd, ar cI 693 DB), (qk, ar cI 15 KS)]) (pl := []) (Wc := [(hk, .inr (0, [.ref qd, .ref qk, .int (iI (sz : Int)), .int (iI (bc : Int)), .int (iI tn)])), (qd, ar cI 693 DB), (qk, ar cI 15 KS)]) hP [0, 1, 2] rfl) (bk_subD (X := [(hk, .inr (0, [.ref qd, .ref qk, .int (iI (sz : Int)), .int (iI (bc : Int)), .int (iI tn)])), (qd, ar cI 693 DB), (qk, ar cI 15 KS)]) (pl := []) (Wc := [(hk, .inr (0, [.ref qd, .ref qk, .int (iI (sz : Int)), .int (iI (bc : Int)), .int (iI tn)])), (qd, ar cI 693 DB), (qk, ar cI 15 KS)]) hD [0, 1, 2] (by decide) rfl) 0 0 rfl rfl rfl tw_270 tw_271 tw_272 tw_5 tw_273 hd_Disk_at ⟨rfl, rfl⟩ (by decide) hl.1 rfl (ble_le rfl) d_Disk_isSound_48 (by decide)) (fun r48 u H locs hq hP hS => ?_)
          have hq : r48 = DB (st + 2) := hq
          obtain rfl := hq
          refine lv_iconst (v := iI 1) hx hb d_Disk_isSound_51 rfl ?_
          refine bk_icmp_eq (tgt := 57) hx hb d_Disk_isSound_52 (by decide) (by omega) (by omega) (fun c52 => ?_) (fun c52 => ?_)
          · skip
            refine lv_aload_n hx hb d_Disk_isSound_57 rfl (lv_at hl 1 rfl) ?_
            refine lv_iload_n hx hb d_Disk_isSound_58 rfl (lv_at hl 0 rfl) ?_
            refine lv_iconst (v := iI 3) hx hb d_Disk_isSound_59 rfl ?_
            refine bk_add hx hb d_Disk_isSound_60 ?_
            refine bk_top (y := iI ((st + 3 : Nat) : Int)) (congrArg iI (by omega)) ?_
            refine lv_iconst (v := iI 2) hx hb d_Disk_isSound_61 rfl ?_
            refine bk_fR (ws := [(hk, .inr (0, [.ref qd, .ref qk, .int (iI (sz : Int)), .int (iI (bc : Int)), .int (iI tn)])), (qd, ar cI 693 DB), (qk, ar cI 15 KS)]) (Wc := [(hk, .inr (0, [.ref qd, .ref qk, .int (iI (sz : Int)), .int (iI (bc : Int)), .int (iI tn)])), (qd, ar cI 693 DB), (qk, ar cI 15 KS)]) (fun _ => rfl) (bk_hs (X := [(hk, .inr (0, [.ref qd, .ref qk, .int (iI (sz : Int)), .int (iI (bc : Int)), .int (iI tn)])), (qd, ar cI 693 DB), (qk, ar cI 15 KS)]) (pl := []) (Wc := [(hk, .inr (0, [.ref qd, .ref qk, .int (iI (sz : Int)), .int (iI (bc : Int)), .int (iI tn)])), (qd, ar cI 693 DB), (qk, ar cI 15 KS)]) [0, 1, 2] rfl) hP hD hS hA (bk_rV (rest := []) hx hb hml hown hT hK (c_Disk_numberAt l D cI cO hk qd qk DB KS sz bc tn (st + 3) 2 hsz hDB (by omega) (by decide)) (bk_subP (X := [(hk, .inr (0, [.ref qd, .ref qk, .int (iI (sz : Int)), .int (iI (bc : Int)), .int (iI tn)])), (qd, ar cI 693 DB), (qk, ar cI 15 KS)]) (pl := []) (Wc := [(hk, .inr (0, [.ref qd, .ref qk, .int (iI (sz : Int)), .int (iI (bc : Int)), .int (iI tn)])), (qd, ar cI 693 DB), (qk, ar cI 15 KS)]) hP [0, 1, 2] rfl) (bk_subD (X := [(hk, .inr (0, [.ref qd, .ref qk, .int (iI (sz : Int)), .int (iI (bc : Int)), .int (iI tn)])), (qd, ar cI 693 DB), (qk, ar cI 15 KS)]) (pl := []) (Wc := [(hk, .inr (0, [.ref qd, .ref qk, .int (iI (sz : Int)), .int (iI (bc : Int)), .int (iI tn)])), (qd, ar cI 693 DB), (qk, ar cI 15 KS)]) hD [0, 1, 2] (by decide) rfl) 0 0 rfl rfl rfl tw_320 tw_322 ts_6 tw_5 tw_323 hd_Disk_numberAt ⟨rfl, rfl⟩ (by decide) hl.1 rfl (ble_le rfl) d_Disk_isSound_62 (by decide)) (fun r62 u H locs hq hP hS => ?_)
            have hq : r62 = ((numN DB (st + 3) 2 : Nat) : Int) := hq
            obtain rfl := hq
            refine lv_istore_n hx hb d_Disk_isSound_65 rfl hl (by decide) rfl (fun ls hl => ?_)
            have hl : lv_has ls 5 [(3, .int (iI ((numN DB (st + 3) 2 : Nat) : Int))), (2, .int (iI (st : Int))), (0, .ref hk), (1, .int (iI (b : Int)))] := hl
            refine lv_aload_n hx hb d_Disk_isSound_66 rfl (lv_at hl 2 rfl) ?_
            refine lv_iload_n hx hb d_Disk_isSound_67 rfl (lv_at hl 1 rfl) ?_
            refine lv_iconst (v := iI 5) hx hb d_Disk_isSound_68 rfl ?_
            refine bk_add hx hb d_Disk_isSound_69 ?_
            refine bk_top (y := iI ((st + 5 : Nat) : Int)) (congrArg iI (by omega)) ?_
            refine lv_iconst (v := iI 2) hx hb d_Disk_isSound_70 rfl ?_
            refine bk_fR (ws := [(hk, .inr (0, [.ref qd, .ref qk, .int (iI (sz : Int)), .int (iI (bc : Int)), .int (iI tn)])), (qd, ar cI 693 DB), (qk, ar cI 15 KS)]) (Wc := [(hk, .inr (0, [.ref qd, .ref qk, .int (iI (sz : Int)), .int (iI (bc : Int)), .int (iI tn)])), (qd, ar cI 693 DB), (qk, ar cI 15 KS)]) (fun _ => rfl) (bk_hs (X := [(hk, .inr (0, [.ref qd, .ref qk, .int (iI (sz : Int)), .int (iI (bc : Int)), .int (iI tn)])), (qd, ar cI 693 DB), (qk, ar cI 15 KS)]) (pl := []) (Wc := [(hk, .inr (0, [.ref qd, .ref qk, .int (iI (sz : Int)), .int (iI (bc : Int)), .int (iI tn)])), (qd, ar cI 693 DB), (qk, ar cI 15 KS)]) [0, 1, 2] rfl) hP hD hS hA (bk_rV (rest := []) hx hb hml hown hT hK (c_Disk_numberAt l D cI cO hk qd qk DB KS sz bc tn (st + 5) 2 hsz hDB (by omega) (by decide)) (bk_subP (X := [(hk, .inr (0, [.ref qd, .ref qk, .int (iI (sz : Int)), .int (iI (bc : Int)), .int (iI tn)])), (qd, ar cI 693 DB), (qk, ar cI 15 KS)]) (pl := []) (Wc := [(hk, .inr (0, [.ref qd, .ref qk, .int (iI (sz : Int)), .int (iI (bc : Int)), .int (iI tn)])), (qd, ar cI 693 DB), (qk, ar cI 15 KS)]) hP [0, 1, 2] rfl) (bk_subD (X := [(hk, .inr (0, [.ref qd, .ref qk, .int (iI (sz : Int)), .int (iI (bc : Int)), .int (iI tn)])), (qd, ar cI 693 DB), (qk, ar cI 15 KS)]) (pl := []) (Wc := [(hk, .inr (0, [.ref qd, .ref qk, .int (iI (sz : Int)), .int (iI (bc : Int)), .int (iI tn)])), (qd, ar cI 693 DB), (qk, ar cI 15 KS)]) hD [0, 1, 2] (by decide) rfl) 0 0 rfl rfl rfl tw_320 tw_322 ts_6 tw_5 tw_323 hd_Disk_numberAt ⟨rfl, rfl⟩ (by decide) hl.1 rfl (ble_le rfl) d_Disk_isSound_71 (by decide)) (fun r71 u H locs hq hP hS => ?_)
            have hq : r71 = ((numN DB (st + 5) 2 : Nat) : Int) := hq
            obtain rfl := hq
            refine lv_iload_n hx hb d_Disk_isSound_74 rfl (lv_at hl 0 rfl) ?_
            refine lv_iconst (v := iI (-1)) hx hb d_Disk_isSound_75 rfl ?_
            refine lv_ixor hx hb d_Disk_isSound_76 ?_
            refine bk_top (y := iI ((numN DB (st + 3) 2 ^^^ 4294967295 : Nat) : Int)) (iI_not _) ?_
            refine lv_ldc (v := (65535 : Int32)) hx hb hown (hT _ tw_324) d_Disk_isSound_77 ?_
            refine bk_top (y := iI 65535) (by decide) ?_
            refine lv_iand hx hb d_Disk_isSound_79 ?_
            refine bk_top (y := iI (((numN DB (st + 3) 2 ^^^ 4294967295) % 65536 : Nat) : Int)) (iI_andW (xor32 (by omega) (by decide))) ?_
            refine bk_icmp_eq (tgt := 85) hx hb d_Disk_isSound_80 (by decide) (by omega) (by omega) (fun c80 => ?_) (fun c80 => ?_)
            · skip
              refine lv_iload_n hx hb d_Disk_isSound_85 rfl (lv_at hl 1 rfl) ?_
              refine lv_bipush (v := iI 7) hx hb d_Disk_isSound_86 (by decide) ?_
              refine bk_add hx hb d_Disk_isSound_88 ?_
              refine bk_top (y := iI ((st + 7 : Nat) : Int)) (congrArg iI (by omega)) ?_
              refine lv_istore hx hb d_Disk_isSound_89 hl (by decide) rfl (fun ls hl => ?_)
              have hl : lv_has ls 5 [(4, .int (iI ((st + 7 : Nat) : Int))), (3, .int (iI ((numN DB (st + 3) 2 : Nat) : Int))), (2, .int (iI (st : Int))), (0, .ref hk), (1, .int (iI (b : Int)))] := hl
              refine lv_iload hx hb d_Disk_isSound_91 (lv_at hl 0 rfl) ?_
              refine lv_iload_n hx hb d_Disk_isSound_93 rfl (lv_at hl 1 rfl) ?_
              refine bk_add hx hb d_Disk_isSound_94 ?_
              refine bk_top (y := iI ((st + 7 + (numN DB (st + 3) 2) : Nat) : Int)) (congrArg iI (by omega)) ?_
              refine lv_iconst (v := iI 4) hx hb d_Disk_isSound_95 rfl ?_
              refine bk_add hx hb d_Disk_isSound_96 ?_
              refine bk_top (y := iI ((st + 7 + (numN DB (st + 3) 2) + 4 : Nat) : Int)) (congrArg iI (by omega)) ?_
              refine lv_aload_n hx hb d_Disk_isSound_97 rfl (lv_at hl 3 rfl) ?_
              refine va_get (ci := 0) (C := R_Disk) (T := F_Disk) (N := 5) hx hb hT in_Disk hown hK.1 hP 0 rfl rfl 2 (by decide) (hT _ tw_99) (fun _ h => h) rfl d_Disk_isSound_98 ?_
              refine bk_icmp_gt (tgt := 127) hx hb d_Disk_isSound_101 (by decide) (by omega) (by omega) (fun c101 => ?_) (fun c101 => ?_)
              · skip
                refine lv_iconst (v := iI 0) hx hb d_Disk_isSound_127 rfl ?_
                exact bk_reti (r := 0) hx hb hr iI_nar0 hlk hAe hQ hS () (by first | exact Or.inl ⟨⟨by omega, by omega, by omega, by omega, by omega, by omega⟩, rfl⟩ | exact Or.inr ⟨fun q => (by obtain ⟨q1, q2, q3, q4, q5, q6⟩ := q; omega), rfl⟩) hP hD d_Disk_isSound_128
              · skip
                have hn4 : numN DB (st + 7 + numN DB (st + 3) 2) 4 < 4294967296 := numN_lt (n := 4) (fun j hj => hDB (st + 7 + numN DB (st + 3) 2 + j) (by omega))
                have hs4 : crcN DB (st + 7) (numN DB (st + 3) 2) ^^^ 4294967295 < 4294967296 := xor32 (crcN_lt (fun j hj => hDB (st + 7 + j) (by omega))) (by decide)
                refine lv_aload_n hx hb d_Disk_isSound_104 rfl (lv_at hl 3 rfl) ?_
                refine lv_iload hx hb d_Disk_isSound_105 (lv_at hl 0 rfl) ?_
                refine lv_iload_n hx hb d_Disk_isSound_107 rfl (lv_at hl 1 rfl) ?_
                refine bk_add hx hb d_Disk_isSound_108 ?_
                refine bk_top (y := iI ((st + 7 + (numN DB (st + 3) 2) : Nat) : Int)) (congrArg iI (by omega)) ?_
                refine lv_iconst (v := iI 4) hx hb d_Disk_isSound_109 rfl ?_
                refine bk_fR (ws := [(hk, .inr (0, [.ref qd, .ref qk, .int (iI (sz : Int)), .int (iI (bc : Int)), .int (iI tn)])), (qd, ar cI 693 DB), (qk, ar cI 15 KS)]) (Wc := [(hk, .inr (0, [.ref qd, .ref qk, .int (iI (sz : Int)), .int (iI (bc : Int)), .int (iI tn)])), (qd, ar cI 693 DB), (qk, ar cI 15 KS)]) (fun _ => rfl) (bk_hs (X := [(hk, .inr (0, [.ref qd, .ref qk, .int (iI (sz : Int)), .int (iI (bc : Int)), .int (iI tn)])), (qd, ar cI 693 DB), (qk, ar cI 15 KS)]) (pl := []) (Wc := [(hk, .inr (0, [.ref qd, .ref qk, .int (iI (sz : Int)), .int (iI (bc : Int)), .int (iI tn)])), (qd, ar cI 693 DB), (qk, ar cI 15 KS)]) [0, 1, 2] rfl) hP hD hS hA (bk_rV (rest := []) hx hb hml hown hT hK (c_Disk_numberAt l D cI cO hk qd qk DB KS sz bc tn (st + 7 + numN DB (st + 3) 2) 4 hsz hDB (by omega) (by decide)) (bk_subP (X := [(hk, .inr (0, [.ref qd, .ref qk, .int (iI (sz : Int)), .int (iI (bc : Int)), .int (iI tn)])), (qd, ar cI 693 DB), (qk, ar cI 15 KS)]) (pl := []) (Wc := [(hk, .inr (0, [.ref qd, .ref qk, .int (iI (sz : Int)), .int (iI (bc : Int)), .int (iI tn)])), (qd, ar cI 693 DB), (qk, ar cI 15 KS)]) hP [0, 1, 2] rfl) (bk_subD (X := [(hk, .inr (0, [.ref qd, .ref qk, .int (iI (sz : Int)), .int (iI (bc : Int)), .int (iI tn)])), (qd, ar cI 693 DB), (qk, ar cI 15 KS)]) (pl := []) (Wc := [(hk, .inr (0, [.ref qd, .ref qk, .int (iI (sz : Int)), .int (iI (bc : Int)), .int (iI tn)])), (qd, ar cI 693 DB), (qk, ar cI 15 KS)]) hD [0, 1, 2] (by decide) rfl) 0 0 rfl rfl rfl tw_320 tw_322 ts_6 tw_5 tw_323 hd_Disk_numberAt ⟨rfl, rfl⟩ (by decide) hl.1 rfl (ble_le rfl) d_Disk_isSound_110 (by decide)) (fun r110 u H locs hq hP hS => ?_)
                have hq : r110 = ((numN DB (st + 7 + numN DB (st + 3) 2) 4 : Nat) : Int) := hq
                obtain rfl := hq
                refine lv_aload_n hx hb d_Disk_isSound_113 rfl (lv_at hl 3 rfl) ?_
                refine lv_iload hx hb d_Disk_isSound_114 (lv_at hl 0 rfl) ?_
                refine lv_iload_n hx hb d_Disk_isSound_116 rfl (lv_at hl 1 rfl) ?_
                refine bk_fR (ws := [(hk, .inr (0, [.ref qd, .ref qk, .int (iI (sz : Int)), .int (iI (bc : Int)), .int (iI tn)])), (qd, ar cI 693 DB), (qk, ar cI 15 KS)]) (Wc := [(hk, .inr (0, [.ref qd, .ref qk, .int (iI (sz : Int)), .int (iI (bc : Int)), .int (iI tn)])), (qd, ar cI 693 DB), (qk, ar cI 15 KS)]) (fun _ => rfl) (bk_hs (X := [(hk, .inr (0, [.ref qd, .ref qk, .int (iI (sz : Int)), .int (iI (bc : Int)), .int (iI tn)])), (qd, ar cI 693 DB), (qk, ar cI 15 KS)]) (pl := []) (Wc := [(hk, .inr (0, [.ref qd, .ref qk, .int (iI (sz : Int)), .int (iI (bc : Int)), .int (iI tn)])), (qd, ar cI 693 DB), (qk, ar cI 15 KS)]) [0, 1, 2] rfl) hP hD hS hA (bk_rV (rest := [.int (iI ((numN DB (st + 7 + numN DB (st + 3) 2) 4 : Nat) : Int))]) hx hb hml hown hT hK (c_Disk_sumOf l D cI cO hk qd qk DB KS sz bc tn (st + 7) (numN DB (st + 3) 2) hsz hDB (by omega)) (bk_subP (X := [(hk, .inr (0, [.ref qd, .ref qk, .int (iI (sz : Int)), .int (iI (bc : Int)), .int (iI tn)])), (qd, ar cI 693 DB), (qk, ar cI 15 KS)]) (pl := []) (Wc := [(hk, .inr (0, [.ref qd, .ref qk, .int (iI (sz : Int)), .int (iI (bc : Int)), .int (iI tn)])), (qd, ar cI 693 DB), (qk, ar cI 15 KS)]) hP [0, 1, 2] rfl) (bk_subD (X := [(hk, .inr (0, [.ref qd, .ref qk, .int (iI (sz : Int)), .int (iI (bc : Int)), .int (iI tn)])), (qd, ar cI 693 DB), (qk, ar cI 15 KS)]) (pl := []) (Wc := [(hk, .inr (0, [.ref qd, .ref qk, .int (iI (sz : Int)), .int (iI (bc : Int)), .int (iI tn)])), (qd, ar cI 693 DB), (qk, ar cI 15 KS)]) hD [0, 1, 2] (by decide) rfl) 0 0 rfl rfl rfl tw_266 tw_268 ts_4 tw_5 tw_269 hd_Disk_sumOf ⟨rfl, rfl⟩ (by decide) hl.1 rfl (ble_le rfl) d_Disk_isSound_117 (by decide)) (fun r117 u H locs hq hP hS => ?_)
                have hq : r117 = ((crcN DB (st + 7) (numN DB (st + 3) 2) ^^^ 4294967295 : Nat) : Int) := hq
                obtain rfl := hq
                refine bk_icmpU_ne (tgt := 127) hx hb d_Disk_isSound_120 (by decide) (by omega) (by omega) (fun c120 => ?_) (fun c120 => ?_)
                · skip
                  refine lv_iconst (v := iI 0) hx hb d_Disk_isSound_127 rfl ?_
                  exact bk_reti (r := 0) hx hb hr iI_nar0 hlk hAe hQ hS () (by first | exact Or.inl ⟨⟨by omega, by omega, by omega, by omega, by omega, by omega⟩, rfl⟩ | exact Or.inr ⟨fun q => (by obtain ⟨q1, q2, q3, q4, q5, q6⟩ := q; omega), rfl⟩) hP hD d_Disk_isSound_128
                · skip
                  refine lv_iconst (v := iI 1) hx hb d_Disk_isSound_123 rfl ?_
                  refine lv_goto (tgt := 128) hx hb d_Disk_isSound_124 (by decide) ?_
                  exact bk_reti (r := 1) hx hb hr iI_nar1 hlk hAe hQ hS () (by first | exact Or.inl ⟨⟨by omega, by omega, by omega, by omega, by omega, by omega⟩, rfl⟩ | exact Or.inr ⟨fun q => (by obtain ⟨q1, q2, q3, q4, q5, q6⟩ := q; omega), rfl⟩) hP hD d_Disk_isSound_128
            · skip
              refine lv_iconst (v := iI 0) hx hb d_Disk_isSound_83 rfl ?_
              exact bk_reti (r := 0) hx hb hr iI_nar0 hlk hAe hQ hS () (Or.inr ⟨fun q => by obtain ⟨q1, q2, q3, q4, q5, q6⟩ := q; omega, rfl⟩) hP hD d_Disk_isSound_84
          · skip
            refine lv_iconst (v := iI 0) hx hb d_Disk_isSound_55 rfl ?_
            exact bk_reti (r := 0) hx hb hr iI_nar0 hlk hAe hQ hS () (Or.inr ⟨fun q => by obtain ⟨q1, q2, q3, q4, q5, q6⟩ := q; omega, rfl⟩) hP hD d_Disk_isSound_56
    · skip
      exact absurd c9 (by omega)
abbrev rm_Disk_areSound : Room := { frames := 3, cells := 0, slots := 0, locals := 70 }
set_option maxRecDepth 100000 in
set_option maxHeartbeats 4000000 in
theorem c_Disk_areSound (l : Launch) (D : va_G) (cI cO : ClassId) (hk qd qk : Nat) (DB KS : Nat → Int) (sz bc : Nat) (tn : Int) (f : Nat) (x : Int) (hsz : sz ≤ 693) (hDB : ∀ j, j < sz → 0 ≤ DB j ∧ DB j ≤ 255) (hbc : bc ≤ 15) (hKS : ∀ z, z < bc → 0 ≤ KS z ∧ KS z + 11 ≤ (sz : Int)) (hx1 : -1 ≤ x ∧ x < (bc : Int)) (hf1 : f ≤ 1000) : Mi l y_Disk_areSound b_Disk_areSound 4 .boolean rm_Disk_areSound D cI cO [.ref hk, .int (iI (f : Int)), .int (iI x)] ([(hk, .inr (0, [.ref qd, .ref qk, .int (iI (sz : Int)), .int (iI (bc : Int)), .int (iI tn)])), (qd, ar cI 693 DB), (qk, ar cI 15 KS)]) (fun (r : Int) (_ : Unit) => ((∀ z : Nat, f ≤ z → (z : Int) ≤ x → sndN DB sz (KS z).toNat) ∧ r = 1) ∨ (¬ (∀ z : Nat, f ≤ z → (z : Int) ≤ x → sndN DB sz (KS z).toNat) ∧ r = 0)) (fun (_ : Unit) => [(hk, .inr (0, [.ref qd, .ref qk, .int (iI (sz : Int)), .int (iI (bc : Int)), .int (iI tn)])), (qd, ar cI 693 DB), (qk, ar cI 15 KS)]) 0 0 := by
  refine bk_start (by decide) (ble_le rfl) ?_
  intro p e s m args below meth c A ls Q hx hb hr hml hlk hown hnm hT hK hA hAe hQ hP hD hS hl
  have hown : s.vm.findClass "BinnedReads$Disk" = some m.cls := hown
  have hl : lv_has ls 4 [(0, .ref hk), (1, .int (iI (f : Int))), (2, .int (iI x))] := hl
  refine lv_iload_n hx hb d_Disk_areSound_0 rfl (lv_at hl 1 rfl) ?_
  refine lv_istore_n hx hb d_Disk_areSound_1 rfl hl (by decide) rfl (fun ls hl => ?_)
  have hl : lv_has ls 4 [(3, .int (iI (f : Int))), (0, .ref hk), (1, .int (iI (f : Int))), (2, .int (iI x))] := hl
  have cut2 : ∀ (N0 : Nat) (i : Nat) (H : Heap) (locs : List Loc) (ls : Array Slot), (x + 1).toNat - i = N0 → (f ≤ i ∧ i ≤ 2000) → (∀ z : Nat, f ≤ z → z < i → sndN DB sz (KS z).toNat) → lv_has ls 4 [(0, .ref hk), (1, .int (iI (f : Int))), (2, .int (iI x)), (3, .int (iI (i : Int)))] → va_P D classes ([(hk, .inr (0, [.ref qd, .ref qk, .int (iI (sz : Int)), .int (iI (bc : Int)), .int (iI tn)])), (qd, ar cI 693 DB), (qk, ar cI 15 KS)]) H → va_D A ([(hk, .inr (0, [.ref qd, .ref qk, .int (iI (sz : Int)), .int (iI (bc : Int)), .int (iI tn)])), (qd, ar cI 693 DB), (qk, ar cI 15 KS)]) → va_S A s.heap H locs → W p l e rm_Disk_areSound s m args below meth c H locs 0 0 Q (F0 m 2 ls []) := by
    intro N0
    induction N0 using Nat.strongRecOn with
    | _ N0 ih2 =>
      intro i H locs ls hN2 hi hal hl hP hD hS
      refine lv_iload_n hx hb d_Disk_areSound_2 rfl (lv_at hl 3 rfl) ?_
      refine lv_iload_n hx hb d_Disk_areSound_3 rfl (lv_at hl 2 rfl) ?_
      refine bk_icmp_gt (tgt := 23) hx hb d_Disk_areSound_4 (by decide) (by omega) (by omega) (fun c4 => ?_) (fun c4 => ?_)
      · skip
        refine lv_iconst (v := iI 1) hx hb d_Disk_areSound_23 rfl ?_
        exact bk_reti (r := 1) hx hb hr iI_nar1 hlk hAe hQ hS () (Or.inl ⟨fun z h1 h2 => hal z h1 (by omega), rfl⟩) hP hD d_Disk_areSound_24
      · skip
        have hki := hKS i (by omega)
        refine lv_aload_n hx hb d_Disk_areSound_7 rfl (lv_at hl 0 rfl) ?_
        refine lv_iload_n hx hb d_Disk_areSound_8 rfl (lv_at hl 3 rfl) ?_
        refine bk_fR (ws := [(hk, .inr (0, [.ref qd, .ref qk, .int (iI (sz : Int)), .int (iI (bc : Int)), .int (iI tn)])), (qd, ar cI 693 DB), (qk, ar cI 15 KS)]) (Wc := [(hk, .inr (0, [.ref qd, .ref qk, .int (iI (sz : Int)), .int (iI (bc : Int)), .int (iI tn)])), (qd, ar cI 693 DB), (qk, ar cI 15 KS)]) (fun _ => rfl) (bk_hs (X := [(hk, .inr (0, [.ref qd, .ref qk, .int (iI (sz : Int)), .int (iI (bc : Int)), .int (iI tn)])), (qd, ar cI 693 DB), (qk, ar cI 15 KS)]) (pl := []) (Wc := [(hk, .inr (0, [.ref qd, .ref qk, .int (iI (sz : Int)), .int (iI (bc : Int)), .int (iI tn)])), (qd, ar cI 693 DB), (qk, ar cI 15 KS)]) [0, 1, 2] rfl) hP hD hS hA (bk_rV (rest := []) hx hb hml hown hT hK (c_Disk_isSound l D cI cO hk qd qk DB KS sz bc tn i ((KS i).toNat) hsz hDB (by omega) (⟨by omega, by omega⟩)) (bk_subP (X := [(hk, .inr (0, [.ref qd, .ref qk, .int (iI (sz : Int)), .int (iI (bc : Int)), .int (iI tn)])), (qd, ar cI 693 DB), (qk, ar cI 15 KS)]) (pl := []) (Wc := [(hk, .inr (0, [.ref qd, .ref qk, .int (iI (sz : Int)), .int (iI (bc : Int)), .int (iI tn)])), (qd, ar cI 693 DB), (qk, ar cI 15 KS)]) hP [0, 1, 2] rfl) (bk_subD (X := [(hk, .inr (0, [.ref qd, .ref qk, .int (iI (sz : Int)), .int (iI (bc : Int)), .int (iI tn)])), (qd, ar cI 693 DB), (qk, ar cI 15 KS)]) (pl := []) (Wc := [(hk, .inr (0, [.ref qd, .ref qk, .int (iI (sz : Int)), .int (iI (bc : Int)), .int (iI tn)])), (qd, ar cI 693 DB), (qk, ar cI 15 KS)]) hD [0, 1, 2] (by decide) rfl) 0 0 rfl rfl rfl tw_316 tw_318 ts_5 tw_5 tw_319 hd_Disk_isSound ⟨rfl, rfl⟩ (by decide) hl.1 rfl (ble_le rfl) d_Disk_areSound_9 (by decide)) (fun r9 u H locs hq hP hS => ?_)
        have hq : (sndN DB sz ((KS i).toNat) ∧ r9 = 1) ∨ (¬ sndN DB sz ((KS i).toNat) ∧ r9 = 0) := hq
        refine bk_if_ne (tgt := 17) hx hb d_Disk_areSound_12 (by decide) (by rcases hq with q | q <;> omega) (fun c12 => ?_) (fun c12 => ?_)
        · skip
          have hsnd : sndN DB sz (KS i).toNat := by rcases hq with q | q; exact q.1; omega
          refine lv_iinc (k := 3) (v := iI ((i + 1 : Nat) : Int)) hx hb d_Disk_areSound_17 hl rfl ((iI_add _ _).trans (congrArg iI (by omega))) (by decide) rfl (fun ls hl => ?_)
          have hl : lv_has ls 4 [(3, .int (iI ((i + 1 : Nat) : Int))), (0, .ref hk), (1, .int (iI (f : Int))), (2, .int (iI x))] := hl
          refine lv_goto (tgt := 2) hx hb d_Disk_areSound_20 (by decide) ?_
          exact ih2 ((x + 1).toNat - (i + 1)) (by omega) (i + 1) _ _ _ rfl (by omega) (fun z h1 h2 => by by_cases e1 : z = i; (subst e1; exact hsnd); exact hal z h1 (by omega)) (lv_sub hl [1, 2, 3, 0] rfl) hP hD hS
        · skip
          have hns : ¬ sndN DB sz (KS i).toNat := by rcases hq with q | q; omega; exact q.1
          refine lv_iconst (v := iI 0) hx hb d_Disk_areSound_15 rfl ?_
          exact bk_reti (r := 0) hx hb hr iI_nar0 hlk hAe hQ hS () (Or.inr ⟨fun q => hns (q i hi.1 (by omega)), rfl⟩) hP hD d_Disk_areSound_16
  exact cut2 _ f _ _ _ rfl (⟨Nat.le_refl _, by omega⟩) (fun z h1 h2 => absurd h2 (by omega)) (lv_sub hl [1, 2, 3, 0] rfl) hP hD hS
abbrev rm_Disk_streamByte : Room := { frames := 1, cells := 0, slots := 0, locals := 21 }
set_option maxRecDepth 100000 in
set_option maxHeartbeats 4000000 in
theorem c_Disk_streamByte (l : Launch) (D : va_G) (cI cO : ClassId) (hk qd qk : Nat) (DB KS : Nat → Int) (sz bc : Nat) (tn : Int) (j st : Nat) (hsz : sz ≤ 693) (hDB : ∀ j, j < sz → 0 ≤ DB j ∧ DB j ≤ 255) (hj : j < 1000 ∧ j / 40 < bc ∧ bc ≤ 15) (hst : KS (j / 40) = (st : Int) ∧ st + 7 + j % 40 < sz) : Mi l y_Disk_streamByte b_Disk_streamByte 3 .int rm_Disk_streamByte D cI cO [.ref hk, .int (iI (j : Int))] ([(hk, .inr (0, [.ref qd, .ref qk, .int (iI (sz : Int)), .int (iI (bc : Int)), .int (iI tn)])), (qd, ar cI 693 DB), (qk, ar cI 15 KS)]) (fun (r : Int) (_ : Unit) => r = DB (st + 7 + j % 40)) (fun (_ : Unit) => [(hk, .inr (0, [.ref qd, .ref qk, .int (iI (sz : Int)), .int (iI (bc : Int)), .int (iI tn)])), (qd, ar cI 693 DB), (qk, ar cI 15 KS)]) 0 0 := by
  refine bk_start (by decide) (ble_le rfl) ?_
  intro p e s m args below meth c A ls Q hx hb hr hml hlk hown hnm hT hK hA hAe hQ hP hD hS hl
  have hown : s.vm.findClass "BinnedReads$Disk" = some m.cls := hown
  have hl : lv_has ls 3 [(0, .ref hk), (1, .int (iI (j : Int)))] := hl
  have hd0 := hDB (st + 7 + j % 40) (by omega)
  refine lv_iload_n hx hb d_Disk_streamByte_0 rfl (lv_at hl 1 rfl) ?_
  refine lv_bipush (v := iI 40) hx hb d_Disk_streamByte_1 (by decide) ?_
  refine bk_div hx hb d_Disk_streamByte_3 (by omega) (by omega) ?_
  refine bk_top (y := iI ((j / 40 : Nat) : Int)) (congrArg iI (by omega)) ?_
  refine lv_istore_n hx hb d_Disk_streamByte_4 rfl hl (by decide) rfl (fun ls hl => ?_)
  have hl : lv_has ls 3 [(2, .int (iI ((j / 40 : Nat) : Int))), (0, .ref hk), (1, .int (iI (j : Int)))] := hl
  refine lv_iload_n hx hb d_Disk_streamByte_5 rfl (lv_at hl 2 rfl) ?_
  refine bk_if_lt (tgt := 17) hx hb d_Disk_streamByte_6 (by decide) (by omega) (fun c6 => ?_) (fun c6 => ?_)
  · skip
    exact absurd c6 (by omega)
  · skip
    refine lv_iload_n hx hb d_Disk_streamByte_9 rfl (lv_at hl 0 rfl) ?_
    refine lv_aload_n hx hb d_Disk_streamByte_10 rfl (lv_at hl 1 rfl) ?_
    refine va_get (ci := 0) (C := R_Disk) (T := F_Disk) (N := 5) hx hb hT in_Disk hown hK.1 hP 0 rfl rfl 3 (by decide) (hT _ tw_101) (fun _ h => h) rfl d_Disk_streamByte_11 ?_
    refine bk_icmp_lt (tgt := 19) hx hb d_Disk_streamByte_14 (by decide) (by omega) (by omega) (fun c14 => ?_) (fun c14 => ?_)
    · skip
      refine lv_iconst (v := iI 0) hx hb d_Disk_streamByte_19 rfl ?_
      refine lv_aload_n hx hb d_Disk_streamByte_20 rfl (lv_at hl 1 rfl) ?_
      refine lv_aload_n hx hb d_Disk_streamByte_21 rfl (lv_at hl 1 rfl) ?_
      refine va_get (ci := 0) (C := R_Disk) (T := F_Disk) (N := 5) hx hb hT in_Disk hown hK.1 hP 0 rfl rfl 1 (by decide) (hT _ tw_98) (fun _ h => h) rfl d_Disk_streamByte_22 ?_
      refine lv_iload_n hx hb d_Disk_streamByte_25 rfl (lv_at hl 0 rfl) ?_
      refine bk_iald hx hb hK.1 hP 2 0 rfl rfl (j / 40) (by omega) (by decide) d_Disk_streamByte_26 ?_
      refine bk_top (y := iI (st : Int)) (by rw [hst.1]) ?_
      refine lv_bipush (v := iI 7) hx hb d_Disk_streamByte_27 (by decide) ?_
      refine bk_add hx hb d_Disk_streamByte_29 ?_
      refine bk_top (y := iI ((st + 7 : Nat) : Int)) (congrArg iI (by omega)) ?_
      refine lv_iload_n hx hb d_Disk_streamByte_30 rfl (lv_at hl 2 rfl) ?_
      refine lv_bipush (v := iI 40) hx hb d_Disk_streamByte_31 (by decide) ?_
      refine bk_rem hx hb d_Disk_streamByte_33 (by omega) (by omega) ?_
      refine bk_top (y := iI ((j % 40 : Nat) : Int)) (congrArg iI (by omega)) ?_
      refine bk_add hx hb d_Disk_streamByte_34 ?_
      refine bk_top (y := iI ((st + 7 + (j % 40) : Nat) : Int)) (congrArg iI (by omega)) ?_
      refine bk_fR (ws := [(hk, .inr (0, [.ref qd, .ref qk, .int (iI (sz : Int)), .int (iI (bc : Int)), .int (iI tn)])), (qd, ar cI 693 DB), (qk, ar cI 15 KS)]) (Wc := [(hk, .inr (0, [.ref qd, .ref qk, .int (iI (sz : Int)), .int (iI (bc : Int)), .int (iI tn)])), (qd, ar cI 693 DB), (qk, ar cI 15 KS)]) (fun _ => rfl) (bk_hs (X := [(hk, .inr (0, [.ref qd, .ref qk, .int (iI (sz : Int)), .int (iI (bc : Int)), .int (iI tn)])), (qd, ar cI 693 DB), (qk, ar cI 15 KS)]) (pl := []) (Wc := [(hk, .inr (0, [.ref qd, .ref qk, .int (iI (sz : Int)), .int (iI (bc : Int)), .int (iI tn)])), (qd, ar cI 693 DB), (qk, ar cI 15 KS)]) [0, 1, 2] rfl) hP hD hS hA (bk_rV (rest := [.int (iI 0)]) hx hb hml hown hT hK (c_Disk_at_in l D cI cO hk qd qk DB KS sz bc tn (st + 7 + j % 40) hsz (by omega)) (bk_subP (X := [(hk, .inr (0, [.ref qd, .ref qk, .int (iI (sz : Int)), .int (iI (bc : Int)), .int (iI tn)])), (qd, ar cI 693 DB), (qk, ar cI 15 KS)]) (pl := []) (Wc := [(hk, .inr (0, [.ref qd, .ref qk, .int (iI (sz : Int)), .int (iI (bc : Int)), .int (iI tn)])), (qd, ar cI 693 DB), (qk, ar cI 15 KS)]) hP [0, 1, 2] rfl) (bk_subD (X := [(hk, .inr (0, [.ref qd, .ref qk, .int (iI (sz : Int)), .int (iI (bc : Int)), .int (iI tn)])), (qd, ar cI 693 DB), (qk, ar cI 15 KS)]) (pl := []) (Wc := [(hk, .inr (0, [.ref qd, .ref qk, .int (iI (sz : Int)), .int (iI (bc : Int)), .int (iI tn)])), (qd, ar cI 693 DB), (qk, ar cI 15 KS)]) hD [0, 1, 2] (by decide) rfl) 0 0 rfl rfl rfl tw_270 tw_271 tw_272 tw_5 tw_273 hd_Disk_at ⟨rfl, rfl⟩ (by decide) hl.1 rfl (ble_le rfl) d_Disk_streamByte_35 (by decide)) (fun r35 u H locs hq hP hS => ?_)
      have hq : r35 = DB (st + 7 + j % 40) := hq
      obtain rfl := hq
      refine va_mmax hx hb (by rw [hml]; exact hl.1.symm) hown (hT _ tw_366) (hT _ tw_352) (hT _ tw_8) (hT _ tw_353) (by decide) (ble_le rfl) (by decide) (by decide) d_Disk_streamByte_38 ?_
      refine bk_top (y := iI (max 0 (DB (st + 7 + j % 40)))) (bk_max (by omega) (by omega)) ?_
      exact bk_reti (r := max 0 (DB (st + 7 + j % 40))) hx hb hr rfl hlk hAe hQ hS () (by omega) hP hD d_Disk_streamByte_41
    · skip
      exact absurd c14 (by omega)
abbrev rm_Disk_offsetOf : Room := { frames := 0, cells := 0, slots := 0, locals := 0 }
set_option maxRecDepth 100000 in
set_option maxHeartbeats 4000000 in
theorem c_Disk_offsetOf (l : Launch) (D : va_G) (cI cO : ClassId) (hk qd qk : Nat) (DB KS : Nat → Int) (sz bc : Nat) (tn : Int) (j st : Nat) (hj : j < 1000 ∧ j / 40 < bc ∧ bc ≤ 15) (hst : KS (j / 40) = (st : Int)) : Mi l y_Disk_offsetOf b_Disk_offsetOf 3 .int rm_Disk_offsetOf D cI cO [.ref hk, .int (iI (j : Int))] ([(hk, .inr (0, [.ref qd, .ref qk, .int (iI (sz : Int)), .int (iI (bc : Int)), .int (iI tn)])), (qd, ar cI 693 DB), (qk, ar cI 15 KS)]) (fun (r : Int) (_ : Unit) => r = ((64 * st + j % 40 : Nat) : Int)) (fun (_ : Unit) => [(hk, .inr (0, [.ref qd, .ref qk, .int (iI (sz : Int)), .int (iI (bc : Int)), .int (iI tn)])), (qd, ar cI 693 DB), (qk, ar cI 15 KS)]) 0 0 := by
  refine bk_start (by decide) (ble_le rfl) ?_
  intro p e s m args below meth c A ls Q hx hb hr hml hlk hown hnm hT hK hA hAe hQ hP hD hS hl
  have hown : s.vm.findClass "BinnedReads$Disk" = some m.cls := hown
  have hl : lv_has ls 3 [(0, .ref hk), (1, .int (iI (j : Int)))] := hl
  refine lv_iload_n hx hb d_Disk_offsetOf_0 rfl (lv_at hl 1 rfl) ?_
  refine lv_bipush (v := iI 40) hx hb d_Disk_offsetOf_1 (by decide) ?_
  refine bk_div hx hb d_Disk_offsetOf_3 (by omega) (by omega) ?_
  refine bk_top (y := iI ((j / 40 : Nat) : Int)) (congrArg iI (by omega)) ?_
  refine lv_istore_n hx hb d_Disk_offsetOf_4 rfl hl (by decide) rfl (fun ls hl => ?_)
  have hl : lv_has ls 3 [(2, .int (iI ((j / 40 : Nat) : Int))), (0, .ref hk), (1, .int (iI (j : Int)))] := hl
  refine lv_iload_n hx hb d_Disk_offsetOf_5 rfl (lv_at hl 2 rfl) ?_
  refine bk_if_lt (tgt := 17) hx hb d_Disk_offsetOf_6 (by decide) (by omega) (fun c6 => ?_) (fun c6 => ?_)
  · skip
    exact absurd c6 (by omega)
  · skip
    refine lv_iload_n hx hb d_Disk_offsetOf_9 rfl (lv_at hl 0 rfl) ?_
    refine lv_aload_n hx hb d_Disk_offsetOf_10 rfl (lv_at hl 1 rfl) ?_
    refine va_get (ci := 0) (C := R_Disk) (T := F_Disk) (N := 5) hx hb hT in_Disk hown hK.1 hP 0 rfl rfl 3 (by decide) (hT _ tw_101) (fun _ h => h) rfl d_Disk_offsetOf_11 ?_
    refine bk_icmp_lt (tgt := 19) hx hb d_Disk_offsetOf_14 (by decide) (by omega) (by omega) (fun c14 => ?_) (fun c14 => ?_)
    · skip
      refine lv_bipush (v := iI 64) hx hb d_Disk_offsetOf_19 (by decide) ?_
      refine lv_aload_n hx hb d_Disk_offsetOf_21 rfl (lv_at hl 1 rfl) ?_
      refine va_get (ci := 0) (C := R_Disk) (T := F_Disk) (N := 5) hx hb hT in_Disk hown hK.1 hP 0 rfl rfl 1 (by decide) (hT _ tw_98) (fun _ h => h) rfl d_Disk_offsetOf_22 ?_
      refine lv_iload_n hx hb d_Disk_offsetOf_25 rfl (lv_at hl 0 rfl) ?_
      refine bk_iald hx hb hK.1 hP 2 0 rfl rfl (j / 40) (by omega) (by decide) d_Disk_offsetOf_26 ?_
      refine bk_top (y := iI (st : Int)) (by rw [hst]) ?_
      refine bk_mul hx hb d_Disk_offsetOf_27 ?_
      refine bk_top (y := iI ((64 * st : Nat) : Int)) (congrArg iI (by omega)) ?_
      refine lv_iload_n hx hb d_Disk_offsetOf_28 rfl (lv_at hl 2 rfl) ?_
      refine lv_bipush (v := iI 40) hx hb d_Disk_offsetOf_29 (by decide) ?_
      refine bk_rem hx hb d_Disk_offsetOf_31 (by omega) (by omega) ?_
      refine bk_top (y := iI ((j % 40 : Nat) : Int)) (congrArg iI (by omega)) ?_
      refine bk_add hx hb d_Disk_offsetOf_32 ?_
      refine bk_top (y := iI ((64 * st + (j % 40) : Nat) : Int)) (congrArg iI (by omega)) ?_
      exact bk_reti (r := ((64 * st + (j % 40) : Nat) : Int)) hx hb hr rfl hlk hAe hQ hS () rfl hP hD d_Disk_offsetOf_33
    · skip
      exact absurd c14 (by omega)
abbrev rm_Disk_appendBlock : Room := { frames := 2, cells := 0, slots := 0, locals := 46 }
set_option maxRecDepth 100000 in
set_option maxHeartbeats 4000000 in
theorem c_Disk_appendBlock (l : Launch) (D : va_G) (cI cO : ClassId) (hk qd qk : Nat) (DB KS : Nat → Int) (sz bc : Nat) (tn : Int) (hs qy : Nat) (SB : Nat → Int) (sl : Nat) (f k : Nat) (hsz : sz + k + 11 ≤ 693) (hDB : ∀ j, j < sz → 0 ≤ DB j ∧ DB j ≤ 255) (hbc : bc < 15) (hsl : sl ≤ 528) (hSB : ∀ j, j < sl → 0 ≤ SB j ∧ SB j ≤ 255) (hfk : f + k ≤ sl) (hk1 : k ≤ 40) : Mv l y_Disk_appendBlock b_Disk_appendBlock 6 rm_Disk_appendBlock D cI cO [.ref hk, .ref hs, .int (iI (f : Int)), .int (iI (k : Int))] ([(hk, .inr (0, [.ref qd, .ref qk, .int (iI (sz : Int)), .int (iI (bc : Int)), .int (iI tn)])), (qd, ar cI 693 DB), (qk, ar cI 15 KS), (hs, .inr (4, [.ref qy, .int (iI (sl : Int))])), (qy, ar cI 528 SB)]) (fun (_ : Unit) => True) (fun (_ : Unit) => [(hk, .inr (0, [.ref qd, .ref qk, .int (iI ((sz + 7 + k + 4 : Nat) : Int)), .int (iI ((bc + 1 : Nat) : Int)), .int (iI tn)])), (qd, ar cI 693 (bkN DB SB sz f k)), (qk, ar cI 15 (bU KS bc (sz : Int))), (hs, .inr (4, [.ref qy, .int (iI (sl : Int))])), (qy, ar cI 528 SB)]) 0 0 := by
  refine bk_start (by decide) (ble_le rfl) ?_
  intro p e s m args below meth c A ls Q hx hb hr hml hlk hown hnm hT hK hA hAe hQ hP hD hS hl
  have hown : s.vm.findClass "BinnedReads$Disk" = some m.cls := hown
  have hl : lv_has ls 6 [(0, .ref hk), (1, .ref hs), (2, .int (iI (f : Int))), (3, .int (iI (k : Int)))] := hl
  refine lv_aload_n hx hb d_Disk_appendBlock_0 rfl (lv_at hl 0 rfl) ?_
  refine va_get (ci := 0) (C := R_Disk) (T := F_Disk) (N := 5) hx hb hT in_Disk hown hK.1 hP 0 rfl rfl 3 (by decide) (hT _ tw_101) (fun _ h => h) rfl d_Disk_appendBlock_1 ?_
  refine lv_aload_n hx hb d_Disk_appendBlock_4 rfl (lv_at hl 0 rfl) ?_
  refine va_get (ci := 0) (C := R_Disk) (T := F_Disk) (N := 5) hx hb hT in_Disk hown hK.1 hP 0 rfl rfl 1 (by decide) (hT _ tw_98) (fun _ h => h) rfl d_Disk_appendBlock_5 ?_
  refine va_alen (v := iI 15) hx hb hK.1 hP 2 0 rfl rfl (show Int32.ofNat 15 = iI 15 from by decide) d_Disk_appendBlock_8 ?_
  refine bk_icmp_ge (tgt := 32) hx hb d_Disk_appendBlock_9 (by decide) (by omega) (by omega) (fun c9 => ?_) (fun c9 => ?_)
  · skip
    exact absurd c9 (by omega)
  · skip
    refine lv_aload_n hx hb d_Disk_appendBlock_12 rfl (lv_at hl 0 rfl) ?_
    refine va_get (ci := 0) (C := R_Disk) (T := F_Disk) (N := 5) hx hb hT in_Disk hown hK.1 hP 0 rfl rfl 1 (by decide) (hT _ tw_98) (fun _ h => h) rfl d_Disk_appendBlock_13 ?_
    refine lv_aload_n hx hb d_Disk_appendBlock_16 rfl (lv_at hl 0 rfl) ?_
    refine lv_dup hx hb d_Disk_appendBlock_17 rfl ?_
    refine va_get (ci := 0) (C := R_Disk) (T := F_Disk) (N := 5) hx hb hT in_Disk hown hK.1 hP 0 rfl rfl 3 (by decide) (hT _ tw_101) (fun _ h => h) rfl d_Disk_appendBlock_18 ?_
    refine lv_dup_x1 hx hb d_Disk_appendBlock_21 rfl rfl ?_
    refine lv_iconst (v := iI 1) hx hb d_Disk_appendBlock_22 rfl ?_
    refine bk_add hx hb d_Disk_appendBlock_23 ?_
    refine bk_top (y := iI ((bc + 1 : Nat) : Int)) (congrArg iI (by omega)) ?_
    refine va_put (ci := 0) (v := .int (iI ((bc + 1 : Nat) : Int))) (ty := .int) (C := R_Disk) (T := F_Disk) (N := 5) hx hb hT in_Disk t_Disk to_Disk n_Disk hown hK.1 hP hD hS 0 rfl rfl 3 (by decide) (hT _ tw_101) (fun _ h => h) rfl (by decide +kernel) rfl rfl (ble_lt rfl) d_Disk_appendBlock_24 (fun H locs hP hD hS => ?_)
    have hP : va_P D classes ([(hk, .inr (0, [.ref qd, .ref qk, .int (iI (sz : Int)), .int (iI ((bc + 1 : Nat) : Int)), .int (iI tn)])), (qd, ar cI 693 DB), (qk, ar cI 15 KS), (hs, .inr (4, [.ref qy, .int (iI (sl : Int))])), (qy, ar cI 528 SB)]) H := hP
    have hD : va_D A ([(hk, .inr (0, [.ref qd, .ref qk, .int (iI (sz : Int)), .int (iI ((bc + 1 : Nat) : Int)), .int (iI tn)])), (qd, ar cI 693 DB), (qk, ar cI 15 KS), (hs, .inr (4, [.ref qy, .int (iI (sl : Int))])), (qy, ar cI 528 SB)]) := hD
    refine lv_aload_n hx hb d_Disk_appendBlock_27 rfl (lv_at hl 0 rfl) ?_
    refine va_get (ci := 0) (C := R_Disk) (T := F_Disk) (N := 5) hx hb hT in_Disk hown hK.1 hP 0 rfl rfl 2 (by decide) (hT _ tw_99) (fun _ h => h) rfl d_Disk_appendBlock_28 ?_
    refine bk_iast hx hb hK.1 hP hD hS 2 0 rfl rfl bc (by omega) (by decide) d_Disk_appendBlock_31 (fun H locs hP hD hS => ?_)
    have hP : va_P D classes ([(hk, .inr (0, [.ref qd, .ref qk, .int (iI (sz : Int)), .int (iI ((bc + 1 : Nat) : Int)), .int (iI tn)])), (qd, ar cI 693 DB), (qk, ar cI 15 (bU KS bc (sz : Int))), (hs, .inr (4, [.ref qy, .int (iI (sl : Int))])), (qy, ar cI 528 SB)]) H := hP
    have hD : va_D A ([(hk, .inr (0, [.ref qd, .ref qk, .int (iI (sz : Int)), .int (iI ((bc + 1 : Nat) : Int)), .int (iI tn)])), (qd, ar cI 693 DB), (qk, ar cI 15 (bU KS bc (sz : Int))), (hs, .inr (4, [.ref qy, .int (iI (sl : Int))])), (qy, ar cI 528 SB)]) := hD
    refine lv_aload_n hx hb d_Disk_appendBlock_32 rfl (lv_at hl 0 rfl) ?_
    refine lv_bipush (v := iI 31) hx hb d_Disk_appendBlock_33 (by decide) ?_
    refine bk_fv (X := [(hk, .inr (0, [.ref qd, .ref qk, .int (iI (sz : Int)), .int (iI ((bc + 1 : Nat) : Int)), .int (iI tn)])), (qd, ar cI 693 DB), (qk, ar cI 15 (bU KS bc (sz : Int))), (hs, .inr (4, [.ref qy, .int (iI (sl : Int))])), (qy, ar cI 528 SB)]) (pl := []) (Wc := [(hk, .inr (0, [.ref qd, .ref qk, .int (iI (sz : Int)), .int (iI (((bc + 1) : Nat) : Int)), .int (iI tn)])), (qd, ar cI 693 DB), (qk, ar cI 15 (bU KS bc (sz : Int)))]) (wr := [(hs, .inr (4, [.ref qy, .int (iI (sl : Int))])), (qy, ar cI 528 SB)]) [0, 1, 2] [3, 4] rfl rfl (by decide) (by decide) hP hD hS hA (bk_rV (rest := []) hx hb hml hown hT hK (c_Disk_appendByte l D cI cO hk qd qk DB (bU KS bc (sz : Int)) sz (bc + 1) tn 31 (by omega)) (bk_subP (X := [(hk, .inr (0, [.ref qd, .ref qk, .int (iI (sz : Int)), .int (iI ((bc + 1 : Nat) : Int)), .int (iI tn)])), (qd, ar cI 693 DB), (qk, ar cI 15 (bU KS bc (sz : Int))), (hs, .inr (4, [.ref qy, .int (iI (sl : Int))])), (qy, ar cI 528 SB)]) (pl := []) (Wc := [(hk, .inr (0, [.ref qd, .ref qk, .int (iI (sz : Int)), .int (iI (((bc + 1) : Nat) : Int)), .int (iI tn)])), (qd, ar cI 693 DB), (qk, ar cI 15 (bU KS bc (sz : Int)))]) hP [0, 1, 2] rfl) (bk_subD (X := [(hk, .inr (0, [.ref qd, .ref qk, .int (iI (sz : Int)), .int (iI ((bc + 1 : Nat) : Int)), .int (iI tn)])), (qd, ar cI 693 DB), (qk, ar cI 15 (bU KS bc (sz : Int))), (hs, .inr (4, [.ref qy, .int (iI (sl : Int))])), (qy, ar cI 528 SB)]) (pl := []) (Wc := [(hk, .inr (0, [.ref qd, .ref qk, .int (iI (sz : Int)), .int (iI (((bc + 1) : Nat) : Int)), .int (iI tn)])), (qd, ar cI 693 DB), (qk, ar cI 15 (bU KS bc (sz : Int)))]) hD [0, 1, 2] (by decide) rfl) 0 0 rfl rfl rfl tw_258 tw_260 ts_2 tw_5 tw_261 hd_Disk_appendByte ⟨rfl, rfl⟩ (by decide) hl.1 rfl (ble_le rfl) d_Disk_appendBlock_35 (by decide)) (fun u H locs hq hP hD hS => ?_)
    have hq : True := hq
    have hP : va_P D classes ([(hs, .inr (4, [.ref qy, .int (iI (sl : Int))])), (qy, ar cI 528 SB), (hk, .inr (0, [.ref qd, .ref qk, .int (iI ((sz + 1 : Nat) : Int)), .int (iI (((bc + 1) : Nat) : Int)), .int (iI tn)])), (qd, ar cI 693 (bU DB sz 31)), (qk, ar cI 15 (bU KS bc (sz : Int)))]) H := hP
    have hD : va_D A ([(hs, .inr (4, [.ref qy, .int (iI (sl : Int))])), (qy, ar cI 528 SB), (hk, .inr (0, [.ref qd, .ref qk, .int (iI ((sz + 1 : Nat) : Int)), .int (iI (((bc + 1) : Nat) : Int)), .int (iI tn)])), (qd, ar cI 693 (bU DB sz 31)), (qk, ar cI 15 (bU KS bc (sz : Int)))]) := hD
    refine lv_aload_n hx hb d_Disk_appendBlock_38 rfl (lv_at hl 0 rfl) ?_
    refine lv_sipush (v := iI 139) hx hb d_Disk_appendBlock_39 (by decide) ?_
    refine bk_fv (X := [(hs, .inr (4, [.ref qy, .int (iI (sl : Int))])), (qy, ar cI 528 SB), (hk, .inr (0, [.ref qd, .ref qk, .int (iI ((sz + 1 : Nat) : Int)), .int (iI (((bc + 1) : Nat) : Int)), .int (iI tn)])), (qd, ar cI 693 (bU DB sz 31)), (qk, ar cI 15 (bU KS bc (sz : Int)))]) (pl := []) (Wc := [(hk, .inr (0, [.ref qd, .ref qk, .int (iI (((sz + 1) : Nat) : Int)), .int (iI (((bc + 1) : Nat) : Int)), .int (iI tn)])), (qd, ar cI 693 (bU DB sz 31)), (qk, ar cI 15 (bU KS bc (sz : Int)))]) (wr := [(hs, .inr (4, [.ref qy, .int (iI (sl : Int))])), (qy, ar cI 528 SB)]) [2, 3, 4] [0, 1] rfl rfl (by decide) (by decide) hP hD hS hA (bk_rV (rest := []) hx hb hml hown hT hK (c_Disk_appendByte l D cI cO hk qd qk (bU DB sz 31) (bU KS bc (sz : Int)) (sz + 1) (bc + 1) tn 139 (by omega)) (bk_subP (X := [(hs, .inr (4, [.ref qy, .int (iI (sl : Int))])), (qy, ar cI 528 SB), (hk, .inr (0, [.ref qd, .ref qk, .int (iI ((sz + 1 : Nat) : Int)), .int (iI (((bc + 1) : Nat) : Int)), .int (iI tn)])), (qd, ar cI 693 (bU DB sz 31)), (qk, ar cI 15 (bU KS bc (sz : Int)))]) (pl := []) (Wc := [(hk, .inr (0, [.ref qd, .ref qk, .int (iI (((sz + 1) : Nat) : Int)), .int (iI (((bc + 1) : Nat) : Int)), .int (iI tn)])), (qd, ar cI 693 (bU DB sz 31)), (qk, ar cI 15 (bU KS bc (sz : Int)))]) hP [2, 3, 4] rfl) (bk_subD (X := [(hs, .inr (4, [.ref qy, .int (iI (sl : Int))])), (qy, ar cI 528 SB), (hk, .inr (0, [.ref qd, .ref qk, .int (iI ((sz + 1 : Nat) : Int)), .int (iI (((bc + 1) : Nat) : Int)), .int (iI tn)])), (qd, ar cI 693 (bU DB sz 31)), (qk, ar cI 15 (bU KS bc (sz : Int)))]) (pl := []) (Wc := [(hk, .inr (0, [.ref qd, .ref qk, .int (iI (((sz + 1) : Nat) : Int)), .int (iI (((bc + 1) : Nat) : Int)), .int (iI tn)])), (qd, ar cI 693 (bU DB sz 31)), (qk, ar cI 15 (bU KS bc (sz : Int)))]) hD [2, 3, 4] (by decide) rfl) 0 0 rfl rfl rfl tw_258 tw_260 ts_2 tw_5 tw_261 hd_Disk_appendByte ⟨rfl, rfl⟩ (by decide) hl.1 rfl (ble_le rfl) d_Disk_appendBlock_42 (by decide)) (fun u H locs hq hP hD hS => ?_)
    have hq : True := hq
    have hP : va_P D classes ([(hs, .inr (4, [.ref qy, .int (iI (sl : Int))])), (qy, ar cI 528 SB), (hk, .inr (0, [.ref qd, .ref qk, .int (iI (((sz + 1) + 1 : Nat) : Int)), .int (iI (((bc + 1) : Nat) : Int)), .int (iI tn)])), (qd, ar cI 693 (bU (bU DB sz 31) (sz + 1) 139)), (qk, ar cI 15 (bU KS bc (sz : Int)))]) H := hP
    have hD : va_D A ([(hs, .inr (4, [.ref qy, .int (iI (sl : Int))])), (qy, ar cI 528 SB), (hk, .inr (0, [.ref qd, .ref qk, .int (iI (((sz + 1) + 1 : Nat) : Int)), .int (iI (((bc + 1) : Nat) : Int)), .int (iI tn)])), (qd, ar cI 693 (bU (bU DB sz 31) (sz + 1) 139)), (qk, ar cI 15 (bU KS bc (sz : Int)))]) := hD
    refine lv_aload_n hx hb d_Disk_appendBlock_45 rfl (lv_at hl 0 rfl) ?_
    refine lv_iconst (v := iI 1) hx hb d_Disk_appendBlock_46 rfl ?_
    refine bk_fv (X := [(hs, .inr (4, [.ref qy, .int (iI (sl : Int))])), (qy, ar cI 528 SB), (hk, .inr (0, [.ref qd, .ref qk, .int (iI (((sz + 1) + 1 : Nat) : Int)), .int (iI (((bc + 1) : Nat) : Int)), .int (iI tn)])), (qd, ar cI 693 (bU (bU DB sz 31) (sz + 1) 139)), (qk, ar cI 15 (bU KS bc (sz : Int)))]) (pl := []) (Wc := [(hk, .inr (0, [.ref qd, .ref qk, .int (iI (((sz + 1 + 1) : Nat) : Int)), .int (iI (((bc + 1) : Nat) : Int)), .int (iI tn)])), (qd, ar cI 693 (bU (bU DB sz 31) (sz + 1) 139)), (qk, ar cI 15 (bU KS bc (sz : Int)))]) (wr := [(hs, .inr (4, [.ref qy, .int (iI (sl : Int))])), (qy, ar cI 528 SB)]) [2, 3, 4] [0, 1] rfl rfl (by decide) (by decide) hP hD hS hA (bk_rV (rest := []) hx hb hml hown hT hK (c_Disk_appendByte l D cI cO hk qd qk (bU (bU DB sz 31) (sz + 1) 139) (bU KS bc (sz : Int)) (sz + 1 + 1) (bc + 1) tn 1 (by omega)) (bk_subP (X := [(hs, .inr (4, [.ref qy, .int (iI (sl : Int))])), (qy, ar cI 528 SB), (hk, .inr (0, [.ref qd, .ref qk, .int (iI (((sz + 1) + 1 : Nat) : Int)), .int (iI (((bc + 1) : Nat) : Int)), .int (iI tn)])), (qd, ar cI 693 (bU (bU DB sz 31) (sz + 1) 139)), (qk, ar cI 15 (bU KS bc (sz : Int)))]) (pl := []) (Wc := [(hk, .inr (0, [.ref qd, .ref qk, .int (iI (((sz + 1 + 1) : Nat) : Int)), .int (iI (((bc + 1) : Nat) : Int)), .int (iI tn)])), (qd, ar cI 693 (bU (bU DB sz 31) (sz + 1) 139)), (qk, ar cI 15 (bU KS bc (sz : Int)))]) hP [2, 3, 4] rfl) (bk_subD (X := [(hs, .inr (4, [.ref qy, .int (iI (sl : Int))])), (qy, ar cI 528 SB), (hk, .inr (0, [.ref qd, .ref qk, .int (iI (((sz + 1) + 1 : Nat) : Int)), .int (iI (((bc + 1) : Nat) : Int)), .int (iI tn)])), (qd, ar cI 693 (bU (bU DB sz 31) (sz + 1) 139)), (qk, ar cI 15 (bU KS bc (sz : Int)))]) (pl := []) (Wc := [(hk, .inr (0, [.ref qd, .ref qk, .int (iI (((sz + 1 + 1) : Nat) : Int)), .int (iI (((bc + 1) : Nat) : Int)), .int (iI tn)])), (qd, ar cI 693 (bU (bU DB sz 31) (sz + 1) 139)), (qk, ar cI 15 (bU KS bc (sz : Int)))]) hD [2, 3, 4] (by decide) rfl) 0 0 rfl rfl rfl tw_258 tw_260 ts_2 tw_5 tw_261 hd_Disk_appendByte ⟨rfl, rfl⟩ (by decide) hl.1 rfl (ble_le rfl) d_Disk_appendBlock_47 (by decide)) (fun u H locs hq hP hD hS => ?_)
    have hq : True := hq
    have hP : va_P D classes ([(hs, .inr (4, [.ref qy, .int (iI (sl : Int))])), (qy, ar cI 528 SB), (hk, .inr (0, [.ref qd, .ref qk, .int (iI (((sz + 1 + 1) + 1 : Nat) : Int)), .int (iI (((bc + 1) : Nat) : Int)), .int (iI tn)])), (qd, ar cI 693 (bU (bU (bU DB sz 31) (sz + 1) 139) (sz + 1 + 1) 1)), (qk, ar cI 15 (bU KS bc (sz : Int)))]) H := hP
    have hD : va_D A ([(hs, .inr (4, [.ref qy, .int (iI (sl : Int))])), (qy, ar cI 528 SB), (hk, .inr (0, [.ref qd, .ref qk, .int (iI (((sz + 1 + 1) + 1 : Nat) : Int)), .int (iI (((bc + 1) : Nat) : Int)), .int (iI tn)])), (qd, ar cI 693 (bU (bU (bU DB sz 31) (sz + 1) 139) (sz + 1 + 1) 1)), (qk, ar cI 15 (bU KS bc (sz : Int)))]) := hD
    refine lv_aload_n hx hb d_Disk_appendBlock_50 rfl (lv_at hl 0 rfl) ?_
    refine lv_iload_n hx hb d_Disk_appendBlock_51 rfl (lv_at hl 3 rfl) ?_
    refine lv_iconst (v := iI 2) hx hb d_Disk_appendBlock_52 rfl ?_
    refine bk_fv (X := [(hs, .inr (4, [.ref qy, .int (iI (sl : Int))])), (qy, ar cI 528 SB), (hk, .inr (0, [.ref qd, .ref qk, .int (iI (((sz + 1 + 1) + 1 : Nat) : Int)), .int (iI (((bc + 1) : Nat) : Int)), .int (iI tn)])), (qd, ar cI 693 (bU (bU (bU DB sz 31) (sz + 1) 139) (sz + 1 + 1) 1)), (qk, ar cI 15 (bU KS bc (sz : Int)))]) (pl := []) (Wc := [(hk, .inr (0, [.ref qd, .ref qk, .int (iI (((sz + 1 + 1 + 1) : Nat) : Int)), .int (iI (((bc + 1) : Nat) : Int)), .int (iI tn)])), (qd, ar cI 693 (bU (bU (bU DB sz 31) (sz + 1) 139) (sz + 1 + 1) 1)), (qk, ar cI 15 (bU KS bc (sz : Int)))]) (wr := [(hs, .inr (4, [.ref qy, .int (iI (sl : Int))])), (qy, ar cI 528 SB)]) [2, 3, 4] [0, 1] rfl rfl (by decide) (by decide) hP hD hS hA (bk_rV (rest := []) hx hb hml hown hT hK (c_Disk_appendNumber l D cI cO hk qd qk (bU (bU (bU DB sz 31) (sz + 1) 139) (sz + 1 + 1) 1) (bU KS bc (sz : Int)) (sz + 1 + 1 + 1) (bc + 1) tn k 2 (by omega) (by omega) (by decide)) (bk_subP (X := [(hs, .inr (4, [.ref qy, .int (iI (sl : Int))])), (qy, ar cI 528 SB), (hk, .inr (0, [.ref qd, .ref qk, .int (iI (((sz + 1 + 1) + 1 : Nat) : Int)), .int (iI (((bc + 1) : Nat) : Int)), .int (iI tn)])), (qd, ar cI 693 (bU (bU (bU DB sz 31) (sz + 1) 139) (sz + 1 + 1) 1)), (qk, ar cI 15 (bU KS bc (sz : Int)))]) (pl := []) (Wc := [(hk, .inr (0, [.ref qd, .ref qk, .int (iI (((sz + 1 + 1 + 1) : Nat) : Int)), .int (iI (((bc + 1) : Nat) : Int)), .int (iI tn)])), (qd, ar cI 693 (bU (bU (bU DB sz 31) (sz + 1) 139) (sz + 1 + 1) 1)), (qk, ar cI 15 (bU KS bc (sz : Int)))]) hP [2, 3, 4] rfl) (bk_subD (X := [(hs, .inr (4, [.ref qy, .int (iI (sl : Int))])), (qy, ar cI 528 SB), (hk, .inr (0, [.ref qd, .ref qk, .int (iI (((sz + 1 + 1) + 1 : Nat) : Int)), .int (iI (((bc + 1) : Nat) : Int)), .int (iI tn)])), (qd, ar cI 693 (bU (bU (bU DB sz 31) (sz + 1) 139) (sz + 1 + 1) 1)), (qk, ar cI 15 (bU KS bc (sz : Int)))]) (pl := []) (Wc := [(hk, .inr (0, [.ref qd, .ref qk, .int (iI (((sz + 1 + 1 + 1) : Nat) : Int)), .int (iI (((bc + 1) : Nat) : Int)), .int (iI tn)])), (qd, ar cI 693 (bU (bU (bU DB sz 31) (sz + 1) 139) (sz + 1 + 1) 1)), (qk, ar cI 15 (bU KS bc (sz : Int)))]) hD [2, 3, 4] (by decide) rfl) 0 0 rfl rfl rfl tw_262 tw_264 ts_3 tw_5 tw_265 hd_Disk_appendNumber ⟨rfl, rfl⟩ (by decide) hl.1 rfl (ble_le rfl) d_Disk_appendBlock_53 (by decide)) (fun u H locs hq hP hD hS => ?_)
    have hq : True := hq
    have hP : va_P D classes ([(hs, .inr (4, [.ref qy, .int (iI (sl : Int))])), (qy, ar cI 528 SB), (hk, .inr (0, [.ref qd, .ref qk, .int (iI (((sz + 1 + 1 + 1) + 2 : Nat) : Int)), .int (iI (((bc + 1) : Nat) : Int)), .int (iI tn)])), (qd, ar cI 693 (apN (bU (bU (bU DB sz 31) (sz + 1) 139) (sz + 1 + 1) 1) (sz + 1 + 1 + 1) k 2)), (qk, ar cI 15 (bU KS bc (sz : Int)))]) H := hP
    have hD : va_D A ([(hs, .inr (4, [.ref qy, .int (iI (sl : Int))])), (qy, ar cI 528 SB), (hk, .inr (0, [.ref qd, .ref qk, .int (iI (((sz + 1 + 1 + 1) + 2 : Nat) : Int)), .int (iI (((bc + 1) : Nat) : Int)), .int (iI tn)])), (qd, ar cI 693 (apN (bU (bU (bU DB sz 31) (sz + 1) 139) (sz + 1 + 1) 1) (sz + 1 + 1 + 1) k 2)), (qk, ar cI 15 (bU KS bc (sz : Int)))]) := hD
    refine lv_aload_n hx hb d_Disk_appendBlock_56 rfl (lv_at hl 0 rfl) ?_
    refine lv_iload_n hx hb d_Disk_appendBlock_57 rfl (lv_at hl 3 rfl) ?_
    refine lv_iconst (v := iI (-1)) hx hb d_Disk_appendBlock_58 rfl ?_
    refine lv_ixor hx hb d_Disk_appendBlock_59 ?_
    refine bk_top (y := iI ((k ^^^ 4294967295 : Nat) : Int)) (iI_not k) ?_
    refine lv_iconst (v := iI 2) hx hb d_Disk_appendBlock_60 rfl ?_
    refine bk_fv (X := [(hs, .inr (4, [.ref qy, .int (iI (sl : Int))])), (qy, ar cI 528 SB), (hk, .inr (0, [.ref qd, .ref qk, .int (iI (((sz + 1 + 1 + 1) + 2 : Nat) : Int)), .int (iI (((bc + 1) : Nat) : Int)), .int (iI tn)])), (qd, ar cI 693 (apN (bU (bU (bU DB sz 31) (sz + 1) 139) (sz + 1 + 1) 1) (sz + 1 + 1 + 1) k 2)), (qk, ar cI 15 (bU KS bc (sz : Int)))]) (pl := []) (Wc := [(hk, .inr (0, [.ref qd, .ref qk, .int (iI (((sz + 1 + 1 + 1 + 2) : Nat) : Int)), .int (iI (((bc + 1) : Nat) : Int)), .int (iI tn)])), (qd, ar cI 693 (apN (bU (bU (bU DB sz 31) (sz + 1) 139) (sz + 1 + 1) 1) (sz + 1 + 1 + 1) k 2)), (qk, ar cI 15 (bU KS bc (sz : Int)))]) (wr := [(hs, .inr (4, [.ref qy, .int (iI (sl : Int))])), (qy, ar cI 528 SB)]) [2, 3, 4] [0, 1] rfl rfl (by decide) (by decide) hP hD hS hA (bk_rV (rest := []) hx hb hml hown hT hK (c_Disk_appendNumber l D cI cO hk qd qk (apN (bU (bU (bU DB sz 31) (sz + 1) 139) (sz + 1 + 1) 1) (sz + 1 + 1 + 1) k 2) (bU KS bc (sz : Int)) (sz + 1 + 1 + 1 + 2) (bc + 1) tn (k ^^^ 4294967295) 2 (by omega) (xor32 (by omega) (by decide)) (by decide)) (bk_subP (X := [(hs, .inr (4, [.ref qy, .int (iI (sl : Int))])), (qy, ar cI 528 SB), (hk, .inr (0, [.ref qd, .ref qk, .int (iI (((sz + 1 + 1 + 1) + 2 : Nat) : Int)), .int (iI (((bc + 1) : Nat) : Int)), .int (iI tn)])), (qd, ar cI 693 (apN (bU (bU (bU DB sz 31) (sz + 1) 139) (sz + 1 + 1) 1) (sz + 1 + 1 + 1) k 2)), (qk, ar cI 15 (bU KS bc (sz : Int)))]) (pl := []) (Wc := [(hk, .inr (0, [.ref qd, .ref qk, .int (iI (((sz + 1 + 1 + 1 + 2) : Nat) : Int)), .int (iI (((bc + 1) : Nat) : Int)), .int (iI tn)])), (qd, ar cI 693 (apN (bU (bU (bU DB sz 31) (sz + 1) 139) (sz + 1 + 1) 1) (sz + 1 + 1 + 1) k 2)), (qk, ar cI 15 (bU KS bc (sz : Int)))]) hP [2, 3, 4] rfl) (bk_subD (X := [(hs, .inr (4, [.ref qy, .int (iI (sl : Int))])), (qy, ar cI 528 SB), (hk, .inr (0, [.ref qd, .ref qk, .int (iI (((sz + 1 + 1 + 1) + 2 : Nat) : Int)), .int (iI (((bc + 1) : Nat) : Int)), .int (iI tn)])), (qd, ar cI 693 (apN (bU (bU (bU DB sz 31) (sz + 1) 139) (sz + 1 + 1) 1) (sz + 1 + 1 + 1) k 2)), (qk, ar cI 15 (bU KS bc (sz : Int)))]) (pl := []) (Wc := [(hk, .inr (0, [.ref qd, .ref qk, .int (iI (((sz + 1 + 1 + 1 + 2) : Nat) : Int)), .int (iI (((bc + 1) : Nat) : Int)), .int (iI tn)])), (qd, ar cI 693 (apN (bU (bU (bU DB sz 31) (sz + 1) 139) (sz + 1 + 1) 1) (sz + 1 + 1 + 1) k 2)), (qk, ar cI 15 (bU KS bc (sz : Int)))]) hD [2, 3, 4] (by decide) rfl) 0 0 rfl rfl rfl tw_262 tw_264 ts_3 tw_5 tw_265 hd_Disk_appendNumber ⟨rfl, rfl⟩ (by decide) hl.1 rfl (ble_le rfl) d_Disk_appendBlock_61 (by decide)) (fun u H locs hq hP hD hS => ?_)
    have hq : True := hq
    have hP : va_P D classes ([(hs, .inr (4, [.ref qy, .int (iI (sl : Int))])), (qy, ar cI 528 SB), (hk, .inr (0, [.ref qd, .ref qk, .int (iI (((sz + 1 + 1 + 1 + 2) + 2 : Nat) : Int)), .int (iI (((bc + 1) : Nat) : Int)), .int (iI tn)])), (qd, ar cI 693 (apN (apN (bU (bU (bU DB sz 31) (sz + 1) 139) (sz + 1 + 1) 1) (sz + 1 + 1 + 1) k 2) (sz + 1 + 1 + 1 + 2) (k ^^^ 4294967295) 2)), (qk, ar cI 15 (bU KS bc (sz : Int)))]) H := hP
    have hD : va_D A ([(hs, .inr (4, [.ref qy, .int (iI (sl : Int))])), (qy, ar cI 528 SB), (hk, .inr (0, [.ref qd, .ref qk, .int (iI (((sz + 1 + 1 + 1 + 2) + 2 : Nat) : Int)), .int (iI (((bc + 1) : Nat) : Int)), .int (iI tn)])), (qd, ar cI 693 (apN (apN (bU (bU (bU DB sz 31) (sz + 1) 139) (sz + 1 + 1) 1) (sz + 1 + 1 + 1) k 2) (sz + 1 + 1 + 1 + 2) (k ^^^ 4294967295) 2)), (qk, ar cI 15 (bU KS bc (sz : Int)))]) := hD
    have hcell : (ar cI 693 (cpN (hdN DB sz k) (sz + 7) SB f 0) : va_E) = ar cI 693 (apN (apN (bU (bU (bU DB sz 31) (sz + 1) 139) (sz + 1 + 1) 1) (sz + 1 + 1 + 1) k 2) (sz + 1 + 1 + 1 + 2) (k ^^^ 4294967295) 2) := by rw [cpN_0]; rfl
    have hP : va_P D classes ([(hs, .inr (4, [.ref qy, .int (iI (sl : Int))])), (qy, ar cI 528 SB), (hk, .inr (0, [.ref qd, .ref qk, .int (iI (((sz + 1 + 1 + 1 + 2) + 2 : Nat) : Int)), .int (iI (((bc + 1) : Nat) : Int)), .int (iI tn)])), (qd, ar cI 693 (cpN (hdN DB sz k) (sz + 7) SB f 0)), (qk, ar cI 15 (bU KS bc (sz : Int)))]) H := by
      rw [hcell]
      exact hP
    have hD : va_D A ([(hs, .inr (4, [.ref qy, .int (iI (sl : Int))])), (qy, ar cI 528 SB), (hk, .inr (0, [.ref qd, .ref qk, .int (iI (((sz + 1 + 1 + 1 + 2) + 2 : Nat) : Int)), .int (iI (((bc + 1) : Nat) : Int)), .int (iI tn)])), (qd, ar cI 693 (cpN (hdN DB sz k) (sz + 7) SB f 0)), (qk, ar cI 15 (bU KS bc (sz : Int)))]) := by
      rw [hcell]
      exact hD
    refine lv_aload_n hx hb d_Disk_appendBlock_64 rfl (lv_at hl 0 rfl) ?_
    refine va_get (ci := 0) (C := R_Disk) (T := F_Disk) (N := 5) hx hb hT in_Disk hown hK.1 hP 2 rfl rfl 2 (by decide) (hT _ tw_99) (fun _ h => h) rfl d_Disk_appendBlock_65 ?_
    refine lv_istore hx hb d_Disk_appendBlock_68 hl (by decide) rfl (fun ls hl => ?_)
    have hl : lv_has ls 6 [(4, .int (iI (((sz + 1 + 1 + 1 + 2) + 2 : Nat) : Int))), (0, .ref hk), (1, .ref hs), (2, .int (iI (f : Int))), (3, .int (iI (k : Int)))] := hl
    refine lv_iload_n hx hb d_Disk_appendBlock_70 rfl (lv_at hl 3 rfl) ?_
    refine lv_istore hx hb d_Disk_appendBlock_71 hl (by decide) rfl (fun ls hl => ?_)
    have hl : lv_has ls 6 [(5, .int (iI (f : Int))), (4, .int (iI (((sz + 1 + 1 + 1 + 2) + 2 : Nat) : Int))), (0, .ref hk), (1, .ref hs), (2, .int (iI (f : Int))), (3, .int (iI (k : Int)))] := hl
    have cut73 : ∀ (N0 : Nat) (t : Nat) (H : Heap) (locs : List Loc) (ls : Array Slot), k - t = N0 → (t ≤ k) → lv_has ls 6 [(0, .ref hk), (1, .ref hs), (2, .int (iI (f : Int))), (3, .int (iI (k : Int))), (4, .int (iI ((sz + 7 : Nat) : Int))), (5, .int (iI ((f + t : Nat) : Int)))] → va_P D classes ([(hs, .inr (4, [.ref qy, .int (iI (sl : Int))])), (qy, ar cI 528 SB), (hk, .inr (0, [.ref qd, .ref qk, .int (iI ((sz + 7 + t : Nat) : Int)), .int (iI ((bc + 1 : Nat) : Int)), .int (iI tn)])), (qd, ar cI 693 (cpN (hdN DB sz k) (sz + 7) SB f t)), (qk, ar cI 15 (bU KS bc (sz : Int)))]) H → va_D A ([(hs, .inr (4, [.ref qy, .int (iI (sl : Int))])), (qy, ar cI 528 SB), (hk, .inr (0, [.ref qd, .ref qk, .int (iI ((sz + 7 + t : Nat) : Int)), .int (iI ((bc + 1 : Nat) : Int)), .int (iI tn)])), (qd, ar cI 693 (cpN (hdN DB sz k) (sz + 7) SB f t)), (qk, ar cI 15 (bU KS bc (sz : Int)))]) → va_S A s.heap H locs → W p l e rm_Disk_appendBlock s m args below meth c H locs 0 0 Q (F0 m 73 ls []) := by
      intro N0
      induction N0 using Nat.strongRecOn with
      | _ N0 ih73 =>
        intro t H locs ls hN73 ht hl hP hD hS
        refine lv_iload hx hb d_Disk_appendBlock_73 (lv_at hl 5 rfl) ?_
        refine lv_iload_n hx hb d_Disk_appendBlock_75 rfl (lv_at hl 2 rfl) ?_
        refine lv_iload_n hx hb d_Disk_appendBlock_76 rfl (lv_at hl 3 rfl) ?_
        refine bk_add hx hb d_Disk_appendBlock_77 ?_
        refine bk_top (y := iI ((f + k : Nat) : Int)) (congrArg iI (by omega)) ?_
        refine bk_icmp_ge (tgt := 107) hx hb d_Disk_appendBlock_78 (by decide) (by omega) (by omega) (fun c78 => ?_) (fun c78 => ?_)
        · skip
          have e1 : k = t := by omega
          subst e1
          have hcell : (ar cI 693 (cpN (hdN DB sz k) (sz + 7) SB f k) : va_E) = ar cI 693 (cpN (hdN DB sz k) (sz + 7) SB f k) := rfl
          have hP : va_P D classes ([(hs, .inr (4, [.ref qy, .int (iI (sl : Int))])), (qy, ar cI 528 SB), (hk, .inr (0, [.ref qd, .ref qk, .int (iI ((sz + 7 + k : Nat) : Int)), .int (iI ((bc + 1 : Nat) : Int)), .int (iI tn)])), (qd, ar cI 693 (cpN (hdN DB sz k) (sz + 7) SB f k)), (qk, ar cI 15 (bU KS bc (sz : Int)))]) H := by
            rw [hcell]
            exact hP
          have hD : va_D A ([(hs, .inr (4, [.ref qy, .int (iI (sl : Int))])), (qy, ar cI 528 SB), (hk, .inr (0, [.ref qd, .ref qk, .int (iI ((sz + 7 + k : Nat) : Int)), .int (iI ((bc + 1 : Nat) : Int)), .int (iI tn)])), (qd, ar cI 693 (cpN (hdN DB sz k) (sz + 7) SB f k)), (qk, ar cI 15 (bU KS bc (sz : Int)))]) := by
            rw [hcell]
            exact hD
          have hcp : ∀ j, j < sz + 7 + k → 0 ≤ (cpN (hdN DB sz k) (sz + 7) SB f k) j ∧ (cpN (hdN DB sz k) (sz + 7) SB f k) j ≤ 255 := blk_cp hDB hSB hfk (by omega)
          have hcr : crcN (cpN (hdN DB sz k) (sz + 7) SB f k) (sz + 7) k = crcN SB f k := crcN_congr (fun j hj => cpN_in hj)
          refine lv_aload_n hx hb d_Disk_appendBlock_107 rfl (lv_at hl 0 rfl) ?_
          refine lv_aload_n hx hb d_Disk_appendBlock_108 rfl (lv_at hl 0 rfl) ?_
          refine lv_iload hx hb d_Disk_appendBlock_109 (lv_at hl 4 rfl) ?_
          refine lv_iload_n hx hb d_Disk_appendBlock_111 rfl (lv_at hl 3 rfl) ?_
          refine bk_fR (ws := [(hs, .inr (4, [.ref qy, .int (iI (sl : Int))])), (qy, ar cI 528 SB), (hk, .inr (0, [.ref qd, .ref qk, .int (iI ((sz + 7 + k : Nat) : Int)), .int (iI ((bc + 1 : Nat) : Int)), .int (iI tn)])), (qd, ar cI 693 (cpN (hdN DB sz k) (sz + 7) SB f k)), (qk, ar cI 15 (bU KS bc (sz : Int)))]) (Wc := [(hk, .inr (0, [.ref qd, .ref qk, .int (iI (((sz + 7 + k) : Nat) : Int)), .int (iI (((bc + 1) : Nat) : Int)), .int (iI tn)])), (qd, ar cI 693 (cpN (hdN DB sz k) (sz + 7) SB f k)), (qk, ar cI 15 (bU KS bc (sz : Int)))]) (fun _ => rfl) (bk_hs (X := [(hs, .inr (4, [.ref qy, .int (iI (sl : Int))])), (qy, ar cI 528 SB), (hk, .inr (0, [.ref qd, .ref qk, .int (iI ((sz + 7 + k : Nat) : Int)), .int (iI ((bc + 1 : Nat) : Int)), .int (iI tn)])), (qd, ar cI 693 (cpN (hdN DB sz k) (sz + 7) SB f k)), (qk, ar cI 15 (bU KS bc (sz : Int)))]) (pl := []) (Wc := [(hk, .inr (0, [.ref qd, .ref qk, .int (iI (((sz + 7 + k) : Nat) : Int)), .int (iI (((bc + 1) : Nat) : Int)), .int (iI tn)])), (qd, ar cI 693 (cpN (hdN DB sz k) (sz + 7) SB f k)), (qk, ar cI 15 (bU KS bc (sz : Int)))]) [2, 3, 4] rfl) hP hD hS hA (bk_rV (rest := [.ref hk]) hx hb hml hown hT hK (c_Disk_sumOf l D cI cO hk qd qk (cpN (hdN DB sz k) (sz + 7) SB f k) (bU KS bc (sz : Int)) (sz + 7 + k) (bc + 1) tn (sz + 7) k (by omega) hcp (by omega)) (bk_subP (X := [(hs, .inr (4, [.ref qy, .int (iI (sl : Int))])), (qy, ar cI 528 SB), (hk, .inr (0, [.ref qd, .ref qk, .int (iI ((sz + 7 + k : Nat) : Int)), .int (iI ((bc + 1 : Nat) : Int)), .int (iI tn)])), (qd, ar cI 693 (cpN (hdN DB sz k) (sz + 7) SB f k)), (qk, ar cI 15 (bU KS bc (sz : Int)))]) (pl := []) (Wc := [(hk, .inr (0, [.ref qd, .ref qk, .int (iI (((sz + 7 + k) : Nat) : Int)), .int (iI (((bc + 1) : Nat) : Int)), .int (iI tn)])), (qd, ar cI 693 (cpN (hdN DB sz k) (sz + 7) SB f k)), (qk, ar cI 15 (bU KS bc (sz : Int)))]) hP [2, 3, 4] rfl) (bk_subD (X := [(hs, .inr (4, [.ref qy, .int (iI (sl : Int))])), (qy, ar cI 528 SB), (hk, .inr (0, [.ref qd, .ref qk, .int (iI ((sz + 7 + k : Nat) : Int)), .int (iI ((bc + 1 : Nat) : Int)), .int (iI tn)])), (qd, ar cI 693 (cpN (hdN DB sz k) (sz + 7) SB f k)), (qk, ar cI 15 (bU KS bc (sz : Int)))]) (pl := []) (Wc := [(hk, .inr (0, [.ref qd, .ref qk, .int (iI (((sz + 7 + k) : Nat) : Int)), .int (iI (((bc + 1) : Nat) : Int)), .int (iI tn)])), (qd, ar cI 693 (cpN (hdN DB sz k) (sz + 7) SB f k)), (qk, ar cI 15 (bU KS bc (sz : Int)))]) hD [2, 3, 4] (by decide) rfl) 0 0 rfl rfl rfl tw_266 tw_268 ts_4 tw_5 tw_269 hd_Disk_sumOf ⟨rfl, rfl⟩ (by decide) hl.1 rfl (ble_le rfl) d_Disk_appendBlock_112 (by decide)) (fun r112 u H locs hq hP hS => ?_)
          have hq : r112 = ((crcN (cpN (hdN DB sz k) (sz + 7) SB f k) (sz + 7) k ^^^ 4294967295 : Nat) : Int) := hq
          obtain rfl := hq
          rw [hcr]
          refine lv_iconst (v := iI 4) hx hb d_Disk_appendBlock_115 rfl ?_
          refine bk_fv (X := [(hs, .inr (4, [.ref qy, .int (iI (sl : Int))])), (qy, ar cI 528 SB), (hk, .inr (0, [.ref qd, .ref qk, .int (iI ((sz + 7 + k : Nat) : Int)), .int (iI ((bc + 1 : Nat) : Int)), .int (iI tn)])), (qd, ar cI 693 (cpN (hdN DB sz k) (sz + 7) SB f k)), (qk, ar cI 15 (bU KS bc (sz : Int)))]) (pl := []) (Wc := [(hk, .inr (0, [.ref qd, .ref qk, .int (iI (((sz + 7 + k) : Nat) : Int)), .int (iI (((bc + 1) : Nat) : Int)), .int (iI tn)])), (qd, ar cI 693 (cpN (hdN DB sz k) (sz + 7) SB f k)), (qk, ar cI 15 (bU KS bc (sz : Int)))]) (wr := [(hs, .inr (4, [.ref qy, .int (iI (sl : Int))])), (qy, ar cI 528 SB)]) [2, 3, 4] [0, 1] rfl rfl (by decide) (by decide) hP hD hS hA (bk_rV (rest := []) hx hb hml hown hT hK (c_Disk_appendNumber l D cI cO hk qd qk (cpN (hdN DB sz k) (sz + 7) SB f k) (bU KS bc (sz : Int)) (sz + 7 + k) (bc + 1) tn (crcN SB f k ^^^ 4294967295) 4 (by omega) (xor32 (crcN_lt (fun j hj => hSB (f + j) (by omega))) (by decide)) (by decide)) (bk_subP (X := [(hs, .inr (4, [.ref qy, .int (iI (sl : Int))])), (qy, ar cI 528 SB), (hk, .inr (0, [.ref qd, .ref qk, .int (iI ((sz + 7 + k : Nat) : Int)), .int (iI ((bc + 1 : Nat) : Int)), .int (iI tn)])), (qd, ar cI 693 (cpN (hdN DB sz k) (sz + 7) SB f k)), (qk, ar cI 15 (bU KS bc (sz : Int)))]) (pl := []) (Wc := [(hk, .inr (0, [.ref qd, .ref qk, .int (iI (((sz + 7 + k) : Nat) : Int)), .int (iI (((bc + 1) : Nat) : Int)), .int (iI tn)])), (qd, ar cI 693 (cpN (hdN DB sz k) (sz + 7) SB f k)), (qk, ar cI 15 (bU KS bc (sz : Int)))]) hP [2, 3, 4] rfl) (bk_subD (X := [(hs, .inr (4, [.ref qy, .int (iI (sl : Int))])), (qy, ar cI 528 SB), (hk, .inr (0, [.ref qd, .ref qk, .int (iI ((sz + 7 + k : Nat) : Int)), .int (iI ((bc + 1 : Nat) : Int)), .int (iI tn)])), (qd, ar cI 693 (cpN (hdN DB sz k) (sz + 7) SB f k)), (qk, ar cI 15 (bU KS bc (sz : Int)))]) (pl := []) (Wc := [(hk, .inr (0, [.ref qd, .ref qk, .int (iI (((sz + 7 + k) : Nat) : Int)), .int (iI (((bc + 1) : Nat) : Int)), .int (iI tn)])), (qd, ar cI 693 (cpN (hdN DB sz k) (sz + 7) SB f k)), (qk, ar cI 15 (bU KS bc (sz : Int)))]) hD [2, 3, 4] (by decide) rfl) 0 0 rfl rfl rfl tw_262 tw_264 ts_3 tw_5 tw_265 hd_Disk_appendNumber ⟨rfl, rfl⟩ (by decide) hl.1 rfl (ble_le rfl) d_Disk_appendBlock_116 (by decide)) (fun u H locs hq hP hD hS => ?_)
          have hq : True := hq
          have hP : va_P D classes ([(hs, .inr (4, [.ref qy, .int (iI (sl : Int))])), (qy, ar cI 528 SB), (hk, .inr (0, [.ref qd, .ref qk, .int (iI (((sz + 7 + k) + 4 : Nat) : Int)), .int (iI (((bc + 1) : Nat) : Int)), .int (iI tn)])), (qd, ar cI 693 (apN (cpN (hdN DB sz k) (sz + 7) SB f k) (sz + 7 + k) (crcN SB f k ^^^ 4294967295) 4)), (qk, ar cI 15 (bU KS bc (sz : Int)))]) H := hP
          have hD : va_D A ([(hs, .inr (4, [.ref qy, .int (iI (sl : Int))])), (qy, ar cI 528 SB), (hk, .inr (0, [.ref qd, .ref qk, .int (iI (((sz + 7 + k) + 4 : Nat) : Int)), .int (iI (((bc + 1) : Nat) : Int)), .int (iI tn)])), (qd, ar cI 693 (apN (cpN (hdN DB sz k) (sz + 7) SB f k) (sz + 7 + k) (crcN SB f k ^^^ 4294967295) 4)), (qk, ar cI 15 (bU KS bc (sz : Int)))]) := hD
          have hcell : (ar cI 693 (bkN DB SB sz f k) : va_E) = ar cI 693 (apN (cpN (hdN DB sz k) (sz + 7) SB f k) (sz + 7 + k) (crcN SB f k ^^^ 4294967295) 4) := rfl
          have hP : va_P D classes ([(hs, .inr (4, [.ref qy, .int (iI (sl : Int))])), (qy, ar cI 528 SB), (hk, .inr (0, [.ref qd, .ref qk, .int (iI (((sz + 7 + k) + 4 : Nat) : Int)), .int (iI (((bc + 1) : Nat) : Int)), .int (iI tn)])), (qd, ar cI 693 (bkN DB SB sz f k)), (qk, ar cI 15 (bU KS bc (sz : Int)))]) H := by
            rw [hcell]
            exact hP
          have hD : va_D A ([(hs, .inr (4, [.ref qy, .int (iI (sl : Int))])), (qy, ar cI 528 SB), (hk, .inr (0, [.ref qd, .ref qk, .int (iI (((sz + 7 + k) + 4 : Nat) : Int)), .int (iI (((bc + 1) : Nat) : Int)), .int (iI tn)])), (qd, ar cI 693 (bkN DB SB sz f k)), (qk, ar cI 15 (bU KS bc (sz : Int)))]) := by
            rw [hcell]
            exact hD
          have hP := hP.sub (ws' := [(hk, .inr (0, [.ref qd, .ref qk, .int (iI (((sz + 7 + k) + 4 : Nat) : Int)), .int (iI (((bc + 1) : Nat) : Int)), .int (iI tn)])), (qd, ar cI 693 (bkN DB SB sz f k)), (qk, ar cI 15 (bU KS bc (sz : Int))), (hs, .inr (4, [.ref qy, .int (iI (sl : Int))])), (qy, ar cI 528 SB)]) [2, 3, 4, 0, 1] rfl
          have hD := hD.sub (ws' := [(hk, .inr (0, [.ref qd, .ref qk, .int (iI (((sz + 7 + k) + 4 : Nat) : Int)), .int (iI (((bc + 1) : Nat) : Int)), .int (iI tn)])), (qd, ar cI 693 (bkN DB SB sz f k)), (qk, ar cI 15 (bU KS bc (sz : Int))), (hs, .inr (4, [.ref qy, .int (iI (sl : Int))])), (qy, ar cI 528 SB)]) [2, 3, 4, 0, 1] (by decide) rfl
          exact bk_retv hx hb hr hlk hAe hQ hS () trivial hP hD d_Disk_appendBlock_119
        · skip
          refine lv_iload hx hb d_Disk_appendBlock_81 (lv_at hl 5 rfl) ?_
          refine lv_aload_n hx hb d_Disk_appendBlock_83 rfl (lv_at hl 1 rfl) ?_
          refine va_get (ci := 4) (C := R_Strm) (T := F_Strm) (N := 2) hx hb hT in_Strm hown hK.1 hP 0 rfl rfl 1 (by decide) (hT _ tw_49) (fun _ h => h) rfl d_Disk_appendBlock_84 ?_
          refine bk_icmp_ge (tgt := 107) hx hb d_Disk_appendBlock_87 (by decide) (by omega) (by omega) (fun c87 => ?_) (fun c87 => ?_)
          · skip
            exact absurd c87 (by omega)
          · skip
            refine lv_aload_n hx hb d_Disk_appendBlock_90 rfl (lv_at hl 0 rfl) ?_
            refine lv_aload_n hx hb d_Disk_appendBlock_91 rfl (lv_at hl 1 rfl) ?_
            refine va_get (ci := 4) (C := R_Strm) (T := F_Strm) (N := 2) hx hb hT in_Strm hown hK.1 hP 0 rfl rfl 0 (by decide) (hT _ tw_47) (fun _ h => h) rfl d_Disk_appendBlock_92 ?_
            refine lv_iload hx hb d_Disk_appendBlock_95 (lv_at hl 5 rfl) ?_
            refine bk_iald hx hb hK.1 hP 1 0 rfl rfl (f + t) (by omega) (by decide) d_Disk_appendBlock_97 ?_
            refine bk_fv (X := [(hs, .inr (4, [.ref qy, .int (iI (sl : Int))])), (qy, ar cI 528 SB), (hk, .inr (0, [.ref qd, .ref qk, .int (iI ((sz + 7 + t : Nat) : Int)), .int (iI ((bc + 1 : Nat) : Int)), .int (iI tn)])), (qd, ar cI 693 (cpN (hdN DB sz k) (sz + 7) SB f t)), (qk, ar cI 15 (bU KS bc (sz : Int)))]) (pl := []) (Wc := [(hk, .inr (0, [.ref qd, .ref qk, .int (iI (((sz + 7 + t) : Nat) : Int)), .int (iI (((bc + 1) : Nat) : Int)), .int (iI tn)])), (qd, ar cI 693 (cpN (hdN DB sz k) (sz + 7) SB f t)), (qk, ar cI 15 (bU KS bc (sz : Int)))]) (wr := [(hs, .inr (4, [.ref qy, .int (iI (sl : Int))])), (qy, ar cI 528 SB)]) [2, 3, 4] [0, 1] rfl rfl (by decide) (by decide) hP hD hS hA (bk_rV (rest := []) hx hb hml hown hT hK (c_Disk_appendByte l D cI cO hk qd qk (cpN (hdN DB sz k) (sz + 7) SB f t) (bU KS bc (sz : Int)) (sz + 7 + t) (bc + 1) tn (SB (f + t)) (by omega)) (bk_subP (X := [(hs, .inr (4, [.ref qy, .int (iI (sl : Int))])), (qy, ar cI 528 SB), (hk, .inr (0, [.ref qd, .ref qk, .int (iI ((sz + 7 + t : Nat) : Int)), .int (iI ((bc + 1 : Nat) : Int)), .int (iI tn)])), (qd, ar cI 693 (cpN (hdN DB sz k) (sz + 7) SB f t)), (qk, ar cI 15 (bU KS bc (sz : Int)))]) (pl := []) (Wc := [(hk, .inr (0, [.ref qd, .ref qk, .int (iI (((sz + 7 + t) : Nat) : Int)), .int (iI (((bc + 1) : Nat) : Int)), .int (iI tn)])), (qd, ar cI 693 (cpN (hdN DB sz k) (sz + 7) SB f t)), (qk, ar cI 15 (bU KS bc (sz : Int)))]) hP [2, 3, 4] rfl) (bk_subD (X := [(hs, .inr (4, [.ref qy, .int (iI (sl : Int))])), (qy, ar cI 528 SB), (hk, .inr (0, [.ref qd, .ref qk, .int (iI ((sz + 7 + t : Nat) : Int)), .int (iI ((bc + 1 : Nat) : Int)), .int (iI tn)])), (qd, ar cI 693 (cpN (hdN DB sz k) (sz + 7) SB f t)), (qk, ar cI 15 (bU KS bc (sz : Int)))]) (pl := []) (Wc := [(hk, .inr (0, [.ref qd, .ref qk, .int (iI (((sz + 7 + t) : Nat) : Int)), .int (iI (((bc + 1) : Nat) : Int)), .int (iI tn)])), (qd, ar cI 693 (cpN (hdN DB sz k) (sz + 7) SB f t)), (qk, ar cI 15 (bU KS bc (sz : Int)))]) hD [2, 3, 4] (by decide) rfl) 0 0 rfl rfl rfl tw_258 tw_260 ts_2 tw_5 tw_261 hd_Disk_appendByte ⟨rfl, rfl⟩ (by decide) hl.1 rfl (ble_le rfl) d_Disk_appendBlock_98 (by decide)) (fun u H locs hq hP hD hS => ?_)
            have hq : True := hq
            have hP : va_P D classes ([(hs, .inr (4, [.ref qy, .int (iI (sl : Int))])), (qy, ar cI 528 SB), (hk, .inr (0, [.ref qd, .ref qk, .int (iI (((sz + 7 + t) + 1 : Nat) : Int)), .int (iI (((bc + 1) : Nat) : Int)), .int (iI tn)])), (qd, ar cI 693 (bU (cpN (hdN DB sz k) (sz + 7) SB f t) (sz + 7 + t) (SB (f + t)))), (qk, ar cI 15 (bU KS bc (sz : Int)))]) H := hP
            have hD : va_D A ([(hs, .inr (4, [.ref qy, .int (iI (sl : Int))])), (qy, ar cI 528 SB), (hk, .inr (0, [.ref qd, .ref qk, .int (iI (((sz + 7 + t) + 1 : Nat) : Int)), .int (iI (((bc + 1) : Nat) : Int)), .int (iI tn)])), (qd, ar cI 693 (bU (cpN (hdN DB sz k) (sz + 7) SB f t) (sz + 7 + t) (SB (f + t)))), (qk, ar cI 15 (bU KS bc (sz : Int)))]) := hD
            have hcell : (ar cI 693 (cpN (hdN DB sz k) (sz + 7) SB f (t + 1)) : va_E) = ar cI 693 (bU (cpN (hdN DB sz k) (sz + 7) SB f t) (sz + 7 + t) (SB (f + t))) := by rw [cpN_s]
            have hP : va_P D classes ([(hs, .inr (4, [.ref qy, .int (iI (sl : Int))])), (qy, ar cI 528 SB), (hk, .inr (0, [.ref qd, .ref qk, .int (iI (((sz + 7 + t) + 1 : Nat) : Int)), .int (iI (((bc + 1) : Nat) : Int)), .int (iI tn)])), (qd, ar cI 693 (cpN (hdN DB sz k) (sz + 7) SB f (t + 1))), (qk, ar cI 15 (bU KS bc (sz : Int)))]) H := by
              rw [hcell]
              exact hP
            have hD : va_D A ([(hs, .inr (4, [.ref qy, .int (iI (sl : Int))])), (qy, ar cI 528 SB), (hk, .inr (0, [.ref qd, .ref qk, .int (iI (((sz + 7 + t) + 1 : Nat) : Int)), .int (iI (((bc + 1) : Nat) : Int)), .int (iI tn)])), (qd, ar cI 693 (cpN (hdN DB sz k) (sz + 7) SB f (t + 1))), (qk, ar cI 15 (bU KS bc (sz : Int)))]) := by
              rw [hcell]
              exact hD
            refine lv_iinc (k := 5) (v := iI ((f + t + 1 : Nat) : Int)) hx hb d_Disk_appendBlock_101 hl rfl ((iI_add _ _).trans (congrArg iI (by omega))) (by decide) rfl (fun ls hl => ?_)
            have hl : lv_has ls 6 [(5, .int (iI ((f + t + 1 : Nat) : Int))), (0, .ref hk), (1, .ref hs), (2, .int (iI (f : Int))), (3, .int (iI (k : Int))), (4, .int (iI ((sz + 7 : Nat) : Int)))] := hl
            refine lv_goto (tgt := 73) hx hb d_Disk_appendBlock_104 (by decide) ?_
            exact ih73 (k - (t + 1)) (by omega) (t + 1) _ _ _ rfl (by omega) (lv_sub hl [1, 2, 3, 4, 5, 0] rfl) hP hD hS
    exact cut73 _ 0 _ _ _ rfl (by omega) (lv_sub hl [2, 3, 4, 5, 1, 0] rfl) hP hD hS
