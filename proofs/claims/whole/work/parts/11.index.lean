abbrev rm_Indx_empty : Room := { frames := 0, cells := 0, slots := 0, locals := 0 }
set_option maxRecDepth 100000 in
set_option maxHeartbeats 4000000 in
theorem c_Indx_empty (l : Launch) (D : va_G) (cI cO : ClassId) (h qr qp qe qn qs qc : Nat) (RF PO EN BN ST CH : Nat → Int) (cn cc : Nat) : Mv l y_Indx_empty b_Indx_empty 1 rm_Indx_empty D cI cO [.ref h] ([(h, .inr (3, [.ref qr, .ref qp, .ref qe, .ref qn, .ref qs, .int (iI (cn : Int)), .ref qc, .int (iI (cc : Int))])), (qr, ar cI 24 RF), (qp, ar cI 24 PO), (qe, ar cI 24 EN), (qn, ar cI 24 BN), (qs, ar cI 24 ST), (qc, ar cI 24 CH)]) (fun (_ : Unit) => True) (fun (_ : Unit) => [(h, .inr (3, [.ref qr, .ref qp, .ref qe, .ref qn, .ref qs, .int (iI 0), .ref qc, .int (iI 0)])), (qr, ar cI 24 RF), (qp, ar cI 24 PO), (qe, ar cI 24 EN), (qn, ar cI 24 BN), (qs, ar cI 24 ST), (qc, ar cI 24 CH)]) 0 0 := by
  refine bk_start (by decide) (ble_le rfl) ?_
  intro p e s m args below meth c A ls Q hx hb hr hml hlk hown hnm hT hK hA hAe hQ hP hD hS hl
  have hown : s.vm.findClass "BinnedReads$Index" = some m.cls := hown
  have hl : lv_has ls 1 [(0, .ref h)] := hl
  refine lv_aload_n hx hb d_Indx_empty_0 rfl (lv_at hl 0 rfl) ?_
  refine lv_iconst (v := iI 0) hx hb d_Indx_empty_1 rfl ?_
  refine va_put (ci := 3) (v := .int (iI 0)) (ty := .int) (C := R_Indx) (T := F_Indx) (N := 8) hx hb hT in_Indx t_Indx to_Indx n_Indx hown hK.1 hP hD hS 0 rfl rfl 5 (by decide) (hT _ tw_68) (fun _ h => h) rfl (by decide +kernel) rfl rfl (ble_lt rfl) d_Indx_empty_2 (fun H locs hP hD hS => ?_)
  have hP : va_P D classes ([(h, .inr (3, [.ref qr, .ref qp, .ref qe, .ref qn, .ref qs, .int (iI 0), .ref qc, .int (iI (cc : Int))])), (qr, ar cI 24 RF), (qp, ar cI 24 PO), (qe, ar cI 24 EN), (qn, ar cI 24 BN), (qs, ar cI 24 ST), (qc, ar cI 24 CH)]) H := hP
  have hD : va_D A ([(h, .inr (3, [.ref qr, .ref qp, .ref qe, .ref qn, .ref qs, .int (iI 0), .ref qc, .int (iI (cc : Int))])), (qr, ar cI 24 RF), (qp, ar cI 24 PO), (qe, ar cI 24 EN), (qn, ar cI 24 BN), (qs, ar cI 24 ST), (qc, ar cI 24 CH)]) := hD
  refine lv_aload_n hx hb d_Indx_empty_5 rfl (lv_at hl 0 rfl) ?_
  refine lv_iconst (v := iI 0) hx hb d_Indx_empty_6 rfl ?_
  refine va_put (ci := 3) (v := .int (iI 0)) (ty := .int) (C := R_Indx) (T := F_Indx) (N := 8) hx hb hT in_Indx t_Indx to_Indx n_Indx hown hK.1 hP hD hS 0 rfl rfl 7 (by decide) (hT _ tw_72) (fun _ h => h) rfl (by decide +kernel) rfl rfl (ble_lt rfl) d_Indx_empty_7 (fun H locs hP hD hS => ?_)
  have hP : va_P D classes ([(h, .inr (3, [.ref qr, .ref qp, .ref qe, .ref qn, .ref qs, .int (iI 0), .ref qc, .int (iI 0)])), (qr, ar cI 24 RF), (qp, ar cI 24 PO), (qe, ar cI 24 EN), (qn, ar cI 24 BN), (qs, ar cI 24 ST), (qc, ar cI 24 CH)]) H := hP
  have hD : va_D A ([(h, .inr (3, [.ref qr, .ref qp, .ref qe, .ref qn, .ref qs, .int (iI 0), .ref qc, .int (iI 0)])), (qr, ar cI 24 RF), (qp, ar cI 24 PO), (qe, ar cI 24 EN), (qn, ar cI 24 BN), (qs, ar cI 24 ST), (qc, ar cI 24 CH)]) := hD
  exact bk_retv hx hb hr hlk hAe hQ hS () trivial hP hD d_Indx_empty_10
abbrev rm_Indx_isFull : Room := { frames := 0, cells := 0, slots := 0, locals := 0 }
set_option maxRecDepth 100000 in
set_option maxHeartbeats 4000000 in
theorem c_Indx_isFull (l : Launch) (D : va_G) (cI cO : ClassId) (h qr qp qe qn qs qc : Nat) (RF PO EN BN ST CH : Nat → Int) (cn cc : Nat) (hcn : cn ≤ 24) : Mi l y_Indx_isFull b_Indx_isFull 1 .boolean rm_Indx_isFull D cI cO [.ref h] ([(h, .inr (3, [.ref qr, .ref qp, .ref qe, .ref qn, .ref qs, .int (iI (cn : Int)), .ref qc, .int (iI (cc : Int))])), (qr, ar cI 24 RF), (qp, ar cI 24 PO), (qe, ar cI 24 EN), (qn, ar cI 24 BN), (qs, ar cI 24 ST), (qc, ar cI 24 CH)]) (fun (r : Int) (_ : Unit) => ((24 ≤ cn) ∧ r = 1) ∨ (¬ (24 ≤ cn) ∧ r = 0)) (fun (_ : Unit) => [(h, .inr (3, [.ref qr, .ref qp, .ref qe, .ref qn, .ref qs, .int (iI (cn : Int)), .ref qc, .int (iI (cc : Int))])), (qr, ar cI 24 RF), (qp, ar cI 24 PO), (qe, ar cI 24 EN), (qn, ar cI 24 BN), (qs, ar cI 24 ST), (qc, ar cI 24 CH)]) 0 0 := by
  refine bk_start (by decide) (ble_le rfl) ?_
  intro p e s m args below meth c A ls Q hx hb hr hml hlk hown hnm hT hK hA hAe hQ hP hD hS hl
  have hown : s.vm.findClass "BinnedReads$Index" = some m.cls := hown
  have hl : lv_has ls 1 [(0, .ref h)] := hl
  refine lv_aload_n hx hb d_Indx_isFull_0 rfl (lv_at hl 0 rfl) ?_
  refine va_get (ci := 3) (C := R_Indx) (T := F_Indx) (N := 8) hx hb hT in_Indx hown hK.1 hP 0 rfl rfl 5 (by decide) (hT _ tw_68) (fun _ h => h) rfl d_Indx_isFull_1 ?_
  refine lv_bipush (v := iI 24) hx hb d_Indx_isFull_4 (by decide) ?_
  refine bk_icmp_lt (tgt := 13) hx hb d_Indx_isFull_6 (by decide) (by omega) (by omega) (fun c6 => ?_) (fun c6 => ?_)
  · skip
    refine lv_iconst (v := iI 0) hx hb d_Indx_isFull_13 rfl ?_
    exact bk_reti (r := 0) hx hb hr iI_nar0 hlk hAe hQ hS () (by omega) hP hD d_Indx_isFull_14
  · skip
    refine lv_iconst (v := iI 1) hx hb d_Indx_isFull_9 rfl ?_
    refine lv_goto (tgt := 14) hx hb d_Indx_isFull_10 (by decide) ?_
    exact bk_reti (r := 1) hx hb hr iI_nar1 hlk hAe hQ hS () (by omega) hP hD d_Indx_isFull_14
abbrev rm_Indx_endsBehind : Room := { frames := 0, cells := 0, slots := 0, locals := 0 }
set_option maxRecDepth 100000 in
set_option maxHeartbeats 4000000 in
theorem c_Indx_endsBehind (l : Launch) (D : va_G) (cI cO : ClassId) (h qr qp qe qn qs qc : Nat) (RF PO EN BN ST CH : Nat → Int) (cn cc : Nat) (a b : Int) (hcn : cn ≤ 24) (hRF : ∀ i, i < cn → 0 ≤ RF i ∧ RF i ≤ 1) (hPO : ∀ i, i < cn → 0 ≤ PO i ∧ PO i ≤ 4095) (hEN : ∀ i, i < cn → 0 ≤ EN i ∧ EN i ≤ 4096) (hBN : ∀ i, i < cn → 0 ≤ BN i ∧ BN i ≤ 72) (ha : -2147483648 ≤ a ∧ a < 2147483648) (hb1 : -2147483648 ≤ b ∧ b < 2147483648) : Mi l y_Indx_endsBehind b_Indx_endsBehind 4 .boolean rm_Indx_endsBehind D cI cO [.ref h, .int (iI a), .int (iI b)] ([(h, .inr (3, [.ref qr, .ref qp, .ref qe, .ref qn, .ref qs, .int (iI (cn : Int)), .ref qc, .int (iI (cc : Int))])), (qr, ar cI 24 RF), (qp, ar cI 24 PO), (qe, ar cI 24 EN), (qn, ar cI 24 BN), (qs, ar cI 24 ST), (qc, ar cI 24 CH)]) (fun (r : Int) (_ : Unit) => ((0 < cn ∧ (a < RF (cn - 1) ∨ (a = RF (cn - 1) ∧ b < PO (cn - 1)))) ∧ r = 1) ∨ (¬ (0 < cn ∧ (a < RF (cn - 1) ∨ (a = RF (cn - 1) ∧ b < PO (cn - 1)))) ∧ r = 0)) (fun (_ : Unit) => [(h, .inr (3, [.ref qr, .ref qp, .ref qe, .ref qn, .ref qs, .int (iI (cn : Int)), .ref qc, .int (iI (cc : Int))])), (qr, ar cI 24 RF), (qp, ar cI 24 PO), (qe, ar cI 24 EN), (qn, ar cI 24 BN), (qs, ar cI 24 ST), (qc, ar cI 24 CH)]) 0 0 := by
  refine bk_start (by decide) (ble_le rfl) ?_
  intro p e s m args below meth c A ls Q hx hb hr hml hlk hown hnm hT hK hA hAe hQ hP hD hS hl
  have hown : s.vm.findClass "BinnedReads$Index" = some m.cls := hown
  have hl : lv_has ls 4 [(0, .ref h), (1, .int (iI a)), (2, .int (iI b))] := hl
  refine lv_aload_n hx hb d_Indx_endsBehind_0 rfl (lv_at hl 0 rfl) ?_
  refine va_get (ci := 3) (C := R_Indx) (T := F_Indx) (N := 8) hx hb hT in_Indx hown hK.1 hP 0 rfl rfl 5 (by decide) (hT _ tw_68) (fun _ h => h) rfl d_Indx_endsBehind_1 ?_
  refine bk_if_ne (tgt := 9) hx hb d_Indx_endsBehind_4 (by decide) (by omega) (fun c4 => ?_) (fun c4 => ?_)
  · skip
    have h1 := hRF (cn - 1) (by omega)
    have h2 := hPO (cn - 1) (by omega)
    refine lv_aload_n hx hb d_Indx_endsBehind_9 rfl (lv_at hl 0 rfl) ?_
    refine va_get (ci := 3) (C := R_Indx) (T := F_Indx) (N := 8) hx hb hT in_Indx hown hK.1 hP 0 rfl rfl 5 (by decide) (hT _ tw_68) (fun _ h => h) rfl d_Indx_endsBehind_10 ?_
    refine lv_iconst (v := iI 1) hx hb d_Indx_endsBehind_13 rfl ?_
    refine bk_sub hx hb d_Indx_endsBehind_14 ?_
    refine lv_istore_n hx hb d_Indx_endsBehind_15 rfl hl (by decide) rfl (fun ls hl => ?_)
    have hl : lv_has ls 4 [(3, .int (iI ((cn : Int) - 1))), (0, .ref h), (1, .int (iI a)), (2, .int (iI b))] := hl
    refine lv_iload_n hx hb d_Indx_endsBehind_16 rfl (lv_at hl 2 rfl) ?_
    refine lv_aload_n hx hb d_Indx_endsBehind_17 rfl (lv_at hl 1 rfl) ?_
    refine va_get (ci := 3) (C := R_Indx) (T := F_Indx) (N := 8) hx hb hT in_Indx hown hK.1 hP 0 rfl rfl 0 (by decide) (hT _ tw_62) (fun _ h => h) rfl d_Indx_endsBehind_18 ?_
    refine lv_iload_n hx hb d_Indx_endsBehind_21 rfl (lv_at hl 0 rfl) ?_
    refine bk_iald hx hb hK.1 hP 1 0 rfl rfl (cn - 1) (by omega) (by decide) d_Indx_endsBehind_22 ?_
    refine bk_icmp_lt (tgt := 46) hx hb d_Indx_endsBehind_23 (by decide) (by omega) (by omega) (fun c23 => ?_) (fun c23 => ?_)
    · skip
      refine lv_iconst (v := iI 1) hx hb d_Indx_endsBehind_46 rfl ?_
      refine lv_goto (tgt := 51) hx hb d_Indx_endsBehind_47 (by decide) ?_
      exact bk_reti (r := 1) hx hb hr iI_nar1 hlk hAe hQ hS () (by omega) hP hD d_Indx_endsBehind_51
    · skip
      refine lv_iload_n hx hb d_Indx_endsBehind_26 rfl (lv_at hl 2 rfl) ?_
      refine lv_aload_n hx hb d_Indx_endsBehind_27 rfl (lv_at hl 1 rfl) ?_
      refine va_get (ci := 3) (C := R_Indx) (T := F_Indx) (N := 8) hx hb hT in_Indx hown hK.1 hP 0 rfl rfl 0 (by decide) (hT _ tw_62) (fun _ h => h) rfl d_Indx_endsBehind_28 ?_
      refine lv_iload_n hx hb d_Indx_endsBehind_31 rfl (lv_at hl 0 rfl) ?_
      refine bk_iald hx hb hK.1 hP 1 0 rfl rfl (cn - 1) (by omega) (by decide) d_Indx_endsBehind_32 ?_
      refine bk_icmp_ne (tgt := 50) hx hb d_Indx_endsBehind_33 (by decide) (by omega) (by omega) (fun c33 => ?_) (fun c33 => ?_)
      · skip
        refine lv_iconst (v := iI 0) hx hb d_Indx_endsBehind_50 rfl ?_
        exact bk_reti (r := 0) hx hb hr iI_nar0 hlk hAe hQ hS () (by omega) hP hD d_Indx_endsBehind_51
      · skip
        refine lv_iload_n hx hb d_Indx_endsBehind_36 rfl (lv_at hl 3 rfl) ?_
        refine lv_aload_n hx hb d_Indx_endsBehind_37 rfl (lv_at hl 1 rfl) ?_
        refine va_get (ci := 3) (C := R_Indx) (T := F_Indx) (N := 8) hx hb hT in_Indx hown hK.1 hP 0 rfl rfl 1 (by decide) (hT _ tw_63) (fun _ h => h) rfl d_Indx_endsBehind_38 ?_
        refine lv_iload_n hx hb d_Indx_endsBehind_41 rfl (lv_at hl 0 rfl) ?_
        refine bk_iald hx hb hK.1 hP 2 0 rfl rfl (cn - 1) (by omega) (by decide) d_Indx_endsBehind_42 ?_
        refine bk_icmp_ge (tgt := 50) hx hb d_Indx_endsBehind_43 (by decide) (by omega) (by omega) (fun c43 => ?_) (fun c43 => ?_)
        · skip
          refine lv_iconst (v := iI 0) hx hb d_Indx_endsBehind_50 rfl ?_
          exact bk_reti (r := 0) hx hb hr iI_nar0 hlk hAe hQ hS () (by omega) hP hD d_Indx_endsBehind_51
        · skip
          refine lv_iconst (v := iI 1) hx hb d_Indx_endsBehind_46 rfl ?_
          refine lv_goto (tgt := 51) hx hb d_Indx_endsBehind_47 (by decide) ?_
          exact bk_reti (r := 1) hx hb hr iI_nar1 hlk hAe hQ hS () (by omega) hP hD d_Indx_endsBehind_51
  · skip
    refine lv_iconst (v := iI 0) hx hb d_Indx_endsBehind_7 rfl ?_
    exact bk_reti (r := 0) hx hb hr iI_nar0 hlk hAe hQ hS () (by omega) hP hD d_Indx_endsBehind_8
abbrev rm_Indx_append : Room := { frames := 1, cells := 0, slots := 0, locals := 20 }
set_option maxRecDepth 100000 in
set_option maxHeartbeats 4000000 in
theorem c_Indx_append (l : Launch) (D : va_G) (cI cO : ClassId) (h qr qp qe qn qs qc : Nat) (RF PO EN BN ST CH : Nat → Int) (cn cc : Nat) (x1 x2 x3 x4 x5 : Int) (hcn : cn < 24) : Mi l y_Indx_append b_Indx_append 6 .int rm_Indx_append D cI cO [.ref h, .int (iI x1), .int (iI x2), .int (iI x3), .int (iI x4), .int (iI x5)] ([(h, .inr (3, [.ref qr, .ref qp, .ref qe, .ref qn, .ref qs, .int (iI (cn : Int)), .ref qc, .int (iI (cc : Int))])), (qr, ar cI 24 RF), (qp, ar cI 24 PO), (qe, ar cI 24 EN), (qn, ar cI 24 BN), (qs, ar cI 24 ST), (qc, ar cI 24 CH)]) (fun (r : Int) (_ : Unit) => r = (cn : Int)) (fun (_ : Unit) => [(h, .inr (3, [.ref qr, .ref qp, .ref qe, .ref qn, .ref qs, .int (iI ((cn + 1 : Nat) : Int)), .ref qc, .int (iI (cc : Int))])), (qr, ar cI 24 (bU RF cn x1)), (qp, ar cI 24 (bU PO cn x2)), (qe, ar cI 24 (bU EN cn x3)), (qn, ar cI 24 (bU BN cn x4)), (qs, ar cI 24 (bU ST cn x5)), (qc, ar cI 24 CH)]) 0 0 := by
  refine bk_start (by decide) (ble_le rfl) ?_
  intro p e s m args below meth c A ls Q hx hb hr hml hlk hown hnm hT hK hA hAe hQ hP hD hS hl
  have hown : s.vm.findClass "BinnedReads$Index" = some m.cls := hown
  have hl : lv_has ls 6 [(0, .ref h), (1, .int (iI x1)), (2, .int (iI x2)), (3, .int (iI x3)), (4, .int (iI x4)), (5, .int (iI x5))] := hl
  refine lv_aload_n hx hb d_Indx_append_0 rfl (lv_at hl 0 rfl) ?_
  refine bk_fR (ws := [(h, .inr (3, [.ref qr, .ref qp, .ref qe, .ref qn, .ref qs, .int (iI (cn : Int)), .ref qc, .int (iI (cc : Int))])), (qr, ar cI 24 RF), (qp, ar cI 24 PO), (qe, ar cI 24 EN), (qn, ar cI 24 BN), (qs, ar cI 24 ST), (qc, ar cI 24 CH)]) (Wc := [(h, .inr (3, [.ref qr, .ref qp, .ref qe, .ref qn, .ref qs, .int (iI (cn : Int)), .ref qc, .int (iI (cc : Int))])), (qr, ar cI 24 RF), (qp, ar cI 24 PO), (qe, ar cI 24 EN), (qn, ar cI 24 BN), (qs, ar cI 24 ST), (qc, ar cI 24 CH)]) (fun _ => rfl) (bk_hs (X := [(h, .inr (3, [.ref qr, .ref qp, .ref qe, .ref qn, .ref qs, .int (iI (cn : Int)), .ref qc, .int (iI (cc : Int))])), (qr, ar cI 24 RF), (qp, ar cI 24 PO), (qe, ar cI 24 EN), (qn, ar cI 24 BN), (qs, ar cI 24 ST), (qc, ar cI 24 CH)]) (pl := []) (Wc := [(h, .inr (3, [.ref qr, .ref qp, .ref qe, .ref qn, .ref qs, .int (iI (cn : Int)), .ref qc, .int (iI (cc : Int))])), (qr, ar cI 24 RF), (qp, ar cI 24 PO), (qe, ar cI 24 EN), (qn, ar cI 24 BN), (qs, ar cI 24 ST), (qc, ar cI 24 CH)]) [0, 1, 2, 3, 4, 5, 6] rfl) hP hD hS hA (bk_rV (rest := []) hx hb hml hown hT hK (c_Indx_isFull l D cI cO h qr qp qe qn qs qc RF PO EN BN ST CH cn cc (by omega)) (bk_subP (X := [(h, .inr (3, [.ref qr, .ref qp, .ref qe, .ref qn, .ref qs, .int (iI (cn : Int)), .ref qc, .int (iI (cc : Int))])), (qr, ar cI 24 RF), (qp, ar cI 24 PO), (qe, ar cI 24 EN), (qn, ar cI 24 BN), (qs, ar cI 24 ST), (qc, ar cI 24 CH)]) (pl := []) (Wc := [(h, .inr (3, [.ref qr, .ref qp, .ref qe, .ref qn, .ref qs, .int (iI (cn : Int)), .ref qc, .int (iI (cc : Int))])), (qr, ar cI 24 RF), (qp, ar cI 24 PO), (qe, ar cI 24 EN), (qn, ar cI 24 BN), (qs, ar cI 24 ST), (qc, ar cI 24 CH)]) hP [0, 1, 2, 3, 4, 5, 6] rfl) (bk_subD (X := [(h, .inr (3, [.ref qr, .ref qp, .ref qe, .ref qn, .ref qs, .int (iI (cn : Int)), .ref qc, .int (iI (cc : Int))])), (qr, ar cI 24 RF), (qp, ar cI 24 PO), (qe, ar cI 24 EN), (qn, ar cI 24 BN), (qs, ar cI 24 ST), (qc, ar cI 24 CH)]) (pl := []) (Wc := [(h, .inr (3, [.ref qr, .ref qp, .ref qe, .ref qn, .ref qs, .int (iI (cn : Int)), .ref qc, .int (iI (cc : Int))])), (qr, ar cI 24 RF), (qp, ar cI 24 PO), (qe, ar cI 24 EN), (qn, ar cI 24 BN), (qs, ar cI 24 ST), (qc, ar cI 24 CH)]) hD [0, 1, 2, 3, 4, 5, 6] (by decide) rfl) 0 3 rfl rfl rfl tw_230 tw_189 tw_190 tw_4 tw_191 hd_Indx_isFull ⟨rfl, rfl⟩ (by decide) hl.1 rfl (ble_le rfl) d_Indx_append_1 (by decide)) (fun r1 u H locs hq hP hS => ?_)
  have hq : ((24 ≤ cn) ∧ r1 = 1) ∨ (¬ (24 ≤ cn) ∧ r1 = 0) := hq
  have hr1 : 0 ≤ r1 ∧ r1 ≤ 1 := by omega
  refine bk_if_eq (tgt := 9) hx hb d_Indx_append_4 (by decide) (by omega) (fun c4 => ?_) (fun c4 => ?_)
  · skip
    refine lv_aload_n hx hb d_Indx_append_9 rfl (lv_at hl 0 rfl) ?_
    refine va_get (ci := 3) (C := R_Indx) (T := F_Indx) (N := 8) hx hb hT in_Indx hown hK.1 hP 0 rfl rfl 0 (by decide) (hT _ tw_62) (fun _ h => h) rfl d_Indx_append_10 ?_
    refine lv_aload_n hx hb d_Indx_append_13 rfl (lv_at hl 0 rfl) ?_
    refine va_get (ci := 3) (C := R_Indx) (T := F_Indx) (N := 8) hx hb hT in_Indx hown hK.1 hP 0 rfl rfl 5 (by decide) (hT _ tw_68) (fun _ h => h) rfl d_Indx_append_14 ?_
    refine lv_iload_n hx hb d_Indx_append_17 rfl (lv_at hl 1 rfl) ?_
    refine bk_iast hx hb hK.1 hP hD hS 1 0 rfl rfl cn (by omega) (by decide) d_Indx_append_18 (fun H locs hP hD hS => ?_)
    have hP : va_P D classes ([(h, .inr (3, [.ref qr, .ref qp, .ref qe, .ref qn, .ref qs, .int (iI (cn : Int)), .ref qc, .int (iI (cc : Int))])), (qr, ar cI 24 (bU RF cn x1)), (qp, ar cI 24 PO), (qe, ar cI 24 EN), (qn, ar cI 24 BN), (qs, ar cI 24 ST), (qc, ar cI 24 CH)]) H := hP
    have hD : va_D A ([(h, .inr (3, [.ref qr, .ref qp, .ref qe, .ref qn, .ref qs, .int (iI (cn : Int)), .ref qc, .int (iI (cc : Int))])), (qr, ar cI 24 (bU RF cn x1)), (qp, ar cI 24 PO), (qe, ar cI 24 EN), (qn, ar cI 24 BN), (qs, ar cI 24 ST), (qc, ar cI 24 CH)]) := hD
    refine lv_aload_n hx hb d_Indx_append_19 rfl (lv_at hl 0 rfl) ?_
    refine va_get (ci := 3) (C := R_Indx) (T := F_Indx) (N := 8) hx hb hT in_Indx hown hK.1 hP 0 rfl rfl 1 (by decide) (hT _ tw_63) (fun _ h => h) rfl d_Indx_append_20 ?_
    refine lv_aload_n hx hb d_Indx_append_23 rfl (lv_at hl 0 rfl) ?_
    refine va_get (ci := 3) (C := R_Indx) (T := F_Indx) (N := 8) hx hb hT in_Indx hown hK.1 hP 0 rfl rfl 5 (by decide) (hT _ tw_68) (fun _ h => h) rfl d_Indx_append_24 ?_
    refine lv_iload_n hx hb d_Indx_append_27 rfl (lv_at hl 2 rfl) ?_
    refine bk_iast hx hb hK.1 hP hD hS 2 0 rfl rfl cn (by omega) (by decide) d_Indx_append_28 (fun H locs hP hD hS => ?_)
    have hP : va_P D classes ([(h, .inr (3, [.ref qr, .ref qp, .ref qe, .ref qn, .ref qs, .int (iI (cn : Int)), .ref qc, .int (iI (cc : Int))])), (qr, ar cI 24 (bU RF cn x1)), (qp, ar cI 24 (bU PO cn x2)), (qe, ar cI 24 EN), (qn, ar cI 24 BN), (qs, ar cI 24 ST), (qc, ar cI 24 CH)]) H := hP
    have hD : va_D A ([(h, .inr (3, [.ref qr, .ref qp, .ref qe, .ref qn, .ref qs, .int (iI (cn : Int)), .ref qc, .int (iI (cc : Int))])), (qr, ar cI 24 (bU RF cn x1)), (qp, ar cI 24 (bU PO cn x2)), (qe, ar cI 24 EN), (qn, ar cI 24 BN), (qs, ar cI 24 ST), (qc, ar cI 24 CH)]) := hD
    refine lv_aload_n hx hb d_Indx_append_29 rfl (lv_at hl 0 rfl) ?_
    refine va_get (ci := 3) (C := R_Indx) (T := F_Indx) (N := 8) hx hb hT in_Indx hown hK.1 hP 0 rfl rfl 2 (by decide) (hT _ tw_64) (fun _ h => h) rfl d_Indx_append_30 ?_
    refine lv_aload_n hx hb d_Indx_append_33 rfl (lv_at hl 0 rfl) ?_
    refine va_get (ci := 3) (C := R_Indx) (T := F_Indx) (N := 8) hx hb hT in_Indx hown hK.1 hP 0 rfl rfl 5 (by decide) (hT _ tw_68) (fun _ h => h) rfl d_Indx_append_34 ?_
    refine lv_iload_n hx hb d_Indx_append_37 rfl (lv_at hl 3 rfl) ?_
    refine bk_iast hx hb hK.1 hP hD hS 3 0 rfl rfl cn (by omega) (by decide) d_Indx_append_38 (fun H locs hP hD hS => ?_)
    have hP : va_P D classes ([(h, .inr (3, [.ref qr, .ref qp, .ref qe, .ref qn, .ref qs, .int (iI (cn : Int)), .ref qc, .int (iI (cc : Int))])), (qr, ar cI 24 (bU RF cn x1)), (qp, ar cI 24 (bU PO cn x2)), (qe, ar cI 24 (bU EN cn x3)), (qn, ar cI 24 BN), (qs, ar cI 24 ST), (qc, ar cI 24 CH)]) H := hP
    have hD : va_D A ([(h, .inr (3, [.ref qr, .ref qp, .ref qe, .ref qn, .ref qs, .int (iI (cn : Int)), .ref qc, .int (iI (cc : Int))])), (qr, ar cI 24 (bU RF cn x1)), (qp, ar cI 24 (bU PO cn x2)), (qe, ar cI 24 (bU EN cn x3)), (qn, ar cI 24 BN), (qs, ar cI 24 ST), (qc, ar cI 24 CH)]) := hD
    refine lv_aload_n hx hb d_Indx_append_39 rfl (lv_at hl 0 rfl) ?_
    refine va_get (ci := 3) (C := R_Indx) (T := F_Indx) (N := 8) hx hb hT in_Indx hown hK.1 hP 0 rfl rfl 3 (by decide) (hT _ tw_65) (fun _ h => h) rfl d_Indx_append_40 ?_
    refine lv_aload_n hx hb d_Indx_append_43 rfl (lv_at hl 0 rfl) ?_
    refine va_get (ci := 3) (C := R_Indx) (T := F_Indx) (N := 8) hx hb hT in_Indx hown hK.1 hP 0 rfl rfl 5 (by decide) (hT _ tw_68) (fun _ h => h) rfl d_Indx_append_44 ?_
    refine lv_iload hx hb d_Indx_append_47 (lv_at hl 4 rfl) ?_
    refine bk_iast hx hb hK.1 hP hD hS 4 0 rfl rfl cn (by omega) (by decide) d_Indx_append_49 (fun H locs hP hD hS => ?_)
    have hP : va_P D classes ([(h, .inr (3, [.ref qr, .ref qp, .ref qe, .ref qn, .ref qs, .int (iI (cn : Int)), .ref qc, .int (iI (cc : Int))])), (qr, ar cI 24 (bU RF cn x1)), (qp, ar cI 24 (bU PO cn x2)), (qe, ar cI 24 (bU EN cn x3)), (qn, ar cI 24 (bU BN cn x4)), (qs, ar cI 24 ST), (qc, ar cI 24 CH)]) H := hP
    have hD : va_D A ([(h, .inr (3, [.ref qr, .ref qp, .ref qe, .ref qn, .ref qs, .int (iI (cn : Int)), .ref qc, .int (iI (cc : Int))])), (qr, ar cI 24 (bU RF cn x1)), (qp, ar cI 24 (bU PO cn x2)), (qe, ar cI 24 (bU EN cn x3)), (qn, ar cI 24 (bU BN cn x4)), (qs, ar cI 24 ST), (qc, ar cI 24 CH)]) := hD
    refine lv_aload_n hx hb d_Indx_append_50 rfl (lv_at hl 0 rfl) ?_
    refine va_get (ci := 3) (C := R_Indx) (T := F_Indx) (N := 8) hx hb hT in_Indx hown hK.1 hP 0 rfl rfl 4 (by decide) (hT _ tw_66) (fun _ h => h) rfl d_Indx_append_51 ?_
    refine lv_aload_n hx hb d_Indx_append_54 rfl (lv_at hl 0 rfl) ?_
    refine va_get (ci := 3) (C := R_Indx) (T := F_Indx) (N := 8) hx hb hT in_Indx hown hK.1 hP 0 rfl rfl 5 (by decide) (hT _ tw_68) (fun _ h => h) rfl d_Indx_append_55 ?_
    refine lv_iload hx hb d_Indx_append_58 (lv_at hl 5 rfl) ?_
    refine bk_iast hx hb hK.1 hP hD hS 5 0 rfl rfl cn (by omega) (by decide) d_Indx_append_60 (fun H locs hP hD hS => ?_)
    have hP : va_P D classes ([(h, .inr (3, [.ref qr, .ref qp, .ref qe, .ref qn, .ref qs, .int (iI (cn : Int)), .ref qc, .int (iI (cc : Int))])), (qr, ar cI 24 (bU RF cn x1)), (qp, ar cI 24 (bU PO cn x2)), (qe, ar cI 24 (bU EN cn x3)), (qn, ar cI 24 (bU BN cn x4)), (qs, ar cI 24 (bU ST cn x5)), (qc, ar cI 24 CH)]) H := hP
    have hD : va_D A ([(h, .inr (3, [.ref qr, .ref qp, .ref qe, .ref qn, .ref qs, .int (iI (cn : Int)), .ref qc, .int (iI (cc : Int))])), (qr, ar cI 24 (bU RF cn x1)), (qp, ar cI 24 (bU PO cn x2)), (qe, ar cI 24 (bU EN cn x3)), (qn, ar cI 24 (bU BN cn x4)), (qs, ar cI 24 (bU ST cn x5)), (qc, ar cI 24 CH)]) := hD
    refine lv_aload_n hx hb d_Indx_append_61 rfl (lv_at hl 0 rfl) ?_
    refine lv_dup hx hb d_Indx_append_62 rfl ?_
    refine va_get (ci := 3) (C := R_Indx) (T := F_Indx) (N := 8) hx hb hT in_Indx hown hK.1 hP 0 rfl rfl 5 (by decide) (hT _ tw_68) (fun _ h => h) rfl d_Indx_append_63 ?_
    refine lv_dup_x1 hx hb d_Indx_append_66 rfl rfl ?_
    refine lv_iconst (v := iI 1) hx hb d_Indx_append_67 rfl ?_
    refine bk_add hx hb d_Indx_append_68 ?_
    refine bk_top (y := iI ((cn + 1 : Nat) : Int)) (congrArg iI (by omega)) ?_
    refine va_put (ci := 3) (v := .int (iI ((cn + 1 : Nat) : Int))) (ty := .int) (C := R_Indx) (T := F_Indx) (N := 8) hx hb hT in_Indx t_Indx to_Indx n_Indx hown hK.1 hP hD hS 0 rfl rfl 5 (by decide) (hT _ tw_68) (fun _ h => h) rfl (by decide +kernel) rfl rfl (ble_lt rfl) d_Indx_append_69 (fun H locs hP hD hS => ?_)
    have hP : va_P D classes ([(h, .inr (3, [.ref qr, .ref qp, .ref qe, .ref qn, .ref qs, .int (iI ((cn + 1 : Nat) : Int)), .ref qc, .int (iI (cc : Int))])), (qr, ar cI 24 (bU RF cn x1)), (qp, ar cI 24 (bU PO cn x2)), (qe, ar cI 24 (bU EN cn x3)), (qn, ar cI 24 (bU BN cn x4)), (qs, ar cI 24 (bU ST cn x5)), (qc, ar cI 24 CH)]) H := hP
    have hD : va_D A ([(h, .inr (3, [.ref qr, .ref qp, .ref qe, .ref qn, .ref qs, .int (iI ((cn + 1 : Nat) : Int)), .ref qc, .int (iI (cc : Int))])), (qr, ar cI 24 (bU RF cn x1)), (qp, ar cI 24 (bU PO cn x2)), (qe, ar cI 24 (bU EN cn x3)), (qn, ar cI 24 (bU BN cn x4)), (qs, ar cI 24 (bU ST cn x5)), (qc, ar cI 24 CH)]) := hD
    exact bk_reti (r := (cn : Int)) hx hb hr rfl hlk hAe hQ hS () rfl hP hD d_Indx_append_72
  · skip
    exact absurd c4 (by omega)
abbrev rm_Indx_overlaps : Room := { frames := 0, cells := 0, slots := 0, locals := 0 }
set_option maxRecDepth 100000 in
set_option maxHeartbeats 4000000 in
theorem c_Indx_overlaps (l : Launch) (D : va_G) (cI cO : ClassId) (h qr qp qe qn qs qc : Nat) (RF PO EN BN ST CH : Nat → Int) (cn cc : Nat) (i : Nat) (b d : Int) (hcn : cn ≤ 24) (hRF : ∀ i, i < cn → 0 ≤ RF i ∧ RF i ≤ 1) (hPO : ∀ i, i < cn → 0 ≤ PO i ∧ PO i ≤ 4095) (hEN : ∀ i, i < cn → 0 ≤ EN i ∧ EN i ≤ 4096) (hBN : ∀ i, i < cn → 0 ≤ BN i ∧ BN i ≤ 72) (hi : i < cn) (hb1 : -2147483648 ≤ b ∧ b < 2147483648) (hd1 : -2147483648 ≤ d ∧ d < 2147483648) : Mi l y_Indx_overlaps b_Indx_overlaps 4 .boolean rm_Indx_overlaps D cI cO [.ref h, .int (iI (i : Int)), .int (iI b), .int (iI d)] ([(h, .inr (3, [.ref qr, .ref qp, .ref qe, .ref qn, .ref qs, .int (iI (cn : Int)), .ref qc, .int (iI (cc : Int))])), (qr, ar cI 24 RF), (qp, ar cI 24 PO), (qe, ar cI 24 EN), (qn, ar cI 24 BN), (qs, ar cI 24 ST), (qc, ar cI 24 CH)]) (fun (r : Int) (_ : Unit) => ((PO i < d ∧ b < EN i) ∧ r = 1) ∨ (¬ (PO i < d ∧ b < EN i) ∧ r = 0)) (fun (_ : Unit) => [(h, .inr (3, [.ref qr, .ref qp, .ref qe, .ref qn, .ref qs, .int (iI (cn : Int)), .ref qc, .int (iI (cc : Int))])), (qr, ar cI 24 RF), (qp, ar cI 24 PO), (qe, ar cI 24 EN), (qn, ar cI 24 BN), (qs, ar cI 24 ST), (qc, ar cI 24 CH)]) 0 0 := by
  refine bk_start (by decide) (ble_le rfl) ?_
  intro p e s m args below meth c A ls Q hx hb hr hml hlk hown hnm hT hK hA hAe hQ hP hD hS hl
  have hown : s.vm.findClass "BinnedReads$Index" = some m.cls := hown
  have hl : lv_has ls 4 [(0, .ref h), (1, .int (iI (i : Int))), (2, .int (iI b)), (3, .int (iI d))] := hl
  have h1 := hPO i hi
  have h2 := hEN i hi
  refine lv_aload_n hx hb d_Indx_overlaps_0 rfl (lv_at hl 0 rfl) ?_
  refine va_get (ci := 3) (C := R_Indx) (T := F_Indx) (N := 8) hx hb hT in_Indx hown hK.1 hP 0 rfl rfl 1 (by decide) (hT _ tw_63) (fun _ h => h) rfl d_Indx_overlaps_1 ?_
  refine lv_iload_n hx hb d_Indx_overlaps_4 rfl (lv_at hl 1 rfl) ?_
  refine bk_iald hx hb hK.1 hP 2 0 rfl rfl i (by omega) (by decide) d_Indx_overlaps_5 ?_
  refine lv_iload_n hx hb d_Indx_overlaps_6 rfl (lv_at hl 3 rfl) ?_
  refine bk_icmp_ge (tgt := 24) hx hb d_Indx_overlaps_7 (by decide) (by omega) (by omega) (fun c7 => ?_) (fun c7 => ?_)
  · skip
    refine lv_iconst (v := iI 0) hx hb d_Indx_overlaps_24 rfl ?_
    exact bk_reti (r := 0) hx hb hr iI_nar0 hlk hAe hQ hS () (by omega) hP hD d_Indx_overlaps_25
  · skip
    refine lv_iload_n hx hb d_Indx_overlaps_10 rfl (lv_at hl 2 rfl) ?_
    refine lv_aload_n hx hb d_Indx_overlaps_11 rfl (lv_at hl 0 rfl) ?_
    refine va_get (ci := 3) (C := R_Indx) (T := F_Indx) (N := 8) hx hb hT in_Indx hown hK.1 hP 0 rfl rfl 2 (by decide) (hT _ tw_64) (fun _ h => h) rfl d_Indx_overlaps_12 ?_
    refine lv_iload_n hx hb d_Indx_overlaps_15 rfl (lv_at hl 1 rfl) ?_
    refine bk_iald hx hb hK.1 hP 3 0 rfl rfl i (by omega) (by decide) d_Indx_overlaps_16 ?_
    refine bk_icmp_ge (tgt := 24) hx hb d_Indx_overlaps_17 (by decide) (by omega) (by omega) (fun c17 => ?_) (fun c17 => ?_)
    · skip
      refine lv_iconst (v := iI 0) hx hb d_Indx_overlaps_24 rfl ?_
      exact bk_reti (r := 0) hx hb hr iI_nar0 hlk hAe hQ hS () (by omega) hP hD d_Indx_overlaps_25
    · skip
      refine lv_iconst (v := iI 1) hx hb d_Indx_overlaps_20 rfl ?_
      refine lv_goto (tgt := 25) hx hb d_Indx_overlaps_21 (by decide) ?_
      exact bk_reti (r := 1) hx hb hr iI_nar1 hlk hAe hQ hS () (by omega) hP hD d_Indx_overlaps_25
abbrev rm_Indx_firstEndingAfter : Room := { frames := 0, cells := 0, slots := 0, locals := 0 }
set_option maxRecDepth 100000 in
set_option maxHeartbeats 4000000 in
theorem c_Indx_firstEndingAfter (l : Launch) (D : va_G) (cI cO : ClassId) (h qr qp qe qn qs qc : Nat) (RF PO EN BN ST CH : Nat → Int) (cn cc : Nat) (a b : Int) (hcn : cn ≤ 24) (hRF : ∀ i, i < cn → 0 ≤ RF i ∧ RF i ≤ 1) (hPO : ∀ i, i < cn → 0 ≤ PO i ∧ PO i ≤ 4095) (hEN : ∀ i, i < cn → 0 ≤ EN i ∧ EN i ≤ 4096) (hBN : ∀ i, i < cn → 0 ≤ BN i ∧ BN i ≤ 72) (ha : -2147483648 ≤ a ∧ a < 2147483648) (hb1 : -2147483648 ≤ b ∧ b < 2147483648) : Mi l y_Indx_firstEndingAfter b_Indx_firstEndingAfter 4 .int rm_Indx_firstEndingAfter D cI cO [.ref h, .int (iI a), .int (iI b)] ([(h, .inr (3, [.ref qr, .ref qp, .ref qe, .ref qn, .ref qs, .int (iI (cn : Int)), .ref qc, .int (iI (cc : Int))])), (qr, ar cI 24 RF), (qp, ar cI 24 PO), (qe, ar cI 24 EN), (qn, ar cI 24 BN), (qs, ar cI 24 ST), (qc, ar cI 24 CH)]) (fun (r : Int) (j : Nat) => r = (j : Int) ∧ j ≤ cn ∧ (∀ z, z < j → ¬ (RF z = a ∧ b < EN z)) ∧ (j < cn → RF j = a ∧ b < EN j)) (fun (j : Nat) => [(h, .inr (3, [.ref qr, .ref qp, .ref qe, .ref qn, .ref qs, .int (iI (cn : Int)), .ref qc, .int (iI (cc : Int))])), (qr, ar cI 24 RF), (qp, ar cI 24 PO), (qe, ar cI 24 EN), (qn, ar cI 24 BN), (qs, ar cI 24 ST), (qc, ar cI 24 CH)]) 0 0 := by
  refine bk_start (by decide) (ble_le rfl) ?_
  intro p e s m args below meth c A ls Q hx hb hr hml hlk hown hnm hT hK hA hAe hQ hP hD hS hl
  have hown : s.vm.findClass "BinnedReads$Index" = some m.cls := hown
  have hl : lv_has ls 4 [(0, .ref h), (1, .int (iI a)), (2, .int (iI b))] := hl
  refine lv_iconst (v := iI 0) hx hb d_Indx_firstEndingAfter_0 rfl ?_
  refine lv_istore_n hx hb d_Indx_firstEndingAfter_1 rfl hl (by decide) rfl (fun ls hl => ?_)
  have hl : lv_has ls 4 [(3, .int (iI 0)), (0, .ref h), (1, .int (iI a)), (2, .int (iI b))] := hl
  have cut2 : ∀ (N0 : Nat) (i : Nat) (H : Heap) (locs : List Loc) (ls : Array Slot), cn - i = N0 → (i ≤ cn) → (∀ z, z < i → ¬ (RF z = a ∧ b < EN z)) → lv_has ls 4 [(0, .ref h), (1, .int (iI a)), (2, .int (iI b)), (3, .int (iI (i : Int)))] → va_P D classes ([(h, .inr (3, [.ref qr, .ref qp, .ref qe, .ref qn, .ref qs, .int (iI (cn : Int)), .ref qc, .int (iI (cc : Int))])), (qr, ar cI 24 RF), (qp, ar cI 24 PO), (qe, ar cI 24 EN), (qn, ar cI 24 BN), (qs, ar cI 24 ST), (qc, ar cI 24 CH)]) H → va_D A ([(h, .inr (3, [.ref qr, .ref qp, .ref qe, .ref qn, .ref qs, .int (iI (cn : Int)), .ref qc, .int (iI (cc : Int))])), (qr, ar cI 24 RF), (qp, ar cI 24 PO), (qe, ar cI 24 EN), (qn, ar cI 24 BN), (qs, ar cI 24 ST), (qc, ar cI 24 CH)]) → va_S A s.heap H locs → W p l e rm_Indx_firstEndingAfter s m args below meth c H locs 0 0 Q (F0 m 2 ls []) := by
    intro N0
    induction N0 using Nat.strongRecOn with
    | _ N0 ih2 =>
      intro i H locs ls hN2 hi hno hl hP hD hS
      refine lv_iload_n hx hb d_Indx_firstEndingAfter_2 rfl (lv_at hl 3 rfl) ?_
      refine lv_aload_n hx hb d_Indx_firstEndingAfter_3 rfl (lv_at hl 0 rfl) ?_
      refine va_get (ci := 3) (C := R_Indx) (T := F_Indx) (N := 8) hx hb hT in_Indx hown hK.1 hP 0 rfl rfl 5 (by decide) (hT _ tw_68) (fun _ h => h) rfl d_Indx_firstEndingAfter_4 ?_
      refine bk_icmp_ge (tgt := 38) hx hb d_Indx_firstEndingAfter_7 (by decide) (by omega) (by omega) (fun c7 => ?_) (fun c7 => ?_)
      · skip
        refine lv_aload_n hx hb d_Indx_firstEndingAfter_38 rfl (lv_at hl 0 rfl) ?_
        refine va_get (ci := 3) (C := R_Indx) (T := F_Indx) (N := 8) hx hb hT in_Indx hown hK.1 hP 0 rfl rfl 5 (by decide) (hT _ tw_68) (fun _ h => h) rfl d_Indx_firstEndingAfter_39 ?_
        exact bk_reti (r := (cn : Int)) hx hb hr rfl hlk hAe hQ hS i (⟨by omega, hi, hno, fun q => by omega⟩) hP hD d_Indx_firstEndingAfter_42
      · skip
        have h1 := hRF i (by omega)
        have h2 := hEN i (by omega)
        refine lv_aload_n hx hb d_Indx_firstEndingAfter_10 rfl (lv_at hl 0 rfl) ?_
        refine va_get (ci := 3) (C := R_Indx) (T := F_Indx) (N := 8) hx hb hT in_Indx hown hK.1 hP 0 rfl rfl 0 (by decide) (hT _ tw_62) (fun _ h => h) rfl d_Indx_firstEndingAfter_11 ?_
        refine lv_iload_n hx hb d_Indx_firstEndingAfter_14 rfl (lv_at hl 3 rfl) ?_
        refine bk_iald hx hb hK.1 hP 1 0 rfl rfl i (by omega) (by decide) d_Indx_firstEndingAfter_15 ?_
        refine lv_iload_n hx hb d_Indx_firstEndingAfter_16 rfl (lv_at hl 1 rfl) ?_
        refine bk_icmp_ne (tgt := 32) hx hb d_Indx_firstEndingAfter_17 (by decide) (by omega) (by omega) (fun c17 => ?_) (fun c17 => ?_)
        · skip
          refine lv_iinc (k := 3) (v := iI ((i + 1 : Nat) : Int)) hx hb d_Indx_firstEndingAfter_32 hl rfl ((iI_add _ _).trans (congrArg iI (by omega))) (by decide) rfl (fun ls hl => ?_)
          have hl : lv_has ls 4 [(3, .int (iI ((i + 1 : Nat) : Int))), (0, .ref h), (1, .int (iI a)), (2, .int (iI b))] := hl
          refine lv_goto (tgt := 2) hx hb d_Indx_firstEndingAfter_35 (by decide) ?_
          exact ih2 (cn - (i + 1)) (by omega) (i + 1) _ _ _ rfl (by omega) (fun z hz => by by_cases e1 : z = i; (subst e1; omega); exact hno z (by omega)) (lv_sub hl [1, 2, 3, 0] rfl) hP hD hS
        · skip
          refine lv_aload_n hx hb d_Indx_firstEndingAfter_20 rfl (lv_at hl 0 rfl) ?_
          refine va_get (ci := 3) (C := R_Indx) (T := F_Indx) (N := 8) hx hb hT in_Indx hown hK.1 hP 0 rfl rfl 2 (by decide) (hT _ tw_64) (fun _ h => h) rfl d_Indx_firstEndingAfter_21 ?_
          refine lv_iload_n hx hb d_Indx_firstEndingAfter_24 rfl (lv_at hl 3 rfl) ?_
          refine bk_iald hx hb hK.1 hP 3 0 rfl rfl i (by omega) (by decide) d_Indx_firstEndingAfter_25 ?_
          refine lv_iload_n hx hb d_Indx_firstEndingAfter_26 rfl (lv_at hl 2 rfl) ?_
          refine bk_icmp_le (tgt := 32) hx hb d_Indx_firstEndingAfter_27 (by decide) (by omega) (by omega) (fun c27 => ?_) (fun c27 => ?_)
          · skip
            refine lv_iinc (k := 3) (v := iI ((i + 1 : Nat) : Int)) hx hb d_Indx_firstEndingAfter_32 hl rfl ((iI_add _ _).trans (congrArg iI (by omega))) (by decide) rfl (fun ls hl => ?_)
            have hl : lv_has ls 4 [(3, .int (iI ((i + 1 : Nat) : Int))), (0, .ref h), (1, .int (iI a)), (2, .int (iI b))] := hl
            refine lv_goto (tgt := 2) hx hb d_Indx_firstEndingAfter_35 (by decide) ?_
            exact ih2 (cn - (i + 1)) (by omega) (i + 1) _ _ _ rfl (by omega) (fun z hz => by by_cases e1 : z = i; (subst e1; omega); exact hno z (by omega)) (lv_sub hl [1, 2, 3, 0] rfl) hP hD hS
          · skip
            refine lv_iload_n hx hb d_Indx_firstEndingAfter_30 rfl (lv_at hl 3 rfl) ?_
            exact bk_reti (r := (i : Int)) hx hb hr rfl hlk hAe hQ hS i (⟨rfl, hi, hno, fun _ => by omega⟩) hP hD d_Indx_firstEndingAfter_31
  exact cut2 _ 0 _ _ _ rfl (by omega) (fun z hz => absurd hz (Nat.not_lt_zero z)) (lv_sub hl [1, 2, 3, 0] rfl) hP hD hS
abbrev rm_Indx_choose : Room := { frames := 1, cells := 0, slots := 0, locals := 24 }
set_option maxRecDepth 100000 in
set_option maxHeartbeats 4000000 in
theorem c_Indx_choose (l : Launch) (D : va_G) (cI cO : ClassId) (h qr qp qe qn qs qc : Nat) (RF PO EN BN ST CH : Nat → Int) (cn cc : Nat) (a b d : Int) (hcn : cn ≤ 24) (hRF : ∀ i, i < cn → 0 ≤ RF i ∧ RF i ≤ 1) (hPO : ∀ i, i < cn → 0 ≤ PO i ∧ PO i ≤ 4095) (hEN : ∀ i, i < cn → 0 ≤ EN i ∧ EN i ≤ 4096) (hBN : ∀ i, i < cn → 0 ≤ BN i ∧ BN i ≤ 72) (ha : 0 ≤ a ∧ a ≤ 1) (hb1 : 0 ≤ b ∧ b ≤ 4096) (hd1 : 0 ≤ d ∧ d ≤ 4096) : Mv l y_Indx_choose b_Indx_choose 6 rm_Indx_choose D cI cO [.ref h, .int (iI a), .int (iI b), .int (iI d)] ([(h, .inr (3, [.ref qr, .ref qp, .ref qe, .ref qn, .ref qs, .int (iI (cn : Int)), .ref qc, .int (iI (cc : Int))])), (qr, ar cI 24 RF), (qp, ar cI 24 PO), (qe, ar cI 24 EN), (qn, ar cI 24 BN), (qs, ar cI 24 ST), (qc, ar cI 24 CH)]) (fun (u : Nat × (Nat → Int) × Nat) => u.1 ≤ cn ∧ (∀ z, z < u.1 → ¬ (RF z = a ∧ 64 * (b / 64) < EN z)) ∧ (u.1 < cn → RF u.1 = a ∧ 64 * (b / 64) < EN u.1) ∧ u.2.2 = (selN (fun z => decide (RF z = a ∧ binB (BN z) < d ∧ b < binE (BN z))) u.1 cn).length ∧ holdsL u.2.1 (selN (fun z => decide (RF z = a ∧ binB (BN z) < d ∧ b < binE (BN z))) u.1 cn)) (fun (u : Nat × (Nat → Int) × Nat) => [(h, .inr (3, [.ref qr, .ref qp, .ref qe, .ref qn, .ref qs, .int (iI (cn : Int)), .ref qc, .int (iI (u.2.2 : Int))])), (qr, ar cI 24 RF), (qp, ar cI 24 PO), (qe, ar cI 24 EN), (qn, ar cI 24 BN), (qs, ar cI 24 ST), (qc, ar cI 24 u.2.1)]) 0 0 := by
  refine bk_start (by decide) (ble_le rfl) ?_
  intro p e s m args below meth c A ls Q hx hb hr hml hlk hown hnm hT hK hA hAe hQ hP hD hS hl
  have hown : s.vm.findClass "BinnedReads$Index" = some m.cls := hown
  have hl : lv_has ls 6 [(0, .ref h), (1, .int (iI a)), (2, .int (iI b)), (3, .int (iI d))] := hl
  refine lv_aload_n hx hb d_Indx_choose_0 rfl (lv_at hl 0 rfl) ?_
  refine lv_iconst (v := iI 0) hx hb d_Indx_choose_1 rfl ?_
  refine va_put (ci := 3) (v := .int (iI 0)) (ty := .int) (C := R_Indx) (T := F_Indx) (N := 8) hx hb hT in_Indx t_Indx to_Indx n_Indx hown hK.1 hP hD hS 0 rfl rfl 7 (by decide) (hT _ tw_72) (fun _ h => h) rfl (by decide +kernel) rfl rfl (ble_lt rfl) d_Indx_choose_2 (fun H locs hP hD hS => ?_)
  have hP : va_P D classes ([(h, .inr (3, [.ref qr, .ref qp, .ref qe, .ref qn, .ref qs, .int (iI (cn : Int)), .ref qc, .int (iI 0)])), (qr, ar cI 24 RF), (qp, ar cI 24 PO), (qe, ar cI 24 EN), (qn, ar cI 24 BN), (qs, ar cI 24 ST), (qc, ar cI 24 CH)]) H := hP
  have hD : va_D A ([(h, .inr (3, [.ref qr, .ref qp, .ref qe, .ref qn, .ref qs, .int (iI (cn : Int)), .ref qc, .int (iI 0)])), (qr, ar cI 24 RF), (qp, ar cI 24 PO), (qe, ar cI 24 EN), (qn, ar cI 24 BN), (qs, ar cI 24 ST), (qc, ar cI 24 CH)]) := hD
  refine lv_aload_n hx hb d_Indx_choose_5 rfl (lv_at hl 0 rfl) ?_
  refine lv_iload_n hx hb d_Indx_choose_6 rfl (lv_at hl 1 rfl) ?_
  refine lv_bipush (v := iI 64) hx hb d_Indx_choose_7 (by decide) ?_
  refine lv_iload_n hx hb d_Indx_choose_9 rfl (lv_at hl 2 rfl) ?_
  refine lv_bipush (v := iI 64) hx hb d_Indx_choose_10 (by decide) ?_
  refine bk_div hx hb d_Indx_choose_12 (by omega) (by omega) ?_
  refine bk_mul hx hb d_Indx_choose_13 ?_
  refine bk_fR (ws := [(h, .inr (3, [.ref qr, .ref qp, .ref qe, .ref qn, .ref qs, .int (iI (cn : Int)), .ref qc, .int (iI 0)])), (qr, ar cI 24 RF), (qp, ar cI 24 PO), (qe, ar cI 24 EN), (qn, ar cI 24 BN), (qs, ar cI 24 ST), (qc, ar cI 24 CH)]) (Wc := [(h, .inr (3, [.ref qr, .ref qp, .ref qe, .ref qn, .ref qs, .int (iI (cn : Int)), .ref qc, .int (iI 0)])), (qr, ar cI 24 RF), (qp, ar cI 24 PO), (qe, ar cI 24 EN), (qn, ar cI 24 BN), (qs, ar cI 24 ST), (qc, ar cI 24 CH)]) (fun _ => rfl) (bk_hs (X := [(h, .inr (3, [.ref qr, .ref qp, .ref qe, .ref qn, .ref qs, .int (iI (cn : Int)), .ref qc, .int (iI 0)])), (qr, ar cI 24 RF), (qp, ar cI 24 PO), (qe, ar cI 24 EN), (qn, ar cI 24 BN), (qs, ar cI 24 ST), (qc, ar cI 24 CH)]) (pl := []) (Wc := [(h, .inr (3, [.ref qr, .ref qp, .ref qe, .ref qn, .ref qs, .int (iI (cn : Int)), .ref qc, .int (iI 0)])), (qr, ar cI 24 RF), (qp, ar cI 24 PO), (qe, ar cI 24 EN), (qn, ar cI 24 BN), (qs, ar cI 24 ST), (qc, ar cI 24 CH)]) [0, 1, 2, 3, 4, 5, 6] rfl) hP hD hS hA (bk_rV (rest := []) hx hb hml hown hT hK (c_Indx_firstEndingAfter l D cI cO h qr qp qe qn qs qc RF PO EN BN ST CH cn 0 a (64 * (b / 64)) hcn hRF hPO hEN hBN (by omega) (by omega)) (bk_subP (X := [(h, .inr (3, [.ref qr, .ref qp, .ref qe, .ref qn, .ref qs, .int (iI (cn : Int)), .ref qc, .int (iI 0)])), (qr, ar cI 24 RF), (qp, ar cI 24 PO), (qe, ar cI 24 EN), (qn, ar cI 24 BN), (qs, ar cI 24 ST), (qc, ar cI 24 CH)]) (pl := []) (Wc := [(h, .inr (3, [.ref qr, .ref qp, .ref qe, .ref qn, .ref qs, .int (iI (cn : Int)), .ref qc, .int (iI 0)])), (qr, ar cI 24 RF), (qp, ar cI 24 PO), (qe, ar cI 24 EN), (qn, ar cI 24 BN), (qs, ar cI 24 ST), (qc, ar cI 24 CH)]) hP [0, 1, 2, 3, 4, 5, 6] rfl) (bk_subD (X := [(h, .inr (3, [.ref qr, .ref qp, .ref qe, .ref qn, .ref qs, .int (iI (cn : Int)), .ref qc, .int (iI 0)])), (qr, ar cI 24 RF), (qp, ar cI 24 PO), (qe, ar cI 24 EN), (qn, ar cI 24 BN), (qs, ar cI 24 ST), (qc, ar cI 24 CH)]) (pl := []) (Wc := [(h, .inr (3, [.ref qr, .ref qp, .ref qe, .ref qn, .ref qs, .int (iI (cn : Int)), .ref qc, .int (iI 0)])), (qr, ar cI 24 RF), (qp, ar cI 24 PO), (qe, ar cI 24 EN), (qn, ar cI 24 BN), (qs, ar cI 24 ST), (qc, ar cI 24 CH)]) hD [0, 1, 2, 3, 4, 5, 6] (by decide) rfl) 0 3 rfl rfl rfl tw_336 tw_338 ts_7 tw_4 tw_339 hd_Indx_firstEndingAfter ⟨rfl, rfl⟩ (by decide) hl.1 rfl (ble_le rfl) d_Indx_choose_14 (by decide)) (fun r14 u H locs hq hP hS => ?_)
  obtain ⟨j, rfl⟩ : ∃ z, z = u := ⟨_, rfl⟩
  have hq : r14 = (j : Int) ∧ j ≤ cn ∧ (∀ z, z < j → ¬ (RF z = a ∧ (64 * (b / 64)) < EN z)) ∧ (j < cn → RF j = a ∧ (64 * (b / 64)) < EN j) := hq
  obtain ⟨rfl, hj1, hj2, hj3⟩ := hq
  refine lv_istore hx hb d_Indx_choose_17 hl (by decide) rfl (fun ls hl => ?_)
  have hl : lv_has ls 6 [(4, .int (iI (j : Int))), (0, .ref h), (1, .int (iI a)), (2, .int (iI b)), (3, .int (iI d))] := hl
  refine lv_iload hx hb d_Indx_choose_19 (lv_at hl 0 rfl) ?_
  refine lv_istore hx hb d_Indx_choose_21 hl (by decide) rfl (fun ls hl => ?_)
  have hl : lv_has ls 6 [(5, .int (iI (j : Int))), (4, .int (iI (j : Int))), (0, .ref h), (1, .int (iI a)), (2, .int (iI b)), (3, .int (iI d))] := hl
  have cut23 : ∀ (N0 : Nat) (i : Nat) (C2 : Nat → Int) (mm : Nat) (H : Heap) (locs : List Loc) (ls : Array Slot), cn - i = N0 → (j ≤ i ∧ i ≤ cn) → (mm = (selN (fun z => decide (RF z = a ∧ binB (BN z) < d ∧ b < binE (BN z))) j i).length) → (holdsL C2 (selN (fun z => decide (RF z = a ∧ binB (BN z) < d ∧ b < binE (BN z))) j i)) → lv_has ls 6 [(0, .ref h), (1, .int (iI a)), (2, .int (iI b)), (3, .int (iI d)), (5, .int (iI (i : Int)))] → va_P D classes ([(h, .inr (3, [.ref qr, .ref qp, .ref qe, .ref qn, .ref qs, .int (iI (cn : Int)), .ref qc, .int (iI (mm : Int))])), (qr, ar cI 24 RF), (qp, ar cI 24 PO), (qe, ar cI 24 EN), (qn, ar cI 24 BN), (qs, ar cI 24 ST), (qc, ar cI 24 C2)]) H → va_D A ([(h, .inr (3, [.ref qr, .ref qp, .ref qe, .ref qn, .ref qs, .int (iI (cn : Int)), .ref qc, .int (iI (mm : Int))])), (qr, ar cI 24 RF), (qp, ar cI 24 PO), (qe, ar cI 24 EN), (qn, ar cI 24 BN), (qs, ar cI 24 ST), (qc, ar cI 24 C2)]) → va_S A s.heap H locs → W p l e rm_Indx_choose s m args below meth c H locs 0 0 Q (F0 m 23 ls []) := by
    intro N0
    induction N0 using Nat.strongRecOn with
    | _ N0 ih23 =>
      intro i C2 mm H locs ls hN23 hij hm hC hl hP hD hS
      have hsl := selN_len (P := fun z => decide (RF z = a ∧ binB (BN z) < d ∧ b < binE (BN z))) (lo := j) (n := i)
      refine lv_iload hx hb d_Indx_choose_23 (lv_at hl 4 rfl) ?_
      refine lv_aload_n hx hb d_Indx_choose_25 rfl (lv_at hl 0 rfl) ?_
      refine va_get (ci := 3) (C := R_Indx) (T := F_Indx) (N := 8) hx hb hT in_Indx hown hK.1 hP 0 rfl rfl 5 (by decide) (hT _ tw_68) (fun _ h => h) rfl d_Indx_choose_26 ?_
      refine bk_icmp_ge (tgt := 82) hx hb d_Indx_choose_29 (by decide) (by omega) (by omega) (fun c29 => ?_) (fun c29 => ?_)
      · skip
        exact bk_retv hx hb hr hlk hAe hQ hS (j, C2, mm) (by have e1 : i = cn := (by omega); subst e1; exact ⟨hj1, hj2, hj3, hm, hC⟩) hP hD d_Indx_choose_82
      · skip
        have h1 := hRF i (by omega)
        have h2 := hBN i (by omega)
        refine lv_aload_n hx hb d_Indx_choose_32 rfl (lv_at hl 0 rfl) ?_
        refine va_get (ci := 3) (C := R_Indx) (T := F_Indx) (N := 8) hx hb hT in_Indx hown hK.1 hP 0 rfl rfl 0 (by decide) (hT _ tw_62) (fun _ h => h) rfl d_Indx_choose_33 ?_
        refine lv_iload hx hb d_Indx_choose_36 (lv_at hl 4 rfl) ?_
        refine bk_iald hx hb hK.1 hP 1 0 rfl rfl i (by omega) (by decide) d_Indx_choose_38 ?_
        refine lv_iload_n hx hb d_Indx_choose_39 rfl (lv_at hl 1 rfl) ?_
        have cut76 : ∀ (C3 : Nat → Int) (m3 : Nat) (H : Heap) (locs : List Loc) (ls : Array Slot), (m3 = (selN (fun z => decide (RF z = a ∧ binB (BN z) < d ∧ b < binE (BN z))) j (i + 1)).length) → (holdsL C3 (selN (fun z => decide (RF z = a ∧ binB (BN z) < d ∧ b < binE (BN z))) j (i + 1))) → lv_has ls 6 [(0, .ref h), (1, .int (iI a)), (2, .int (iI b)), (3, .int (iI d)), (5, .int (iI (i : Int)))] → va_P D classes ([(h, .inr (3, [.ref qr, .ref qp, .ref qe, .ref qn, .ref qs, .int (iI (cn : Int)), .ref qc, .int (iI (m3 : Int))])), (qr, ar cI 24 RF), (qp, ar cI 24 PO), (qe, ar cI 24 EN), (qn, ar cI 24 BN), (qs, ar cI 24 ST), (qc, ar cI 24 C3)]) H → va_D A ([(h, .inr (3, [.ref qr, .ref qp, .ref qe, .ref qn, .ref qs, .int (iI (cn : Int)), .ref qc, .int (iI (m3 : Int))])), (qr, ar cI 24 RF), (qp, ar cI 24 PO), (qe, ar cI 24 EN), (qn, ar cI 24 BN), (qs, ar cI 24 ST), (qc, ar cI 24 C3)]) → va_S A s.heap H locs → W p l e rm_Indx_choose s m args below meth c H locs 0 0 Q (F0 m 76 ls []) := by
          intro C3 m3 H locs ls hm3 hC3 hl hP hD hS
          refine lv_iinc (k := 4) (v := iI ((i + 1 : Nat) : Int)) hx hb d_Indx_choose_76 hl rfl ((iI_add _ _).trans (congrArg iI (by omega))) (by decide) rfl (fun ls hl => ?_)
          have hl : lv_has ls 6 [(5, .int (iI ((i + 1 : Nat) : Int))), (0, .ref h), (1, .int (iI a)), (2, .int (iI b)), (3, .int (iI d))] := hl
          refine lv_goto (tgt := 23) hx hb d_Indx_choose_79 (by decide) ?_
          exact ih23 (cn - (i + 1)) (by omega) (i + 1) C3 m3 _ _ _ rfl (by omega) hm3 hC3 (lv_sub hl [1, 2, 3, 4, 0] rfl) hP hD hS
        refine bk_icmp_ne (tgt := 76) hx hb d_Indx_choose_40 (by decide) (by omega) (by omega) (fun c40 => ?_) (fun c40 => ?_)
        · skip
          have hPi : ¬ (fun z => decide (RF z = a ∧ binB (BN z) < d ∧ b < binE (BN z))) i = true := fun q => by have := of_decide_eq_true q; omega
          have hsn := selN_no (P := fun z => decide (RF z = a ∧ binB (BN z) < d ∧ b < binE (BN z))) (lo := j) (n := i) hPi
          exact cut76 C2 mm _ _ _ (by rw [hsn]; exact hm) (by rw [hsn]; exact hC) (lv_sub hl [0, 1, 2, 3, 4] rfl) hP hD hS
        · skip
          refine lv_aload_n hx hb d_Indx_choose_43 rfl (lv_at hl 0 rfl) ?_
          refine va_get (ci := 3) (C := R_Indx) (T := F_Indx) (N := 8) hx hb hT in_Indx hown hK.1 hP 0 rfl rfl 3 (by decide) (hT _ tw_65) (fun _ h => h) rfl d_Indx_choose_44 ?_
          refine lv_iload hx hb d_Indx_choose_47 (lv_at hl 4 rfl) ?_
          refine bk_iald hx hb hK.1 hP 4 0 rfl rfl i (by omega) (by decide) d_Indx_choose_49 ?_
          refine lv_iload_n hx hb d_Indx_choose_50 rfl (lv_at hl 2 rfl) ?_
          refine lv_iload_n hx hb d_Indx_choose_51 rfl (lv_at hl 3 rfl) ?_
          refine bk_fR (ws := [(h, .inr (3, [.ref qr, .ref qp, .ref qe, .ref qn, .ref qs, .int (iI (cn : Int)), .ref qc, .int (iI (mm : Int))])), (qr, ar cI 24 RF), (qp, ar cI 24 PO), (qe, ar cI 24 EN), (qn, ar cI 24 BN), (qs, ar cI 24 ST), (qc, ar cI 24 C2)]) (Wc := []) (fun _ => rfl) (bk_hs (X := [(h, .inr (3, [.ref qr, .ref qp, .ref qe, .ref qn, .ref qs, .int (iI (cn : Int)), .ref qc, .int (iI (mm : Int))])), (qr, ar cI 24 RF), (qp, ar cI 24 PO), (qe, ar cI 24 EN), (qn, ar cI 24 BN), (qs, ar cI 24 ST), (qc, ar cI 24 C2)]) (pl := []) (Wc := []) [] rfl) hP hD hS hA (bk_rSN (rest := []) (host := "BinnedReads") hx hb hml hown hT hK (c_BR_binMeets l D cI cO (BN i) b d (hBN i (by omega)) hb1 hd1) (bk_subP (X := [(h, .inr (3, [.ref qr, .ref qp, .ref qe, .ref qn, .ref qs, .int (iI (cn : Int)), .ref qc, .int (iI (mm : Int))])), (qr, ar cI 24 RF), (qp, ar cI 24 PO), (qe, ar cI 24 EN), (qn, ar cI 24 BN), (qs, ar cI 24 ST), (qc, ar cI 24 C2)]) (pl := []) (Wc := []) hP [] rfl) (bk_subD (X := [(h, .inr (3, [.ref qr, .ref qp, .ref qe, .ref qn, .ref qs, .int (iI (cn : Int)), .ref qc, .int (iI (mm : Int))])), (qr, ar cI 24 RF), (qp, ar cI 24 PO), (qe, ar cI 24 EN), (qn, ar cI 24 BN), (qs, ar cI 24 ST), (qc, ar cI 24 C2)]) (pl := []) (Wc := []) hD [] (by decide) rfl) (by decide) tw_341 tw_1 tw_342 hd_BR_binMeets.2 ⟨rfl, rfl⟩ (by decide) hl.1 rfl (ble_le rfl) d_Indx_choose_52 (by decide)) (fun r52 u H locs hq hP hS => ?_)
          have hq : ((binB (BN i) < d ∧ b < binE (BN i)) ∧ r52 = 1) ∨ (¬ (binB (BN i) < d ∧ b < binE (BN i)) ∧ r52 = 0) := hq
          refine bk_if_eq (tgt := 76) hx hb d_Indx_choose_55 (by decide) (by omega) (fun c55 => ?_) (fun c55 => ?_)
          · skip
            have hPi : ¬ (fun z => decide (RF z = a ∧ binB (BN z) < d ∧ b < binE (BN z))) i = true := fun q => by have := of_decide_eq_true q; omega
            have hsn := selN_no (P := fun z => decide (RF z = a ∧ binB (BN z) < d ∧ b < binE (BN z))) (lo := j) (n := i) hPi
            exact cut76 C2 mm _ _ _ (by rw [hsn]; exact hm) (by rw [hsn]; exact hC) (lv_sub hl [0, 1, 2, 3, 4] rfl) hP hD hS
          · skip
            have hPi : (fun z => decide (RF z = a ∧ binB (BN z) < d ∧ b < binE (BN z))) i = true := decide_eq_true (by omega)
            have hsy := selN_yes (lo := j) (n := i) (P := fun z => decide (RF z = a ∧ binB (BN z) < d ∧ b < binE (BN z))) hij.1 hPi
            refine lv_aload_n hx hb d_Indx_choose_58 rfl (lv_at hl 0 rfl) ?_
            refine va_get (ci := 3) (C := R_Indx) (T := F_Indx) (N := 8) hx hb hT in_Indx hown hK.1 hP 0 rfl rfl 6 (by decide) (hT _ tw_70) (fun _ h => h) rfl d_Indx_choose_59 ?_
            refine lv_aload_n hx hb d_Indx_choose_62 rfl (lv_at hl 0 rfl) ?_
            refine lv_dup hx hb d_Indx_choose_63 rfl ?_
            refine va_get (ci := 3) (C := R_Indx) (T := F_Indx) (N := 8) hx hb hT in_Indx hown hK.1 hP 0 rfl rfl 7 (by decide) (hT _ tw_72) (fun _ h => h) rfl d_Indx_choose_64 ?_
            refine lv_dup_x1 hx hb d_Indx_choose_67 rfl rfl ?_
            refine lv_iconst (v := iI 1) hx hb d_Indx_choose_68 rfl ?_
            refine bk_add hx hb d_Indx_choose_69 ?_
            refine bk_top (y := iI ((mm + 1 : Nat) : Int)) (congrArg iI (by omega)) ?_
            refine va_put (ci := 3) (v := .int (iI ((mm + 1 : Nat) : Int))) (ty := .int) (C := R_Indx) (T := F_Indx) (N := 8) hx hb hT in_Indx t_Indx to_Indx n_Indx hown hK.1 hP hD hS 0 rfl rfl 7 (by decide) (hT _ tw_72) (fun _ h => h) rfl (by decide +kernel) rfl rfl (ble_lt rfl) d_Indx_choose_70 (fun H locs hP hD hS => ?_)
            have hP : va_P D classes ([(h, .inr (3, [.ref qr, .ref qp, .ref qe, .ref qn, .ref qs, .int (iI (cn : Int)), .ref qc, .int (iI ((mm + 1 : Nat) : Int))])), (qr, ar cI 24 RF), (qp, ar cI 24 PO), (qe, ar cI 24 EN), (qn, ar cI 24 BN), (qs, ar cI 24 ST), (qc, ar cI 24 C2)]) H := hP
            have hD : va_D A ([(h, .inr (3, [.ref qr, .ref qp, .ref qe, .ref qn, .ref qs, .int (iI (cn : Int)), .ref qc, .int (iI ((mm + 1 : Nat) : Int))])), (qr, ar cI 24 RF), (qp, ar cI 24 PO), (qe, ar cI 24 EN), (qn, ar cI 24 BN), (qs, ar cI 24 ST), (qc, ar cI 24 C2)]) := hD
            refine lv_iload hx hb d_Indx_choose_73 (lv_at hl 4 rfl) ?_
            refine bk_iast hx hb hK.1 hP hD hS 6 0 rfl rfl mm (by omega) (by decide) d_Indx_choose_75 (fun H locs hP hD hS => ?_)
            have hP : va_P D classes ([(h, .inr (3, [.ref qr, .ref qp, .ref qe, .ref qn, .ref qs, .int (iI (cn : Int)), .ref qc, .int (iI ((mm + 1 : Nat) : Int))])), (qr, ar cI 24 RF), (qp, ar cI 24 PO), (qe, ar cI 24 EN), (qn, ar cI 24 BN), (qs, ar cI 24 ST), (qc, ar cI 24 (bU C2 mm (i : Int)))]) H := hP
            have hD : va_D A ([(h, .inr (3, [.ref qr, .ref qp, .ref qe, .ref qn, .ref qs, .int (iI (cn : Int)), .ref qc, .int (iI ((mm + 1 : Nat) : Int))])), (qr, ar cI 24 RF), (qp, ar cI 24 PO), (qe, ar cI 24 EN), (qn, ar cI 24 BN), (qs, ar cI 24 ST), (qc, ar cI 24 (bU C2 mm (i : Int)))]) := hD
            exact cut76 (bU C2 mm (i : Int)) (mm + 1) _ _ _ (by rw [hsy, List.length_append, hm]; rfl) (by rw [hsy, hm]; exact holdsL_push hC) (lv_sub hl [0, 1, 2, 3, 4] rfl) hP hD hS
  exact cut23 _ j CH 0 _ _ _ rfl (by omega) (by rw [selN_lo (Nat.le_refl _)]; rfl) (by rw [selN_lo (Nat.le_refl _)]; exact holdsL_nil) (lv_sub hl [2, 3, 4, 5, 0] rfl) hP hD hS
abbrev rm_Strm_empty : Room := { frames := 0, cells := 0, slots := 0, locals := 0 }
set_option maxRecDepth 100000 in
set_option maxHeartbeats 4000000 in
theorem c_Strm_empty (l : Launch) (D : va_G) (cI cO : ClassId) (hs qy : Nat) (SB : Nat → Int) (sl : Nat) : Mv l y_Strm_empty b_Strm_empty 1 rm_Strm_empty D cI cO [.ref hs] ([(hs, .inr (4, [.ref qy, .int (iI (sl : Int))])), (qy, ar cI 528 SB)]) (fun (_ : Unit) => True) (fun (_ : Unit) => [(hs, .inr (4, [.ref qy, .int (iI 0)])), (qy, ar cI 528 SB)]) 0 0 := by
  refine bk_start (by decide) (ble_le rfl) ?_
  intro p e s m args below meth c A ls Q hx hb hr hml hlk hown hnm hT hK hA hAe hQ hP hD hS hl
  have hown : s.vm.findClass "BinnedReads$Stream" = some m.cls := hown
  have hl : lv_has ls 1 [(0, .ref hs)] := hl
  refine lv_aload_n hx hb d_Strm_empty_0 rfl (lv_at hl 0 rfl) ?_
  refine lv_iconst (v := iI 0) hx hb d_Strm_empty_1 rfl ?_
  refine va_put (ci := 4) (v := .int (iI 0)) (ty := .int) (C := R_Strm) (T := F_Strm) (N := 2) hx hb hT in_Strm t_Strm to_Strm n_Strm hown hK.1 hP hD hS 0 rfl rfl 1 (by decide) (hT _ tw_48) (fun _ h => h) rfl (by decide +kernel) rfl rfl (ble_lt rfl) d_Strm_empty_2 (fun H locs hP hD hS => ?_)
  have hP : va_P D classes ([(hs, .inr (4, [.ref qy, .int (iI 0)])), (qy, ar cI 528 SB)]) H := hP
  have hD : va_D A ([(hs, .inr (4, [.ref qy, .int (iI 0)])), (qy, ar cI 528 SB)]) := hD
  exact bk_retv hx hb hr hlk hAe hQ hS () trivial hP hD d_Strm_empty_5
abbrev rm_Strm_rowLength : Room := { frames := 0, cells := 0, slots := 0, locals := 0 }
set_option maxRecDepth 100000 in
set_option maxHeartbeats 4000000 in
theorem c_Strm_rowLength (l : Launch) (D : va_G) (cI cO : ClassId) (hs qy : Nat) (SB : Nat → Int) (sl : Nat) (i : Nat) (hi : i < sl ∧ sl ≤ 528) : Mi l y_Strm_rowLength b_Strm_rowLength 2 .int rm_Strm_rowLength D cI cO [.ref hs, .int (iI (i : Int))] ([(hs, .inr (4, [.ref qy, .int (iI (sl : Int))])), (qy, ar cI 528 SB)]) (fun (r : Int) (_ : Unit) => r = SB i + 1) (fun (_ : Unit) => [(hs, .inr (4, [.ref qy, .int (iI (sl : Int))])), (qy, ar cI 528 SB)]) 0 0 := by
  refine bk_start (by decide) (ble_le rfl) ?_
  intro p e s m args below meth c A ls Q hx hb hr hml hlk hown hnm hT hK hA hAe hQ hP hD hS hl
  have hown : s.vm.findClass "BinnedReads$Stream" = some m.cls := hown
  have hl : lv_has ls 2 [(0, .ref hs), (1, .int (iI (i : Int)))] := hl
  refine lv_iload_n hx hb d_Strm_rowLength_0 rfl (lv_at hl 1 rfl) ?_
  refine bk_if_lt (tgt := 12) hx hb d_Strm_rowLength_1 (by decide) (by omega) (fun c1 => ?_) (fun c1 => ?_)
  · skip
    exact absurd c1 (by omega)
  · skip
    refine lv_iload_n hx hb d_Strm_rowLength_4 rfl (lv_at hl 1 rfl) ?_
    refine lv_aload_n hx hb d_Strm_rowLength_5 rfl (lv_at hl 0 rfl) ?_
    refine va_get (ci := 4) (C := R_Strm) (T := F_Strm) (N := 2) hx hb hT in_Strm hown hK.1 hP 0 rfl rfl 1 (by decide) (hT _ tw_48) (fun _ h => h) rfl d_Strm_rowLength_6 ?_
    refine bk_icmp_lt (tgt := 16) hx hb d_Strm_rowLength_9 (by decide) (by omega) (by omega) (fun c9 => ?_) (fun c9 => ?_)
    · skip
      refine lv_aload_n hx hb d_Strm_rowLength_16 rfl (lv_at hl 0 rfl) ?_
      refine va_get (ci := 4) (C := R_Strm) (T := F_Strm) (N := 2) hx hb hT in_Strm hown hK.1 hP 0 rfl rfl 0 (by decide) (hT _ tw_46) (fun _ h => h) rfl d_Strm_rowLength_17 ?_
      refine lv_iload_n hx hb d_Strm_rowLength_20 rfl (lv_at hl 1 rfl) ?_
      refine bk_iald hx hb hK.1 hP 1 0 rfl rfl i (by omega) (by decide) d_Strm_rowLength_21 ?_
      refine lv_iconst (v := iI 1) hx hb d_Strm_rowLength_22 rfl ?_
      refine bk_add hx hb d_Strm_rowLength_23 ?_
      exact bk_reti (r := SB i + 1) hx hb hr rfl hlk hAe hQ hS () rfl hP hD d_Strm_rowLength_24
    · skip
      exact absurd c9 (by omega)
abbrev rm_Strm_appendByte : Room := { frames := 0, cells := 0, slots := 0, locals := 0 }
set_option maxRecDepth 100000 in
set_option maxHeartbeats 4000000 in
theorem c_Strm_appendByte (l : Launch) (D : va_G) (cI cO : ClassId) (hs qy : Nat) (SB : Nat → Int) (sl : Nat) (v : Int) (hsl : sl < 528) : Mv l y_Strm_appendByte b_Strm_appendByte 2 rm_Strm_appendByte D cI cO [.ref hs, .int (iI v)] ([(hs, .inr (4, [.ref qy, .int (iI (sl : Int))])), (qy, ar cI 528 SB)]) (fun (_ : Unit) => True) (fun (_ : Unit) => [(hs, .inr (4, [.ref qy, .int (iI ((sl + 1 : Nat) : Int))])), (qy, ar cI 528 (bU SB sl v))]) 0 0 := by
  refine bk_start (by decide) (ble_le rfl) ?_
  intro p e s m args below meth c A ls Q hx hb hr hml hlk hown hnm hT hK hA hAe hQ hP hD hS hl
  have hown : s.vm.findClass "BinnedReads$Stream" = some m.cls := hown
  have hl : lv_has ls 2 [(0, .ref hs), (1, .int (iI v))] := hl
  refine lv_aload_n hx hb d_Strm_appendByte_0 rfl (lv_at hl 0 rfl) ?_
  refine va_get (ci := 4) (C := R_Strm) (T := F_Strm) (N := 2) hx hb hT in_Strm hown hK.1 hP 0 rfl rfl 1 (by decide) (hT _ tw_48) (fun _ h => h) rfl d_Strm_appendByte_1 ?_
  refine lv_aload_n hx hb d_Strm_appendByte_4 rfl (lv_at hl 0 rfl) ?_
  refine va_get (ci := 4) (C := R_Strm) (T := F_Strm) (N := 2) hx hb hT in_Strm hown hK.1 hP 0 rfl rfl 0 (by decide) (hT _ tw_46) (fun _ h => h) rfl d_Strm_appendByte_5 ?_
  refine va_alen (v := iI 528) hx hb hK.1 hP 1 0 rfl rfl (show Int32.ofNat 528 = iI 528 from by decide) d_Strm_appendByte_8 ?_
  refine bk_icmp_ge (tgt := 29) hx hb d_Strm_appendByte_9 (by decide) (by omega) (by omega) (fun c9 => ?_) (fun c9 => ?_)
  · skip
    exact absurd c9 (by omega)
  · skip
    refine lv_aload_n hx hb d_Strm_appendByte_12 rfl (lv_at hl 0 rfl) ?_
    refine va_get (ci := 4) (C := R_Strm) (T := F_Strm) (N := 2) hx hb hT in_Strm hown hK.1 hP 0 rfl rfl 0 (by decide) (hT _ tw_46) (fun _ h => h) rfl d_Strm_appendByte_13 ?_
    refine lv_aload_n hx hb d_Strm_appendByte_16 rfl (lv_at hl 0 rfl) ?_
    refine lv_dup hx hb d_Strm_appendByte_17 rfl ?_
    refine va_get (ci := 4) (C := R_Strm) (T := F_Strm) (N := 2) hx hb hT in_Strm hown hK.1 hP 0 rfl rfl 1 (by decide) (hT _ tw_48) (fun _ h => h) rfl d_Strm_appendByte_18 ?_
    refine lv_dup_x1 hx hb d_Strm_appendByte_21 rfl rfl ?_
    refine lv_iconst (v := iI 1) hx hb d_Strm_appendByte_22 rfl ?_
    refine bk_add hx hb d_Strm_appendByte_23 ?_
    refine bk_top (y := iI ((sl + 1 : Nat) : Int)) (congrArg iI (by omega)) ?_
    refine va_put (ci := 4) (v := .int (iI ((sl + 1 : Nat) : Int))) (ty := .int) (C := R_Strm) (T := F_Strm) (N := 2) hx hb hT in_Strm t_Strm to_Strm n_Strm hown hK.1 hP hD hS 0 rfl rfl 1 (by decide) (hT _ tw_48) (fun _ h => h) rfl (by decide +kernel) rfl rfl (ble_lt rfl) d_Strm_appendByte_24 (fun H locs hP hD hS => ?_)
    have hP : va_P D classes ([(hs, .inr (4, [.ref qy, .int (iI ((sl + 1 : Nat) : Int))])), (qy, ar cI 528 SB)]) H := hP
    have hD : va_D A ([(hs, .inr (4, [.ref qy, .int (iI ((sl + 1 : Nat) : Int))])), (qy, ar cI 528 SB)]) := hD
    refine lv_iload_n hx hb d_Strm_appendByte_27 rfl (lv_at hl 1 rfl) ?_
    refine bk_iast hx hb hK.1 hP hD hS 1 0 rfl rfl sl (by omega) (by decide) d_Strm_appendByte_28 (fun H locs hP hD hS => ?_)
    have hP : va_P D classes ([(hs, .inr (4, [.ref qy, .int (iI ((sl + 1 : Nat) : Int))])), (qy, ar cI 528 (bU SB sl v))]) H := hP
    have hD : va_D A ([(hs, .inr (4, [.ref qy, .int (iI ((sl + 1 : Nat) : Int))])), (qy, ar cI 528 (bU SB sl v))]) := hD
    exact bk_retv hx hb hr hlk hAe hQ hS () trivial hP hD d_Strm_appendByte_29
