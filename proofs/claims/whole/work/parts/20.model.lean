abbrev rm_Mod_within : Room := { frames := 0, cells := 0, slots := 0, locals := 0 }
set_option maxRecDepth 100000 in
set_option maxHeartbeats 4000000 in
theorem c_Mod_within (l : Launch) (D : va_G) (cI cO : ClassId) (x a b : Int) (hx1 : -2147483648 ≤ x ∧ x < 2147483648) (ha1 : -2147483648 ≤ a ∧ a < 2147483648) (hb1 : -2147483648 ≤ b ∧ b < 2147483648) : Mi l y_Mod_within b_Mod_within 3 .boolean rm_Mod_within D cI cO [.int (iI x), .int (iI a), .int (iI b)] ([]) (fun (r : Int) (_ : Unit) => ((a ≤ x ∧ x ≤ b) ∧ r = 1) ∨ (¬ (a ≤ x ∧ x ≤ b) ∧ r = 0)) (fun (_ : Unit) => []) 0 0 := by
  refine bk_start (by decide) (ble_le rfl) ?_
  intro p e s m args below meth c A ls Q hx hb hr hml hlk hown hnm hT hK hA hAe hQ hP hD hS hl
  have hown : s.vm.findClass "BinnedReadsModel" = some m.cls := hown
  have hl : lv_has ls 3 [(0, .int (iI x)), (1, .int (iI a)), (2, .int (iI b))] := hl
  refine lv_iload_n hx hb d_Mod_within_0 rfl (lv_at hl 0 rfl) ?_
  refine lv_iload_n hx hb d_Mod_within_1 rfl (lv_at hl 1 rfl) ?_
  refine bk_icmp_lt (tgt := 14) hx hb d_Mod_within_2 (by decide) (by omega) (by omega) (fun c2 => ?_) (fun c2 => ?_)
  · skip
    refine lv_iconst (v := iI 0) hx hb d_Mod_within_14 rfl ?_
    exact bk_reti (r := 0) hx hb hr iI_nar0 hlk hAe hQ hS () (by omega) hP hD d_Mod_within_15
  · skip
    refine lv_iload_n hx hb d_Mod_within_5 rfl (lv_at hl 0 rfl) ?_
    refine lv_iload_n hx hb d_Mod_within_6 rfl (lv_at hl 2 rfl) ?_
    refine bk_icmp_gt (tgt := 14) hx hb d_Mod_within_7 (by decide) (by omega) (by omega) (fun c7 => ?_) (fun c7 => ?_)
    · skip
      refine lv_iconst (v := iI 0) hx hb d_Mod_within_14 rfl ?_
      exact bk_reti (r := 0) hx hb hr iI_nar0 hlk hAe hQ hS () (by omega) hP hD d_Mod_within_15
    · skip
      refine lv_iconst (v := iI 1) hx hb d_Mod_within_10 rfl ?_
      refine lv_goto (tgt := 15) hx hb d_Mod_within_11 (by decide) ?_
      exact bk_reti (r := 1) hx hb hr iI_nar1 hlk hAe hQ hS () (by omega) hP hD d_Mod_within_15
abbrev rm_Mod_op : Room := { frames := 1, cells := 0, slots := 0, locals := 22 }
set_option maxRecDepth 100000 in
set_option maxHeartbeats 4000000 in
theorem c_Mod_op (l : Launch) (D : va_G) (cI cO : ClassId) (hM a1 a2 a3 a4 a5 a6 a7 a8 a9 a10 a11 a12 a13 a14 : Nat) (K Ln Cd Rf Ps En Oc Ob Bc Bd Bg Sm Dk Fd : Nat → Int) (mo mb mr : Nat) (mw : Int) (mt mz : Nat) (mu : Int) (mf ml : Nat) (k n : Int) (hmo : mo ≤ 3) (hk1 : -2147483648 ≤ k ∧ k < 2147483648) (hn1 : -2147483648 ≤ n ∧ n < 2147483648) : Mi l y_Mod_op b_Mod_op 3 .boolean rm_Mod_op D cI cO [.ref hM, .int (iI k), .int (iI n)] ([(hM, .inr (6, [.int (iI (mo : Int)), .ref a1, .ref a2, .int (iI (mb : Int)), .ref a3, .int (iI (mr : Int)), .ref a4, .ref a5, .ref a6, .ref a7, .ref a8, .ref a9, .ref a10, .ref a11, .int (iI mw), .ref a12, .int (iI (mt : Int)), .ref a13, .int (iI (mz : Int)), .int (iI mu), .int (iI (mf : Int)), .int (iI (ml : Int)), .ref a14])), (a1, ar cI 3 K), (a2, ar cI 3 Ln), (a3, ar cI 24 Cd), (a4, ar cI 24 Rf), (a5, ar cI 24 Ps), (a6, ar cI 24 En), (a7, ar cI 24 Oc), (a8, ar cI 72 Ob), (a9, ar cI 24 Bc), (a10, ar cI 576 Bd), (a11, ar cI 25 Bg), (a12, ar cI 528 Sm), (a13, ar cI 700 Dk), (a14, ar cI 24 Fd)]) (fun (r : Int) (u : (Nat → Int) × (Nat → Int) × Nat) => ((0 ≤ k ∧ k < 4 ∧ 1 ≤ n ∧ n ≤ 63 ∧ mo < 3) ∧ r = 1 ∧ u.1 = bU K mo k ∧ u.2.1 = bU Ln mo n ∧ u.2.2 = mo + 1) ∨ (¬ (0 ≤ k ∧ k < 4 ∧ 1 ≤ n ∧ n ≤ 63 ∧ mo < 3) ∧ r = 0 ∧ u.1 = K ∧ u.2.1 = Ln ∧ u.2.2 = mo)) (fun (u : (Nat → Int) × (Nat → Int) × Nat) => [(hM, .inr (6, [.int (iI (u.2.2 : Int)), .ref a1, .ref a2, .int (iI (mb : Int)), .ref a3, .int (iI (mr : Int)), .ref a4, .ref a5, .ref a6, .ref a7, .ref a8, .ref a9, .ref a10, .ref a11, .int (iI mw), .ref a12, .int (iI (mt : Int)), .ref a13, .int (iI (mz : Int)), .int (iI mu), .int (iI (mf : Int)), .int (iI (ml : Int)), .ref a14])), (a1, ar cI 3 u.1), (a2, ar cI 3 u.2.1), (a3, ar cI 24 Cd), (a4, ar cI 24 Rf), (a5, ar cI 24 Ps), (a6, ar cI 24 En), (a7, ar cI 24 Oc), (a8, ar cI 72 Ob), (a9, ar cI 24 Bc), (a10, ar cI 576 Bd), (a11, ar cI 25 Bg), (a12, ar cI 528 Sm), (a13, ar cI 700 Dk), (a14, ar cI 24 Fd)]) 0 0 := by
  refine bk_start (by decide) (ble_le rfl) ?_
  intro p e s m args below meth c A ls Q hx hb hr hml hlk hown hnm hT hK hA hAe hQ hP hD hS hl
  have hown : s.vm.findClass "BinnedReadsModel" = some m.cls := hown
  have hl : lv_has ls 3 [(0, .ref hM), (1, .int (iI k)), (2, .int (iI n))] := hl
  refine lv_iload_n hx hb d_Mod_op_0 rfl (lv_at hl 1 rfl) ?_
  refine lv_iconst (v := iI 0) hx hb d_Mod_op_1 rfl ?_
  refine lv_iconst (v := iI 3) hx hb d_Mod_op_2 rfl ?_
  refine bk_fR (ws := [(hM, .inr (6, [.int (iI (mo : Int)), .ref a1, .ref a2, .int (iI (mb : Int)), .ref a3, .int (iI (mr : Int)), .ref a4, .ref a5, .ref a6, .ref a7, .ref a8, .ref a9, .ref a10, .ref a11, .int (iI mw), .ref a12, .int (iI (mt : Int)), .ref a13, .int (iI (mz : Int)), .int (iI mu), .int (iI (mf : Int)), .int (iI (ml : Int)), .ref a14])), (a1, ar cI 3 K), (a2, ar cI 3 Ln), (a3, ar cI 24 Cd), (a4, ar cI 24 Rf), (a5, ar cI 24 Ps), (a6, ar cI 24 En), (a7, ar cI 24 Oc), (a8, ar cI 72 Ob), (a9, ar cI 24 Bc), (a10, ar cI 576 Bd), (a11, ar cI 25 Bg), (a12, ar cI 528 Sm), (a13, ar cI 700 Dk), (a14, ar cI 24 Fd)]) (Wc := []) (fun _ => rfl) (bk_hs (X := [(hM, .inr (6, [.int (iI (mo : Int)), .ref a1, .ref a2, .int (iI (mb : Int)), .ref a3, .int (iI (mr : Int)), .ref a4, .ref a5, .ref a6, .ref a7, .ref a8, .ref a9, .ref a10, .ref a11, .int (iI mw), .ref a12, .int (iI (mt : Int)), .ref a13, .int (iI (mz : Int)), .int (iI mu), .int (iI (mf : Int)), .int (iI (ml : Int)), .ref a14])), (a1, ar cI 3 K), (a2, ar cI 3 Ln), (a3, ar cI 24 Cd), (a4, ar cI 24 Rf), (a5, ar cI 24 Ps), (a6, ar cI 24 En), (a7, ar cI 24 Oc), (a8, ar cI 72 Ob), (a9, ar cI 24 Bc), (a10, ar cI 576 Bd), (a11, ar cI 25 Bg), (a12, ar cI 528 Sm), (a13, ar cI 700 Dk), (a14, ar cI 24 Fd)]) (pl := []) (Wc := []) [] rfl) hP hD hS hA (bk_rS (rest := []) hx hb hml hown hT hK (c_Mod_within l D cI cO k 0 3 (by omega) (by omega) (by omega)) (bk_subP (X := [(hM, .inr (6, [.int (iI (mo : Int)), .ref a1, .ref a2, .int (iI (mb : Int)), .ref a3, .int (iI (mr : Int)), .ref a4, .ref a5, .ref a6, .ref a7, .ref a8, .ref a9, .ref a10, .ref a11, .int (iI mw), .ref a12, .int (iI (mt : Int)), .ref a13, .int (iI (mz : Int)), .int (iI mu), .int (iI (mf : Int)), .int (iI (ml : Int)), .ref a14])), (a1, ar cI 3 K), (a2, ar cI 3 Ln), (a3, ar cI 24 Cd), (a4, ar cI 24 Rf), (a5, ar cI 24 Ps), (a6, ar cI 24 En), (a7, ar cI 24 Oc), (a8, ar cI 72 Ob), (a9, ar cI 24 Bc), (a10, ar cI 576 Bd), (a11, ar cI 25 Bg), (a12, ar cI 528 Sm), (a13, ar cI 700 Dk), (a14, ar cI 24 Fd)]) (pl := []) (Wc := []) hP [] rfl) (bk_subD (X := [(hM, .inr (6, [.int (iI (mo : Int)), .ref a1, .ref a2, .int (iI (mb : Int)), .ref a3, .int (iI (mr : Int)), .ref a4, .ref a5, .ref a6, .ref a7, .ref a8, .ref a9, .ref a10, .ref a11, .int (iI mw), .ref a12, .int (iI (mt : Int)), .ref a13, .int (iI (mz : Int)), .int (iI mu), .int (iI (mf : Int)), .int (iI (ml : Int)), .ref a14])), (a1, ar cI 3 K), (a2, ar cI 3 Ln), (a3, ar cI 24 Cd), (a4, ar cI 24 Rf), (a5, ar cI 24 Ps), (a6, ar cI 24 En), (a7, ar cI 24 Oc), (a8, ar cI 72 Ob), (a9, ar cI 24 Bc), (a10, ar cI 576 Bd), (a11, ar cI 25 Bg), (a12, ar cI 528 Sm), (a13, ar cI 700 Dk), (a14, ar cI 24 Fd)]) (pl := []) (Wc := []) hD [] (by decide) rfl) tw_491 tw_492 tw_7 tw_493 hd_Mod_within ⟨rfl, rfl⟩ (by decide) hl.1 rfl (ble_le rfl) d_Mod_op_3 (by decide)) (fun r3 u H locs hq hP hS => ?_)
  have hq : ((0 ≤ k ∧ k ≤ 3) ∧ r3 = 1) ∨ (¬ (0 ≤ k ∧ k ≤ 3) ∧ r3 = 0) := hq
  refine bk_if_eq (tgt := 27) hx hb d_Mod_op_6 (by decide) (by omega) (fun c6 => ?_) (fun c6 => ?_)
  · skip
    refine lv_iconst (v := iI 0) hx hb d_Mod_op_27 rfl ?_
    exact bk_reti (r := 0) hx hb hr iI_nar0 hlk hAe hQ hS (K, Ln, mo) (Or.inr ⟨by omega, rfl, rfl, rfl, rfl⟩) hP hD d_Mod_op_28
  · skip
    refine lv_iload_n hx hb d_Mod_op_9 rfl (lv_at hl 2 rfl) ?_
    refine lv_iconst (v := iI 1) hx hb d_Mod_op_10 rfl ?_
    refine lv_bipush (v := iI 63) hx hb d_Mod_op_11 (by decide) ?_
    refine bk_fR (ws := [(hM, .inr (6, [.int (iI (mo : Int)), .ref a1, .ref a2, .int (iI (mb : Int)), .ref a3, .int (iI (mr : Int)), .ref a4, .ref a5, .ref a6, .ref a7, .ref a8, .ref a9, .ref a10, .ref a11, .int (iI mw), .ref a12, .int (iI (mt : Int)), .ref a13, .int (iI (mz : Int)), .int (iI mu), .int (iI (mf : Int)), .int (iI (ml : Int)), .ref a14])), (a1, ar cI 3 K), (a2, ar cI 3 Ln), (a3, ar cI 24 Cd), (a4, ar cI 24 Rf), (a5, ar cI 24 Ps), (a6, ar cI 24 En), (a7, ar cI 24 Oc), (a8, ar cI 72 Ob), (a9, ar cI 24 Bc), (a10, ar cI 576 Bd), (a11, ar cI 25 Bg), (a12, ar cI 528 Sm), (a13, ar cI 700 Dk), (a14, ar cI 24 Fd)]) (Wc := []) (fun _ => rfl) (bk_hs (X := [(hM, .inr (6, [.int (iI (mo : Int)), .ref a1, .ref a2, .int (iI (mb : Int)), .ref a3, .int (iI (mr : Int)), .ref a4, .ref a5, .ref a6, .ref a7, .ref a8, .ref a9, .ref a10, .ref a11, .int (iI mw), .ref a12, .int (iI (mt : Int)), .ref a13, .int (iI (mz : Int)), .int (iI mu), .int (iI (mf : Int)), .int (iI (ml : Int)), .ref a14])), (a1, ar cI 3 K), (a2, ar cI 3 Ln), (a3, ar cI 24 Cd), (a4, ar cI 24 Rf), (a5, ar cI 24 Ps), (a6, ar cI 24 En), (a7, ar cI 24 Oc), (a8, ar cI 72 Ob), (a9, ar cI 24 Bc), (a10, ar cI 576 Bd), (a11, ar cI 25 Bg), (a12, ar cI 528 Sm), (a13, ar cI 700 Dk), (a14, ar cI 24 Fd)]) (pl := []) (Wc := []) [] rfl) hP hD hS hA (bk_rS (rest := []) hx hb hml hown hT hK (c_Mod_within l D cI cO n 1 63 (by omega) (by omega) (by omega)) (bk_subP (X := [(hM, .inr (6, [.int (iI (mo : Int)), .ref a1, .ref a2, .int (iI (mb : Int)), .ref a3, .int (iI (mr : Int)), .ref a4, .ref a5, .ref a6, .ref a7, .ref a8, .ref a9, .ref a10, .ref a11, .int (iI mw), .ref a12, .int (iI (mt : Int)), .ref a13, .int (iI (mz : Int)), .int (iI mu), .int (iI (mf : Int)), .int (iI (ml : Int)), .ref a14])), (a1, ar cI 3 K), (a2, ar cI 3 Ln), (a3, ar cI 24 Cd), (a4, ar cI 24 Rf), (a5, ar cI 24 Ps), (a6, ar cI 24 En), (a7, ar cI 24 Oc), (a8, ar cI 72 Ob), (a9, ar cI 24 Bc), (a10, ar cI 576 Bd), (a11, ar cI 25 Bg), (a12, ar cI 528 Sm), (a13, ar cI 700 Dk), (a14, ar cI 24 Fd)]) (pl := []) (Wc := []) hP [] rfl) (bk_subD (X := [(hM, .inr (6, [.int (iI (mo : Int)), .ref a1, .ref a2, .int (iI (mb : Int)), .ref a3, .int (iI (mr : Int)), .ref a4, .ref a5, .ref a6, .ref a7, .ref a8, .ref a9, .ref a10, .ref a11, .int (iI mw), .ref a12, .int (iI (mt : Int)), .ref a13, .int (iI (mz : Int)), .int (iI mu), .int (iI (mf : Int)), .int (iI (ml : Int)), .ref a14])), (a1, ar cI 3 K), (a2, ar cI 3 Ln), (a3, ar cI 24 Cd), (a4, ar cI 24 Rf), (a5, ar cI 24 Ps), (a6, ar cI 24 En), (a7, ar cI 24 Oc), (a8, ar cI 72 Ob), (a9, ar cI 24 Bc), (a10, ar cI 576 Bd), (a11, ar cI 25 Bg), (a12, ar cI 528 Sm), (a13, ar cI 700 Dk), (a14, ar cI 24 Fd)]) (pl := []) (Wc := []) hD [] (by decide) rfl) tw_491 tw_492 tw_7 tw_493 hd_Mod_within ⟨rfl, rfl⟩ (by decide) hl.1 rfl (ble_le rfl) d_Mod_op_13 (by decide)) (fun r13 u H locs hq hP hS => ?_)
    have hq : ((1 ≤ n ∧ n ≤ 63) ∧ r13 = 1) ∨ (¬ (1 ≤ n ∧ n ≤ 63) ∧ r13 = 0) := hq
    refine bk_if_eq (tgt := 27) hx hb d_Mod_op_16 (by decide) (by omega) (fun c16 => ?_) (fun c16 => ?_)
    · skip
      refine lv_iconst (v := iI 0) hx hb d_Mod_op_27 rfl ?_
      exact bk_reti (r := 0) hx hb hr iI_nar0 hlk hAe hQ hS (K, Ln, mo) (Or.inr ⟨by omega, rfl, rfl, rfl, rfl⟩) hP hD d_Mod_op_28
    · skip
      refine lv_aload_n hx hb d_Mod_op_19 rfl (lv_at hl 0 rfl) ?_
      refine va_get (ci := 6) (C := R_Mod) (T := F_Mod) (N := 23) hx hb hT in_Mod hown hK.1 hP 0 rfl rfl 0 (by decide) (hT _ tw_417) (fun _ h => h) rfl d_Mod_op_20 ?_
      refine lv_iconst (v := iI 3) hx hb d_Mod_op_23 rfl ?_
      refine bk_icmp_ne (tgt := 29) hx hb d_Mod_op_24 (by decide) (by omega) (by omega) (fun c24 => ?_) (fun c24 => ?_)
      · skip
        refine lv_aload_n hx hb d_Mod_op_29 rfl (lv_at hl 0 rfl) ?_
        refine va_get (ci := 6) (C := R_Mod) (T := F_Mod) (N := 23) hx hb hT in_Mod hown hK.1 hP 0 rfl rfl 1 (by decide) (hT _ tw_418) (fun _ h => h) rfl d_Mod_op_30 ?_
        refine lv_aload_n hx hb d_Mod_op_33 rfl (lv_at hl 0 rfl) ?_
        refine va_get (ci := 6) (C := R_Mod) (T := F_Mod) (N := 23) hx hb hT in_Mod hown hK.1 hP 0 rfl rfl 0 (by decide) (hT _ tw_417) (fun _ h => h) rfl d_Mod_op_34 ?_
        refine lv_iload_n hx hb d_Mod_op_37 rfl (lv_at hl 1 rfl) ?_
        refine bk_iast hx hb hK.1 hP hD hS 1 0 rfl rfl mo (by omega) (by decide) d_Mod_op_38 (fun H locs hP hD hS => ?_)
        have hP : va_P D classes ([(hM, .inr (6, [.int (iI (mo : Int)), .ref a1, .ref a2, .int (iI (mb : Int)), .ref a3, .int (iI (mr : Int)), .ref a4, .ref a5, .ref a6, .ref a7, .ref a8, .ref a9, .ref a10, .ref a11, .int (iI mw), .ref a12, .int (iI (mt : Int)), .ref a13, .int (iI (mz : Int)), .int (iI mu), .int (iI (mf : Int)), .int (iI (ml : Int)), .ref a14])), (a1, ar cI 3 (bU K mo k)), (a2, ar cI 3 Ln), (a3, ar cI 24 Cd), (a4, ar cI 24 Rf), (a5, ar cI 24 Ps), (a6, ar cI 24 En), (a7, ar cI 24 Oc), (a8, ar cI 72 Ob), (a9, ar cI 24 Bc), (a10, ar cI 576 Bd), (a11, ar cI 25 Bg), (a12, ar cI 528 Sm), (a13, ar cI 700 Dk), (a14, ar cI 24 Fd)]) H := hP
        have hD : va_D A ([(hM, .inr (6, [.int (iI (mo : Int)), .ref a1, .ref a2, .int (iI (mb : Int)), .ref a3, .int (iI (mr : Int)), .ref a4, .ref a5, .ref a6, .ref a7, .ref a8, .ref a9, .ref a10, .ref a11, .int (iI mw), .ref a12, .int (iI (mt : Int)), .ref a13, .int (iI (mz : Int)), .int (iI mu), .int (iI (mf : Int)), .int (iI (ml : Int)), .ref a14])), (a1, ar cI 3 (bU K mo k)), (a2, ar cI 3 Ln), (a3, ar cI 24 Cd), (a4, ar cI 24 Rf), (a5, ar cI 24 Ps), (a6, ar cI 24 En), (a7, ar cI 24 Oc), (a8, ar cI 72 Ob), (a9, ar cI 24 Bc), (a10, ar cI 576 Bd), (a11, ar cI 25 Bg), (a12, ar cI 528 Sm), (a13, ar cI 700 Dk), (a14, ar cI 24 Fd)]) := hD
        refine lv_aload_n hx hb d_Mod_op_39 rfl (lv_at hl 0 rfl) ?_
        refine va_get (ci := 6) (C := R_Mod) (T := F_Mod) (N := 23) hx hb hT in_Mod hown hK.1 hP 0 rfl rfl 2 (by decide) (hT _ tw_419) (fun _ h => h) rfl d_Mod_op_40 ?_
        refine lv_aload_n hx hb d_Mod_op_43 rfl (lv_at hl 0 rfl) ?_
        refine va_get (ci := 6) (C := R_Mod) (T := F_Mod) (N := 23) hx hb hT in_Mod hown hK.1 hP 0 rfl rfl 0 (by decide) (hT _ tw_417) (fun _ h => h) rfl d_Mod_op_44 ?_
        refine lv_iload_n hx hb d_Mod_op_47 rfl (lv_at hl 2 rfl) ?_
        refine bk_iast hx hb hK.1 hP hD hS 2 0 rfl rfl mo (by omega) (by decide) d_Mod_op_48 (fun H locs hP hD hS => ?_)
        have hP : va_P D classes ([(hM, .inr (6, [.int (iI (mo : Int)), .ref a1, .ref a2, .int (iI (mb : Int)), .ref a3, .int (iI (mr : Int)), .ref a4, .ref a5, .ref a6, .ref a7, .ref a8, .ref a9, .ref a10, .ref a11, .int (iI mw), .ref a12, .int (iI (mt : Int)), .ref a13, .int (iI (mz : Int)), .int (iI mu), .int (iI (mf : Int)), .int (iI (ml : Int)), .ref a14])), (a1, ar cI 3 (bU K mo k)), (a2, ar cI 3 (bU Ln mo n)), (a3, ar cI 24 Cd), (a4, ar cI 24 Rf), (a5, ar cI 24 Ps), (a6, ar cI 24 En), (a7, ar cI 24 Oc), (a8, ar cI 72 Ob), (a9, ar cI 24 Bc), (a10, ar cI 576 Bd), (a11, ar cI 25 Bg), (a12, ar cI 528 Sm), (a13, ar cI 700 Dk), (a14, ar cI 24 Fd)]) H := hP
        have hD : va_D A ([(hM, .inr (6, [.int (iI (mo : Int)), .ref a1, .ref a2, .int (iI (mb : Int)), .ref a3, .int (iI (mr : Int)), .ref a4, .ref a5, .ref a6, .ref a7, .ref a8, .ref a9, .ref a10, .ref a11, .int (iI mw), .ref a12, .int (iI (mt : Int)), .ref a13, .int (iI (mz : Int)), .int (iI mu), .int (iI (mf : Int)), .int (iI (ml : Int)), .ref a14])), (a1, ar cI 3 (bU K mo k)), (a2, ar cI 3 (bU Ln mo n)), (a3, ar cI 24 Cd), (a4, ar cI 24 Rf), (a5, ar cI 24 Ps), (a6, ar cI 24 En), (a7, ar cI 24 Oc), (a8, ar cI 72 Ob), (a9, ar cI 24 Bc), (a10, ar cI 576 Bd), (a11, ar cI 25 Bg), (a12, ar cI 528 Sm), (a13, ar cI 700 Dk), (a14, ar cI 24 Fd)]) := hD
        refine lv_aload_n hx hb d_Mod_op_49 rfl (lv_at hl 0 rfl) ?_
        refine lv_dup hx hb d_Mod_op_50 rfl ?_
        refine va_get (ci := 6) (C := R_Mod) (T := F_Mod) (N := 23) hx hb hT in_Mod hown hK.1 hP 0 rfl rfl 0 (by decide) (hT _ tw_417) (fun _ h => h) rfl d_Mod_op_51 ?_
        refine lv_iconst (v := iI 1) hx hb d_Mod_op_54 rfl ?_
        refine bk_add hx hb d_Mod_op_55 ?_
        refine bk_top (y := iI ((mo + 1 : Nat) : Int)) (congrArg iI (by omega)) ?_
        refine va_put (ci := 6) (v := .int (iI ((mo + 1 : Nat) : Int))) (ty := .int) (C := R_Mod) (T := F_Mod) (N := 23) hx hb hT in_Mod t_Mod to_Mod n_Mod hown hK.1 hP hD hS 0 rfl rfl 0 (by decide) (hT _ tw_417) (fun _ h => h) rfl (by decide +kernel) rfl rfl (ble_lt rfl) d_Mod_op_56 (fun H locs hP hD hS => ?_)
        have hP : va_P D classes ([(hM, .inr (6, [.int (iI ((mo + 1 : Nat) : Int)), .ref a1, .ref a2, .int (iI (mb : Int)), .ref a3, .int (iI (mr : Int)), .ref a4, .ref a5, .ref a6, .ref a7, .ref a8, .ref a9, .ref a10, .ref a11, .int (iI mw), .ref a12, .int (iI (mt : Int)), .ref a13, .int (iI (mz : Int)), .int (iI mu), .int (iI (mf : Int)), .int (iI (ml : Int)), .ref a14])), (a1, ar cI 3 (bU K mo k)), (a2, ar cI 3 (bU Ln mo n)), (a3, ar cI 24 Cd), (a4, ar cI 24 Rf), (a5, ar cI 24 Ps), (a6, ar cI 24 En), (a7, ar cI 24 Oc), (a8, ar cI 72 Ob), (a9, ar cI 24 Bc), (a10, ar cI 576 Bd), (a11, ar cI 25 Bg), (a12, ar cI 528 Sm), (a13, ar cI 700 Dk), (a14, ar cI 24 Fd)]) H := hP
        have hD : va_D A ([(hM, .inr (6, [.int (iI ((mo + 1 : Nat) : Int)), .ref a1, .ref a2, .int (iI (mb : Int)), .ref a3, .int (iI (mr : Int)), .ref a4, .ref a5, .ref a6, .ref a7, .ref a8, .ref a9, .ref a10, .ref a11, .int (iI mw), .ref a12, .int (iI (mt : Int)), .ref a13, .int (iI (mz : Int)), .int (iI mu), .int (iI (mf : Int)), .int (iI (ml : Int)), .ref a14])), (a1, ar cI 3 (bU K mo k)), (a2, ar cI 3 (bU Ln mo n)), (a3, ar cI 24 Cd), (a4, ar cI 24 Rf), (a5, ar cI 24 Ps), (a6, ar cI 24 En), (a7, ar cI 24 Oc), (a8, ar cI 72 Ob), (a9, ar cI 24 Bc), (a10, ar cI 576 Bd), (a11, ar cI 25 Bg), (a12, ar cI 528 Sm), (a13, ar cI 700 Dk), (a14, ar cI 24 Fd)]) := hD
        refine lv_iconst (v := iI 1) hx hb d_Mod_op_59 rfl ?_
        exact bk_reti (r := 1) hx hb hr iI_nar1 hlk hAe hQ hS (bU K mo k, bU Ln mo n, mo + 1) (Or.inl ⟨by omega, rfl, rfl, rfl, rfl⟩) hP hD d_Mod_op_60
      · skip
        refine lv_iconst (v := iI 0) hx hb d_Mod_op_27 rfl ?_
        exact bk_reti (r := 0) hx hb hr iI_nar0 hlk hAe hQ hS (K, Ln, mo) (Or.inr ⟨by omega, rfl, rfl, rfl, rfl⟩) hP hD d_Mod_op_28
abbrev rm_Mod_base : Room := { frames := 1, cells := 0, slots := 0, locals := 22 }
set_option maxRecDepth 100000 in
set_option maxHeartbeats 4000000 in
theorem c_Mod_base (l : Launch) (D : va_G) (cI cO : ClassId) (hM a1 a2 a3 a4 a5 a6 a7 a8 a9 a10 a11 a12 a13 a14 : Nat) (K Ln Cd Rf Ps En Oc Ob Bc Bd Bg Sm Dk Fd : Nat → Int) (mo mb mr : Nat) (mw : Int) (mt mz : Nat) (mu : Int) (mf ml : Nat) (k : Int) (hmb : mb ≤ 24) (hk1 : -2147483648 ≤ k ∧ k < 2147483648) : Mi l y_Mod_base b_Mod_base 2 .boolean rm_Mod_base D cI cO [.ref hM, .int (iI k)] ([(hM, .inr (6, [.int (iI (mo : Int)), .ref a1, .ref a2, .int (iI (mb : Int)), .ref a3, .int (iI (mr : Int)), .ref a4, .ref a5, .ref a6, .ref a7, .ref a8, .ref a9, .ref a10, .ref a11, .int (iI mw), .ref a12, .int (iI (mt : Int)), .ref a13, .int (iI (mz : Int)), .int (iI mu), .int (iI (mf : Int)), .int (iI (ml : Int)), .ref a14])), (a1, ar cI 3 K), (a2, ar cI 3 Ln), (a3, ar cI 24 Cd), (a4, ar cI 24 Rf), (a5, ar cI 24 Ps), (a6, ar cI 24 En), (a7, ar cI 24 Oc), (a8, ar cI 72 Ob), (a9, ar cI 24 Bc), (a10, ar cI 576 Bd), (a11, ar cI 25 Bg), (a12, ar cI 528 Sm), (a13, ar cI 700 Dk), (a14, ar cI 24 Fd)]) (fun (r : Int) (u : (Nat → Int) × Nat) => ((0 ≤ k ∧ k ≤ 15 ∧ mb < 24) ∧ r = 1 ∧ u.1 = bU Cd mb k ∧ u.2 = mb + 1) ∨ (¬ (0 ≤ k ∧ k ≤ 15 ∧ mb < 24) ∧ r = 0 ∧ u.1 = Cd ∧ u.2 = mb)) (fun (u : (Nat → Int) × Nat) => [(hM, .inr (6, [.int (iI (mo : Int)), .ref a1, .ref a2, .int (iI (u.2 : Int)), .ref a3, .int (iI (mr : Int)), .ref a4, .ref a5, .ref a6, .ref a7, .ref a8, .ref a9, .ref a10, .ref a11, .int (iI mw), .ref a12, .int (iI (mt : Int)), .ref a13, .int (iI (mz : Int)), .int (iI mu), .int (iI (mf : Int)), .int (iI (ml : Int)), .ref a14])), (a1, ar cI 3 K), (a2, ar cI 3 Ln), (a3, ar cI 24 u.1), (a4, ar cI 24 Rf), (a5, ar cI 24 Ps), (a6, ar cI 24 En), (a7, ar cI 24 Oc), (a8, ar cI 72 Ob), (a9, ar cI 24 Bc), (a10, ar cI 576 Bd), (a11, ar cI 25 Bg), (a12, ar cI 528 Sm), (a13, ar cI 700 Dk), (a14, ar cI 24 Fd)]) 0 0 := by
  refine bk_start (by decide) (ble_le rfl) ?_
  intro p e s m args below meth c A ls Q hx hb hr hml hlk hown hnm hT hK hA hAe hQ hP hD hS hl
  have hown : s.vm.findClass "BinnedReadsModel" = some m.cls := hown
  have hl : lv_has ls 2 [(0, .ref hM), (1, .int (iI k))] := hl
  refine lv_iload_n hx hb d_Mod_base_0 rfl (lv_at hl 1 rfl) ?_
  refine lv_iconst (v := iI 0) hx hb d_Mod_base_1 rfl ?_
  refine lv_bipush (v := iI 15) hx hb d_Mod_base_2 (by decide) ?_
  refine bk_fR (ws := [(hM, .inr (6, [.int (iI (mo : Int)), .ref a1, .ref a2, .int (iI (mb : Int)), .ref a3, .int (iI (mr : Int)), .ref a4, .ref a5, .ref a6, .ref a7, .ref a8, .ref a9, .ref a10, .ref a11, .int (iI mw), .ref a12, .int (iI (mt : Int)), .ref a13, .int (iI (mz : Int)), .int (iI mu), .int (iI (mf : Int)), .int (iI (ml : Int)), .ref a14])), (a1, ar cI 3 K), (a2, ar cI 3 Ln), (a3, ar cI 24 Cd), (a4, ar cI 24 Rf), (a5, ar cI 24 Ps), (a6, ar cI 24 En), (a7, ar cI 24 Oc), (a8, ar cI 72 Ob), (a9, ar cI 24 Bc), (a10, ar cI 576 Bd), (a11, ar cI 25 Bg), (a12, ar cI 528 Sm), (a13, ar cI 700 Dk), (a14, ar cI 24 Fd)]) (Wc := []) (fun _ => rfl) (bk_hs (X := [(hM, .inr (6, [.int (iI (mo : Int)), .ref a1, .ref a2, .int (iI (mb : Int)), .ref a3, .int (iI (mr : Int)), .ref a4, .ref a5, .ref a6, .ref a7, .ref a8, .ref a9, .ref a10, .ref a11, .int (iI mw), .ref a12, .int (iI (mt : Int)), .ref a13, .int (iI (mz : Int)), .int (iI mu), .int (iI (mf : Int)), .int (iI (ml : Int)), .ref a14])), (a1, ar cI 3 K), (a2, ar cI 3 Ln), (a3, ar cI 24 Cd), (a4, ar cI 24 Rf), (a5, ar cI 24 Ps), (a6, ar cI 24 En), (a7, ar cI 24 Oc), (a8, ar cI 72 Ob), (a9, ar cI 24 Bc), (a10, ar cI 576 Bd), (a11, ar cI 25 Bg), (a12, ar cI 528 Sm), (a13, ar cI 700 Dk), (a14, ar cI 24 Fd)]) (pl := []) (Wc := []) [] rfl) hP hD hS hA (bk_rS (rest := []) hx hb hml hown hT hK (c_Mod_within l D cI cO k 0 15 (by omega) (by omega) (by omega)) (bk_subP (X := [(hM, .inr (6, [.int (iI (mo : Int)), .ref a1, .ref a2, .int (iI (mb : Int)), .ref a3, .int (iI (mr : Int)), .ref a4, .ref a5, .ref a6, .ref a7, .ref a8, .ref a9, .ref a10, .ref a11, .int (iI mw), .ref a12, .int (iI (mt : Int)), .ref a13, .int (iI (mz : Int)), .int (iI mu), .int (iI (mf : Int)), .int (iI (ml : Int)), .ref a14])), (a1, ar cI 3 K), (a2, ar cI 3 Ln), (a3, ar cI 24 Cd), (a4, ar cI 24 Rf), (a5, ar cI 24 Ps), (a6, ar cI 24 En), (a7, ar cI 24 Oc), (a8, ar cI 72 Ob), (a9, ar cI 24 Bc), (a10, ar cI 576 Bd), (a11, ar cI 25 Bg), (a12, ar cI 528 Sm), (a13, ar cI 700 Dk), (a14, ar cI 24 Fd)]) (pl := []) (Wc := []) hP [] rfl) (bk_subD (X := [(hM, .inr (6, [.int (iI (mo : Int)), .ref a1, .ref a2, .int (iI (mb : Int)), .ref a3, .int (iI (mr : Int)), .ref a4, .ref a5, .ref a6, .ref a7, .ref a8, .ref a9, .ref a10, .ref a11, .int (iI mw), .ref a12, .int (iI (mt : Int)), .ref a13, .int (iI (mz : Int)), .int (iI mu), .int (iI (mf : Int)), .int (iI (ml : Int)), .ref a14])), (a1, ar cI 3 K), (a2, ar cI 3 Ln), (a3, ar cI 24 Cd), (a4, ar cI 24 Rf), (a5, ar cI 24 Ps), (a6, ar cI 24 En), (a7, ar cI 24 Oc), (a8, ar cI 72 Ob), (a9, ar cI 24 Bc), (a10, ar cI 576 Bd), (a11, ar cI 25 Bg), (a12, ar cI 528 Sm), (a13, ar cI 700 Dk), (a14, ar cI 24 Fd)]) (pl := []) (Wc := []) hD [] (by decide) rfl) tw_491 tw_492 tw_7 tw_493 hd_Mod_within ⟨rfl, rfl⟩ (by decide) hl.1 rfl (ble_le rfl) d_Mod_base_4 (by decide)) (fun r4 u H locs hq hP hS => ?_)
  have hq : ((0 ≤ k ∧ k ≤ 15) ∧ r4 = 1) ∨ (¬ (0 ≤ k ∧ k ≤ 15) ∧ r4 = 0) := hq
  refine bk_if_eq (tgt := 19) hx hb d_Mod_base_7 (by decide) (by omega) (fun c7 => ?_) (fun c7 => ?_)
  · skip
    refine lv_iconst (v := iI 0) hx hb d_Mod_base_19 rfl ?_
    exact bk_reti (r := 0) hx hb hr iI_nar0 hlk hAe hQ hS (Cd, mb) (Or.inr ⟨by omega, rfl, rfl, rfl⟩) hP hD d_Mod_base_20
  · skip
    refine lv_aload_n hx hb d_Mod_base_10 rfl (lv_at hl 0 rfl) ?_
    refine va_get (ci := 6) (C := R_Mod) (T := F_Mod) (N := 23) hx hb hT in_Mod hown hK.1 hP 0 rfl rfl 3 (by decide) (hT _ tw_420) (fun _ h => h) rfl d_Mod_base_11 ?_
    refine lv_bipush (v := iI 24) hx hb d_Mod_base_14 (by decide) ?_
    refine bk_icmp_ne (tgt := 21) hx hb d_Mod_base_16 (by decide) (by omega) (by omega) (fun c16 => ?_) (fun c16 => ?_)
    · skip
      refine lv_aload_n hx hb d_Mod_base_21 rfl (lv_at hl 0 rfl) ?_
      refine va_get (ci := 6) (C := R_Mod) (T := F_Mod) (N := 23) hx hb hT in_Mod hown hK.1 hP 0 rfl rfl 4 (by decide) (hT _ tw_421) (fun _ h => h) rfl d_Mod_base_22 ?_
      refine lv_aload_n hx hb d_Mod_base_25 rfl (lv_at hl 0 rfl) ?_
      refine va_get (ci := 6) (C := R_Mod) (T := F_Mod) (N := 23) hx hb hT in_Mod hown hK.1 hP 0 rfl rfl 3 (by decide) (hT _ tw_420) (fun _ h => h) rfl d_Mod_base_26 ?_
      refine lv_iload_n hx hb d_Mod_base_29 rfl (lv_at hl 1 rfl) ?_
      refine bk_iast hx hb hK.1 hP hD hS 3 0 rfl rfl mb (by omega) (by decide) d_Mod_base_30 (fun H locs hP hD hS => ?_)
      have hP : va_P D classes ([(hM, .inr (6, [.int (iI (mo : Int)), .ref a1, .ref a2, .int (iI (mb : Int)), .ref a3, .int (iI (mr : Int)), .ref a4, .ref a5, .ref a6, .ref a7, .ref a8, .ref a9, .ref a10, .ref a11, .int (iI mw), .ref a12, .int (iI (mt : Int)), .ref a13, .int (iI (mz : Int)), .int (iI mu), .int (iI (mf : Int)), .int (iI (ml : Int)), .ref a14])), (a1, ar cI 3 K), (a2, ar cI 3 Ln), (a3, ar cI 24 (bU Cd mb k)), (a4, ar cI 24 Rf), (a5, ar cI 24 Ps), (a6, ar cI 24 En), (a7, ar cI 24 Oc), (a8, ar cI 72 Ob), (a9, ar cI 24 Bc), (a10, ar cI 576 Bd), (a11, ar cI 25 Bg), (a12, ar cI 528 Sm), (a13, ar cI 700 Dk), (a14, ar cI 24 Fd)]) H := hP
      have hD : va_D A ([(hM, .inr (6, [.int (iI (mo : Int)), .ref a1, .ref a2, .int (iI (mb : Int)), .ref a3, .int (iI (mr : Int)), .ref a4, .ref a5, .ref a6, .ref a7, .ref a8, .ref a9, .ref a10, .ref a11, .int (iI mw), .ref a12, .int (iI (mt : Int)), .ref a13, .int (iI (mz : Int)), .int (iI mu), .int (iI (mf : Int)), .int (iI (ml : Int)), .ref a14])), (a1, ar cI 3 K), (a2, ar cI 3 Ln), (a3, ar cI 24 (bU Cd mb k)), (a4, ar cI 24 Rf), (a5, ar cI 24 Ps), (a6, ar cI 24 En), (a7, ar cI 24 Oc), (a8, ar cI 72 Ob), (a9, ar cI 24 Bc), (a10, ar cI 576 Bd), (a11, ar cI 25 Bg), (a12, ar cI 528 Sm), (a13, ar cI 700 Dk), (a14, ar cI 24 Fd)]) := hD
      refine lv_aload_n hx hb d_Mod_base_31 rfl (lv_at hl 0 rfl) ?_
      refine lv_dup hx hb d_Mod_base_32 rfl ?_
      refine va_get (ci := 6) (C := R_Mod) (T := F_Mod) (N := 23) hx hb hT in_Mod hown hK.1 hP 0 rfl rfl 3 (by decide) (hT _ tw_420) (fun _ h => h) rfl d_Mod_base_33 ?_
      refine lv_iconst (v := iI 1) hx hb d_Mod_base_36 rfl ?_
      refine bk_add hx hb d_Mod_base_37 ?_
      refine bk_top (y := iI ((mb + 1 : Nat) : Int)) (congrArg iI (by omega)) ?_
      refine va_put (ci := 6) (v := .int (iI ((mb + 1 : Nat) : Int))) (ty := .int) (C := R_Mod) (T := F_Mod) (N := 23) hx hb hT in_Mod t_Mod to_Mod n_Mod hown hK.1 hP hD hS 0 rfl rfl 3 (by decide) (hT _ tw_420) (fun _ h => h) rfl (by decide +kernel) rfl rfl (ble_lt rfl) d_Mod_base_38 (fun H locs hP hD hS => ?_)
      have hP : va_P D classes ([(hM, .inr (6, [.int (iI (mo : Int)), .ref a1, .ref a2, .int (iI ((mb + 1 : Nat) : Int)), .ref a3, .int (iI (mr : Int)), .ref a4, .ref a5, .ref a6, .ref a7, .ref a8, .ref a9, .ref a10, .ref a11, .int (iI mw), .ref a12, .int (iI (mt : Int)), .ref a13, .int (iI (mz : Int)), .int (iI mu), .int (iI (mf : Int)), .int (iI (ml : Int)), .ref a14])), (a1, ar cI 3 K), (a2, ar cI 3 Ln), (a3, ar cI 24 (bU Cd mb k)), (a4, ar cI 24 Rf), (a5, ar cI 24 Ps), (a6, ar cI 24 En), (a7, ar cI 24 Oc), (a8, ar cI 72 Ob), (a9, ar cI 24 Bc), (a10, ar cI 576 Bd), (a11, ar cI 25 Bg), (a12, ar cI 528 Sm), (a13, ar cI 700 Dk), (a14, ar cI 24 Fd)]) H := hP
      have hD : va_D A ([(hM, .inr (6, [.int (iI (mo : Int)), .ref a1, .ref a2, .int (iI ((mb + 1 : Nat) : Int)), .ref a3, .int (iI (mr : Int)), .ref a4, .ref a5, .ref a6, .ref a7, .ref a8, .ref a9, .ref a10, .ref a11, .int (iI mw), .ref a12, .int (iI (mt : Int)), .ref a13, .int (iI (mz : Int)), .int (iI mu), .int (iI (mf : Int)), .int (iI (ml : Int)), .ref a14])), (a1, ar cI 3 K), (a2, ar cI 3 Ln), (a3, ar cI 24 (bU Cd mb k)), (a4, ar cI 24 Rf), (a5, ar cI 24 Ps), (a6, ar cI 24 En), (a7, ar cI 24 Oc), (a8, ar cI 72 Ob), (a9, ar cI 24 Bc), (a10, ar cI 576 Bd), (a11, ar cI 25 Bg), (a12, ar cI 528 Sm), (a13, ar cI 700 Dk), (a14, ar cI 24 Fd)]) := hD
      refine lv_iconst (v := iI 1) hx hb d_Mod_base_41 rfl ?_
      exact bk_reti (r := 1) hx hb hr iI_nar1 hlk hAe hQ hS (bU Cd mb k, mb + 1) (Or.inl ⟨by omega, rfl, rfl, rfl⟩) hP hD d_Mod_base_42
    · skip
      refine lv_iconst (v := iI 0) hx hb d_Mod_base_19 rfl ?_
      exact bk_reti (r := 0) hx hb hr iI_nar0 hlk hAe hQ hS (Cd, mb) (Or.inr ⟨by omega, rfl, rfl, rfl⟩) hP hD d_Mod_base_20
abbrev rm_Mod_scrap : Room := { frames := 0, cells := 0, slots := 0, locals := 0 }
set_option maxRecDepth 100000 in
set_option maxHeartbeats 4000000 in
theorem c_Mod_scrap (l : Launch) (D : va_G) (cI cO : ClassId) (hM a1 a2 a3 a4 a5 a6 a7 a8 a9 a10 a11 a12 a13 a14 : Nat) (K Ln Cd Rf Ps En Oc Ob Bc Bd Bg Sm Dk Fd : Nat → Int) (mo mb mr : Nat) (mw : Int) (mt mz : Nat) (mu : Int) (mf ml : Nat) : Mv l y_Mod_scrap b_Mod_scrap 1 rm_Mod_scrap D cI cO [.ref hM] ([(hM, .inr (6, [.int (iI (mo : Int)), .ref a1, .ref a2, .int (iI (mb : Int)), .ref a3, .int (iI (mr : Int)), .ref a4, .ref a5, .ref a6, .ref a7, .ref a8, .ref a9, .ref a10, .ref a11, .int (iI mw), .ref a12, .int (iI (mt : Int)), .ref a13, .int (iI (mz : Int)), .int (iI mu), .int (iI (mf : Int)), .int (iI (ml : Int)), .ref a14])), (a1, ar cI 3 K), (a2, ar cI 3 Ln), (a3, ar cI 24 Cd), (a4, ar cI 24 Rf), (a5, ar cI 24 Ps), (a6, ar cI 24 En), (a7, ar cI 24 Oc), (a8, ar cI 72 Ob), (a9, ar cI 24 Bc), (a10, ar cI 576 Bd), (a11, ar cI 25 Bg), (a12, ar cI 528 Sm), (a13, ar cI 700 Dk), (a14, ar cI 24 Fd)]) (fun (_ : Unit) => True) (fun (_ : Unit) => [(hM, .inr (6, [.int (iI 0), .ref a1, .ref a2, .int (iI 0), .ref a3, .int (iI (mr : Int)), .ref a4, .ref a5, .ref a6, .ref a7, .ref a8, .ref a9, .ref a10, .ref a11, .int (iI mw), .ref a12, .int (iI (mt : Int)), .ref a13, .int (iI (mz : Int)), .int (iI mu), .int (iI (mf : Int)), .int (iI (ml : Int)), .ref a14])), (a1, ar cI 3 K), (a2, ar cI 3 Ln), (a3, ar cI 24 Cd), (a4, ar cI 24 Rf), (a5, ar cI 24 Ps), (a6, ar cI 24 En), (a7, ar cI 24 Oc), (a8, ar cI 72 Ob), (a9, ar cI 24 Bc), (a10, ar cI 576 Bd), (a11, ar cI 25 Bg), (a12, ar cI 528 Sm), (a13, ar cI 700 Dk), (a14, ar cI 24 Fd)]) 0 0 := by
  refine bk_start (by decide) (ble_le rfl) ?_
  intro p e s m args below meth c A ls Q hx hb hr hml hlk hown hnm hT hK hA hAe hQ hP hD hS hl
  have hown : s.vm.findClass "BinnedReadsModel" = some m.cls := hown
  have hl : lv_has ls 1 [(0, .ref hM)] := hl
  refine lv_aload_n hx hb d_Mod_scrap_0 rfl (lv_at hl 0 rfl) ?_
  refine lv_iconst (v := iI 0) hx hb d_Mod_scrap_1 rfl ?_
  refine va_put (ci := 6) (v := .int (iI 0)) (ty := .int) (C := R_Mod) (T := F_Mod) (N := 23) hx hb hT in_Mod t_Mod to_Mod n_Mod hown hK.1 hP hD hS 0 rfl rfl 0 (by decide) (hT _ tw_417) (fun _ h => h) rfl (by decide +kernel) rfl rfl (ble_lt rfl) d_Mod_scrap_2 (fun H locs hP hD hS => ?_)
  have hP : va_P D classes ([(hM, .inr (6, [.int (iI 0), .ref a1, .ref a2, .int (iI (mb : Int)), .ref a3, .int (iI (mr : Int)), .ref a4, .ref a5, .ref a6, .ref a7, .ref a8, .ref a9, .ref a10, .ref a11, .int (iI mw), .ref a12, .int (iI (mt : Int)), .ref a13, .int (iI (mz : Int)), .int (iI mu), .int (iI (mf : Int)), .int (iI (ml : Int)), .ref a14])), (a1, ar cI 3 K), (a2, ar cI 3 Ln), (a3, ar cI 24 Cd), (a4, ar cI 24 Rf), (a5, ar cI 24 Ps), (a6, ar cI 24 En), (a7, ar cI 24 Oc), (a8, ar cI 72 Ob), (a9, ar cI 24 Bc), (a10, ar cI 576 Bd), (a11, ar cI 25 Bg), (a12, ar cI 528 Sm), (a13, ar cI 700 Dk), (a14, ar cI 24 Fd)]) H := hP
  have hD : va_D A ([(hM, .inr (6, [.int (iI 0), .ref a1, .ref a2, .int (iI (mb : Int)), .ref a3, .int (iI (mr : Int)), .ref a4, .ref a5, .ref a6, .ref a7, .ref a8, .ref a9, .ref a10, .ref a11, .int (iI mw), .ref a12, .int (iI (mt : Int)), .ref a13, .int (iI (mz : Int)), .int (iI mu), .int (iI (mf : Int)), .int (iI (ml : Int)), .ref a14])), (a1, ar cI 3 K), (a2, ar cI 3 Ln), (a3, ar cI 24 Cd), (a4, ar cI 24 Rf), (a5, ar cI 24 Ps), (a6, ar cI 24 En), (a7, ar cI 24 Oc), (a8, ar cI 72 Ob), (a9, ar cI 24 Bc), (a10, ar cI 576 Bd), (a11, ar cI 25 Bg), (a12, ar cI 528 Sm), (a13, ar cI 700 Dk), (a14, ar cI 24 Fd)]) := hD
  refine lv_aload_n hx hb d_Mod_scrap_5 rfl (lv_at hl 0 rfl) ?_
  refine lv_iconst (v := iI 0) hx hb d_Mod_scrap_6 rfl ?_
  refine va_put (ci := 6) (v := .int (iI 0)) (ty := .int) (C := R_Mod) (T := F_Mod) (N := 23) hx hb hT in_Mod t_Mod to_Mod n_Mod hown hK.1 hP hD hS 0 rfl rfl 3 (by decide) (hT _ tw_420) (fun _ h => h) rfl (by decide +kernel) rfl rfl (ble_lt rfl) d_Mod_scrap_7 (fun H locs hP hD hS => ?_)
  have hP : va_P D classes ([(hM, .inr (6, [.int (iI 0), .ref a1, .ref a2, .int (iI 0), .ref a3, .int (iI (mr : Int)), .ref a4, .ref a5, .ref a6, .ref a7, .ref a8, .ref a9, .ref a10, .ref a11, .int (iI mw), .ref a12, .int (iI (mt : Int)), .ref a13, .int (iI (mz : Int)), .int (iI mu), .int (iI (mf : Int)), .int (iI (ml : Int)), .ref a14])), (a1, ar cI 3 K), (a2, ar cI 3 Ln), (a3, ar cI 24 Cd), (a4, ar cI 24 Rf), (a5, ar cI 24 Ps), (a6, ar cI 24 En), (a7, ar cI 24 Oc), (a8, ar cI 72 Ob), (a9, ar cI 24 Bc), (a10, ar cI 576 Bd), (a11, ar cI 25 Bg), (a12, ar cI 528 Sm), (a13, ar cI 700 Dk), (a14, ar cI 24 Fd)]) H := hP
  have hD : va_D A ([(hM, .inr (6, [.int (iI 0), .ref a1, .ref a2, .int (iI 0), .ref a3, .int (iI (mr : Int)), .ref a4, .ref a5, .ref a6, .ref a7, .ref a8, .ref a9, .ref a10, .ref a11, .int (iI mw), .ref a12, .int (iI (mt : Int)), .ref a13, .int (iI (mz : Int)), .int (iI mu), .int (iI (mf : Int)), .int (iI (ml : Int)), .ref a14])), (a1, ar cI 3 K), (a2, ar cI 3 Ln), (a3, ar cI 24 Cd), (a4, ar cI 24 Rf), (a5, ar cI 24 Ps), (a6, ar cI 24 En), (a7, ar cI 24 Oc), (a8, ar cI 72 Ob), (a9, ar cI 24 Bc), (a10, ar cI 576 Bd), (a11, ar cI 25 Bg), (a12, ar cI 528 Sm), (a13, ar cI 700 Dk), (a14, ar cI 24 Fd)]) := hD
  exact bk_retv hx hb hr hlk hAe hQ hS () trivial hP hD d_Mod_scrap_10
abbrev rm_Mod_sum : Room := { frames := 0, cells := 0, slots := 0, locals := 0 }
set_option maxRecDepth 100000 in
set_option maxHeartbeats 4000000 in
theorem c_Mod_sum (l : Launch) (D : va_G) (cI cO : ClassId) (hM a1 a2 a3 a4 a5 a6 a7 a8 a9 a10 a11 a12 a13 a14 : Nat) (K Ln Cd Rf Ps En Oc Ob Bc Bd Bg Sm Dk Fd : Nat → Int) (mo mb mr : Nat) (mw : Int) (mt mz : Nat) (mu : Int) (mf ml : Nat) (x y z : Int) (hmo : mo ≤ 3) (hKr : ∀ i, i < mo → 0 ≤ K i ∧ K i ≤ 3) (hLr : ∀ i, i < mo → 1 ≤ Ln i ∧ Ln i ≤ 63) (hxyz : 0 ≤ x ∧ x ≤ 3 ∧ 0 ≤ y ∧ y ≤ 3 ∧ 0 ≤ z ∧ z ≤ 3) : Mi l y_Mod_sum b_Mod_sum 6 .int rm_Mod_sum D cI cO [.ref hM, .int (iI x), .int (iI y), .int (iI z)] ([(hM, .inr (6, [.int (iI (mo : Int)), .ref a1, .ref a2, .int (iI (mb : Int)), .ref a3, .int (iI (mr : Int)), .ref a4, .ref a5, .ref a6, .ref a7, .ref a8, .ref a9, .ref a10, .ref a11, .int (iI mw), .ref a12, .int (iI (mt : Int)), .ref a13, .int (iI (mz : Int)), .int (iI mu), .int (iI (mf : Int)), .int (iI (ml : Int)), .ref a14])), (a1, ar cI 3 K), (a2, ar cI 3 Ln), (a3, ar cI 24 Cd), (a4, ar cI 24 Rf), (a5, ar cI 24 Ps), (a6, ar cI 24 En), (a7, ar cI 24 Oc), (a8, ar cI 72 Ob), (a9, ar cI 24 Bc), (a10, ar cI 576 Bd), (a11, ar cI 25 Bg), (a12, ar cI 528 Sm), (a13, ar cI 700 Dk), (a14, ar cI 24 Fd)]) (fun (r : Int) (_ : Unit) => r = sumK K Ln x y z mo) (fun (_ : Unit) => [(hM, .inr (6, [.int (iI (mo : Int)), .ref a1, .ref a2, .int (iI (mb : Int)), .ref a3, .int (iI (mr : Int)), .ref a4, .ref a5, .ref a6, .ref a7, .ref a8, .ref a9, .ref a10, .ref a11, .int (iI mw), .ref a12, .int (iI (mt : Int)), .ref a13, .int (iI (mz : Int)), .int (iI mu), .int (iI (mf : Int)), .int (iI (ml : Int)), .ref a14])), (a1, ar cI 3 K), (a2, ar cI 3 Ln), (a3, ar cI 24 Cd), (a4, ar cI 24 Rf), (a5, ar cI 24 Ps), (a6, ar cI 24 En), (a7, ar cI 24 Oc), (a8, ar cI 72 Ob), (a9, ar cI 24 Bc), (a10, ar cI 576 Bd), (a11, ar cI 25 Bg), (a12, ar cI 528 Sm), (a13, ar cI 700 Dk), (a14, ar cI 24 Fd)]) 0 0 := by
  refine bk_start (by decide) (ble_le rfl) ?_
  intro p e s m args below meth c A ls Q hx hb hr hml hlk hown hnm hT hK hA hAe hQ hP hD hS hl
  have hown : s.vm.findClass "BinnedReadsModel" = some m.cls := hown
  have hl : lv_has ls 6 [(0, .ref hM), (1, .int (iI x)), (2, .int (iI y)), (3, .int (iI z))] := hl
  refine lv_iconst (v := iI 0) hx hb d_Mod_sum_0 rfl ?_
  refine lv_istore hx hb d_Mod_sum_1 hl (by decide) rfl (fun ls hl => ?_)
  have hl : lv_has ls 6 [(4, .int (iI 0)), (0, .ref hM), (1, .int (iI x)), (2, .int (iI y)), (3, .int (iI z))] := hl
  refine lv_iconst (v := iI 0) hx hb d_Mod_sum_3 rfl ?_
  refine lv_istore hx hb d_Mod_sum_4 hl (by decide) rfl (fun ls hl => ?_)
  have hl : lv_has ls 6 [(5, .int (iI 0)), (4, .int (iI 0)), (0, .ref hM), (1, .int (iI x)), (2, .int (iI y)), (3, .int (iI z))] := hl
  have cut6 : ∀ (N0 : Nat) (i : Nat) (H : Heap) (locs : List Loc) (ls : Array Slot), mo - i = N0 → (i ≤ mo) → lv_has ls 6 [(0, .ref hM), (1, .int (iI x)), (2, .int (iI y)), (3, .int (iI z)), (4, .int (iI (sumK K Ln x y z i))), (5, .int (iI (i : Int)))] → va_P D classes ([(hM, .inr (6, [.int (iI (mo : Int)), .ref a1, .ref a2, .int (iI (mb : Int)), .ref a3, .int (iI (mr : Int)), .ref a4, .ref a5, .ref a6, .ref a7, .ref a8, .ref a9, .ref a10, .ref a11, .int (iI mw), .ref a12, .int (iI (mt : Int)), .ref a13, .int (iI (mz : Int)), .int (iI mu), .int (iI (mf : Int)), .int (iI (ml : Int)), .ref a14])), (a1, ar cI 3 K), (a2, ar cI 3 Ln), (a3, ar cI 24 Cd), (a4, ar cI 24 Rf), (a5, ar cI 24 Ps), (a6, ar cI 24 En), (a7, ar cI 24 Oc), (a8, ar cI 72 Ob), (a9, ar cI 24 Bc), (a10, ar cI 576 Bd), (a11, ar cI 25 Bg), (a12, ar cI 528 Sm), (a13, ar cI 700 Dk), (a14, ar cI 24 Fd)]) H → va_D A ([(hM, .inr (6, [.int (iI (mo : Int)), .ref a1, .ref a2, .int (iI (mb : Int)), .ref a3, .int (iI (mr : Int)), .ref a4, .ref a5, .ref a6, .ref a7, .ref a8, .ref a9, .ref a10, .ref a11, .int (iI mw), .ref a12, .int (iI (mt : Int)), .ref a13, .int (iI (mz : Int)), .int (iI mu), .int (iI (mf : Int)), .int (iI (ml : Int)), .ref a14])), (a1, ar cI 3 K), (a2, ar cI 3 Ln), (a3, ar cI 24 Cd), (a4, ar cI 24 Rf), (a5, ar cI 24 Ps), (a6, ar cI 24 En), (a7, ar cI 24 Oc), (a8, ar cI 72 Ob), (a9, ar cI 24 Bc), (a10, ar cI 576 Bd), (a11, ar cI 25 Bg), (a12, ar cI 528 Sm), (a13, ar cI 700 Dk), (a14, ar cI 24 Fd)]) → va_S A s.heap H locs → W p l e rm_Mod_sum s m args below meth c H locs 0 0 Q (F0 m 6 ls []) := by
    intro N0
    induction N0 using Nat.strongRecOn with
    | _ N0 ih6 =>
      intro i H locs ls hN6 hi hl hP hD hS
      have hsm := sumK_rg (K := K) (L := Ln) (x := x) (y := y) (z := z) (n := i) (fun t ht => hLr t (by omega))
      refine lv_iload hx hb d_Mod_sum_6 (lv_at hl 5 rfl) ?_
      refine lv_aload_n hx hb d_Mod_sum_8 rfl (lv_at hl 0 rfl) ?_
      refine va_get (ci := 6) (C := R_Mod) (T := F_Mod) (N := 23) hx hb hT in_Mod hown hK.1 hP 0 rfl rfl 0 (by decide) (hT _ tw_417) (fun _ h => h) rfl d_Mod_sum_9 ?_
      refine bk_icmp_ge (tgt := 71) hx hb d_Mod_sum_12 (by decide) (by omega) (by omega) (fun c12 => ?_) (fun c12 => ?_)
      · skip
        refine lv_iload hx hb d_Mod_sum_71 (lv_at hl 4 rfl) ?_
        exact bk_reti (r := sumK K Ln x y z i) hx hb hr rfl hlk hAe hQ hS () (by rw [show mo = i by omega]) hP hD d_Mod_sum_73
      · skip
        have h1 := hKr i (by omega)
        have h2 := hLr i (by omega)
        refine lv_aload_n hx hb d_Mod_sum_15 rfl (lv_at hl 0 rfl) ?_
        refine va_get (ci := 6) (C := R_Mod) (T := F_Mod) (N := 23) hx hb hT in_Mod hown hK.1 hP 0 rfl rfl 1 (by decide) (hT _ tw_418) (fun _ h => h) rfl d_Mod_sum_16 ?_
        refine lv_iload hx hb d_Mod_sum_19 (lv_at hl 5 rfl) ?_
        refine bk_iald hx hb hK.1 hP 1 0 rfl rfl i (by omega) (by decide) d_Mod_sum_21 ?_
        refine lv_iload_n hx hb d_Mod_sum_22 rfl (lv_at hl 1 rfl) ?_
        refine bk_icmp_eq (tgt := 48) hx hb d_Mod_sum_23 (by decide) (by omega) (by omega) (fun c23 => ?_) (fun c23 => ?_)
        · skip
          refine lv_iload hx hb d_Mod_sum_48 (lv_at hl 4 rfl) ?_
          refine lv_aload_n hx hb d_Mod_sum_50 rfl (lv_at hl 0 rfl) ?_
          refine va_get (ci := 6) (C := R_Mod) (T := F_Mod) (N := 23) hx hb hT in_Mod hown hK.1 hP 0 rfl rfl 2 (by decide) (hT _ tw_419) (fun _ h => h) rfl d_Mod_sum_51 ?_
          refine lv_iload hx hb d_Mod_sum_54 (lv_at hl 5 rfl) ?_
          refine bk_iald hx hb hK.1 hP 2 0 rfl rfl i (by omega) (by decide) d_Mod_sum_56 ?_
          refine bk_add hx hb d_Mod_sum_57 ?_
          refine bk_top (y := iI (sumK K Ln x y z (i + 1))) (congrArg iI (sumK_yes (by omega)).symm) ?_
          refine lv_goto (tgt := 63) hx hb d_Mod_sum_58 (by decide) ?_
          refine lv_istore hx hb d_Mod_sum_63 hl (by decide) rfl (fun ls hl => ?_)
          have hl : lv_has ls 6 [(4, .int (iI (sumK K Ln x y z (i + 1)))), (0, .ref hM), (1, .int (iI x)), (2, .int (iI y)), (3, .int (iI z)), (5, .int (iI (i : Int)))] := hl
          refine lv_iinc (k := 5) (v := iI ((i + 1 : Nat) : Int)) hx hb d_Mod_sum_65 hl rfl ((iI_add _ _).trans (congrArg iI (by omega))) (by decide) rfl (fun ls hl => ?_)
          have hl : lv_has ls 6 [(5, .int (iI ((i + 1 : Nat) : Int))), (4, .int (iI (sumK K Ln x y z (i + 1)))), (0, .ref hM), (1, .int (iI x)), (2, .int (iI y)), (3, .int (iI z))] := hl
          refine lv_goto (tgt := 6) hx hb d_Mod_sum_68 (by decide) ?_
          exact ih6 (mo - (i + 1)) (by omega) (i + 1) _ _ _ rfl (by omega) (lv_sub hl [2, 3, 4, 5, 1, 0] rfl) hP hD hS
        · skip
          refine lv_aload_n hx hb d_Mod_sum_26 rfl (lv_at hl 0 rfl) ?_
          refine va_get (ci := 6) (C := R_Mod) (T := F_Mod) (N := 23) hx hb hT in_Mod hown hK.1 hP 0 rfl rfl 1 (by decide) (hT _ tw_418) (fun _ h => h) rfl d_Mod_sum_27 ?_
          refine lv_iload hx hb d_Mod_sum_30 (lv_at hl 5 rfl) ?_
          refine bk_iald hx hb hK.1 hP 1 0 rfl rfl i (by omega) (by decide) d_Mod_sum_32 ?_
          refine lv_iload_n hx hb d_Mod_sum_33 rfl (lv_at hl 2 rfl) ?_
          refine bk_icmp_eq (tgt := 48) hx hb d_Mod_sum_34 (by decide) (by omega) (by omega) (fun c34 => ?_) (fun c34 => ?_)
          · skip
            refine lv_iload hx hb d_Mod_sum_48 (lv_at hl 4 rfl) ?_
            refine lv_aload_n hx hb d_Mod_sum_50 rfl (lv_at hl 0 rfl) ?_
            refine va_get (ci := 6) (C := R_Mod) (T := F_Mod) (N := 23) hx hb hT in_Mod hown hK.1 hP 0 rfl rfl 2 (by decide) (hT _ tw_419) (fun _ h => h) rfl d_Mod_sum_51 ?_
            refine lv_iload hx hb d_Mod_sum_54 (lv_at hl 5 rfl) ?_
            refine bk_iald hx hb hK.1 hP 2 0 rfl rfl i (by omega) (by decide) d_Mod_sum_56 ?_
            refine bk_add hx hb d_Mod_sum_57 ?_
            refine bk_top (y := iI (sumK K Ln x y z (i + 1))) (congrArg iI (sumK_yes (by omega)).symm) ?_
            refine lv_goto (tgt := 63) hx hb d_Mod_sum_58 (by decide) ?_
            refine lv_istore hx hb d_Mod_sum_63 hl (by decide) rfl (fun ls hl => ?_)
            have hl : lv_has ls 6 [(4, .int (iI (sumK K Ln x y z (i + 1)))), (0, .ref hM), (1, .int (iI x)), (2, .int (iI y)), (3, .int (iI z)), (5, .int (iI (i : Int)))] := hl
            refine lv_iinc (k := 5) (v := iI ((i + 1 : Nat) : Int)) hx hb d_Mod_sum_65 hl rfl ((iI_add _ _).trans (congrArg iI (by omega))) (by decide) rfl (fun ls hl => ?_)
            have hl : lv_has ls 6 [(5, .int (iI ((i + 1 : Nat) : Int))), (4, .int (iI (sumK K Ln x y z (i + 1)))), (0, .ref hM), (1, .int (iI x)), (2, .int (iI y)), (3, .int (iI z))] := hl
            refine lv_goto (tgt := 6) hx hb d_Mod_sum_68 (by decide) ?_
            exact ih6 (mo - (i + 1)) (by omega) (i + 1) _ _ _ rfl (by omega) (lv_sub hl [2, 3, 4, 5, 1, 0] rfl) hP hD hS
          · skip
            refine lv_aload_n hx hb d_Mod_sum_37 rfl (lv_at hl 0 rfl) ?_
            refine va_get (ci := 6) (C := R_Mod) (T := F_Mod) (N := 23) hx hb hT in_Mod hown hK.1 hP 0 rfl rfl 1 (by decide) (hT _ tw_418) (fun _ h => h) rfl d_Mod_sum_38 ?_
            refine lv_iload hx hb d_Mod_sum_41 (lv_at hl 5 rfl) ?_
            refine bk_iald hx hb hK.1 hP 1 0 rfl rfl i (by omega) (by decide) d_Mod_sum_43 ?_
            refine lv_iload_n hx hb d_Mod_sum_44 rfl (lv_at hl 3 rfl) ?_
            refine bk_icmp_ne (tgt := 61) hx hb d_Mod_sum_45 (by decide) (by omega) (by omega) (fun c45 => ?_) (fun c45 => ?_)
            · skip
              refine lv_iload hx hb d_Mod_sum_61 (lv_at hl 4 rfl) ?_
              refine bk_top (y := iI (sumK K Ln x y z (i + 1))) (congrArg iI (sumK_no (by omega)).symm) ?_
              refine lv_istore hx hb d_Mod_sum_63 hl (by decide) rfl (fun ls hl => ?_)
              have hl : lv_has ls 6 [(4, .int (iI (sumK K Ln x y z (i + 1)))), (0, .ref hM), (1, .int (iI x)), (2, .int (iI y)), (3, .int (iI z)), (5, .int (iI (i : Int)))] := hl
              refine lv_iinc (k := 5) (v := iI ((i + 1 : Nat) : Int)) hx hb d_Mod_sum_65 hl rfl ((iI_add _ _).trans (congrArg iI (by omega))) (by decide) rfl (fun ls hl => ?_)
              have hl : lv_has ls 6 [(5, .int (iI ((i + 1 : Nat) : Int))), (4, .int (iI (sumK K Ln x y z (i + 1)))), (0, .ref hM), (1, .int (iI x)), (2, .int (iI y)), (3, .int (iI z))] := hl
              refine lv_goto (tgt := 6) hx hb d_Mod_sum_68 (by decide) ?_
              exact ih6 (mo - (i + 1)) (by omega) (i + 1) _ _ _ rfl (by omega) (lv_sub hl [2, 3, 4, 5, 1, 0] rfl) hP hD hS
            · skip
              refine lv_iload hx hb d_Mod_sum_48 (lv_at hl 4 rfl) ?_
              refine lv_aload_n hx hb d_Mod_sum_50 rfl (lv_at hl 0 rfl) ?_
              refine va_get (ci := 6) (C := R_Mod) (T := F_Mod) (N := 23) hx hb hT in_Mod hown hK.1 hP 0 rfl rfl 2 (by decide) (hT _ tw_419) (fun _ h => h) rfl d_Mod_sum_51 ?_
              refine lv_iload hx hb d_Mod_sum_54 (lv_at hl 5 rfl) ?_
              refine bk_iald hx hb hK.1 hP 2 0 rfl rfl i (by omega) (by decide) d_Mod_sum_56 ?_
              refine bk_add hx hb d_Mod_sum_57 ?_
              refine bk_top (y := iI (sumK K Ln x y z (i + 1))) (congrArg iI (sumK_yes (by omega)).symm) ?_
              refine lv_goto (tgt := 63) hx hb d_Mod_sum_58 (by decide) ?_
              refine lv_istore hx hb d_Mod_sum_63 hl (by decide) rfl (fun ls hl => ?_)
              have hl : lv_has ls 6 [(4, .int (iI (sumK K Ln x y z (i + 1)))), (0, .ref hM), (1, .int (iI x)), (2, .int (iI y)), (3, .int (iI z)), (5, .int (iI (i : Int)))] := hl
              refine lv_iinc (k := 5) (v := iI ((i + 1 : Nat) : Int)) hx hb d_Mod_sum_65 hl rfl ((iI_add _ _).trans (congrArg iI (by omega))) (by decide) rfl (fun ls hl => ?_)
              have hl : lv_has ls 6 [(5, .int (iI ((i + 1 : Nat) : Int))), (4, .int (iI (sumK K Ln x y z (i + 1)))), (0, .ref hM), (1, .int (iI x)), (2, .int (iI y)), (3, .int (iI z))] := hl
              refine lv_goto (tgt := 6) hx hb d_Mod_sum_68 (by decide) ?_
              exact ih6 (mo - (i + 1)) (by omega) (i + 1) _ _ _ rfl (by omega) (lv_sub hl [2, 3, 4, 5, 1, 0] rfl) hP hD hS
  exact cut6 _ 0 _ _ _ rfl (by omega) (lv_sub hl [2, 3, 4, 5, 1, 0] rfl) hP hD hS
abbrev rm_Mod_binOf : Room := { frames := 0, cells := 0, slots := 0, locals := 0 }
set_option maxRecDepth 100000 in
set_option maxHeartbeats 4000000 in
theorem c_Mod_binOf (l : Launch) (D : va_G) (cI cO : ClassId) (hM a1 a2 a3 a4 a5 a6 a7 a8 a9 a10 a11 a12 a13 a14 : Nat) (K Ln Cd Rf Ps En Oc Ob Bc Bd Bg Sm Dk Fd : Nat → Int) (mo mb mr : Nat) (mw : Int) (mt mz : Nat) (mu : Int) (mf ml : Nat) (i : Nat) (hmr : mr ≤ 24) (hRf : ∀ i, i < mr → 0 ≤ Rf i ∧ Rf i ≤ 1) (hPs : ∀ i, i < mr → 0 ≤ Ps i ∧ Ps i < En i ∧ En i ≤ 4096) (hi : i < mr) : Mi l y_Mod_binOf b_Mod_binOf 4 .int rm_Mod_binOf D cI cO [.ref hM, .int (iI (i : Int))] ([(hM, .inr (6, [.int (iI (mo : Int)), .ref a1, .ref a2, .int (iI (mb : Int)), .ref a3, .int (iI (mr : Int)), .ref a4, .ref a5, .ref a6, .ref a7, .ref a8, .ref a9, .ref a10, .ref a11, .int (iI mw), .ref a12, .int (iI (mt : Int)), .ref a13, .int (iI (mz : Int)), .int (iI mu), .int (iI (mf : Int)), .int (iI (ml : Int)), .ref a14])), (a1, ar cI 3 K), (a2, ar cI 3 Ln), (a3, ar cI 24 Cd), (a4, ar cI 24 Rf), (a5, ar cI 24 Ps), (a6, ar cI 24 En), (a7, ar cI 24 Oc), (a8, ar cI 72 Ob), (a9, ar cI 24 Bc), (a10, ar cI 576 Bd), (a11, ar cI 25 Bg), (a12, ar cI 528 Sm), (a13, ar cI 700 Dk), (a14, ar cI 24 Fd)]) (fun (r : Int) (_ : Unit) => r = binI (Ps i) (En i)) (fun (_ : Unit) => [(hM, .inr (6, [.int (iI (mo : Int)), .ref a1, .ref a2, .int (iI (mb : Int)), .ref a3, .int (iI (mr : Int)), .ref a4, .ref a5, .ref a6, .ref a7, .ref a8, .ref a9, .ref a10, .ref a11, .int (iI mw), .ref a12, .int (iI (mt : Int)), .ref a13, .int (iI (mz : Int)), .int (iI mu), .int (iI (mf : Int)), .int (iI (ml : Int)), .ref a14])), (a1, ar cI 3 K), (a2, ar cI 3 Ln), (a3, ar cI 24 Cd), (a4, ar cI 24 Rf), (a5, ar cI 24 Ps), (a6, ar cI 24 En), (a7, ar cI 24 Oc), (a8, ar cI 72 Ob), (a9, ar cI 24 Bc), (a10, ar cI 576 Bd), (a11, ar cI 25 Bg), (a12, ar cI 528 Sm), (a13, ar cI 700 Dk), (a14, ar cI 24 Fd)]) 0 0 := by
  refine bk_start (by decide) (ble_le rfl) ?_
  intro p e s m args below meth c A ls Q hx hb hr hml hlk hown hnm hT hK hA hAe hQ hP hD hS hl
  have hown : s.vm.findClass "BinnedReadsModel" = some m.cls := hown
  have hl : lv_has ls 4 [(0, .ref hM), (1, .int (iI (i : Int)))] := hl
  have h1 := hPs i hi
  refine lv_aload_n hx hb d_Mod_binOf_0 rfl (lv_at hl 0 rfl) ?_
  refine va_get (ci := 6) (C := R_Mod) (T := F_Mod) (N := 23) hx hb hT in_Mod hown hK.1 hP 0 rfl rfl 7 (by decide) (hT _ tw_424) (fun _ h => h) rfl d_Mod_binOf_1 ?_
  refine lv_iload_n hx hb d_Mod_binOf_4 rfl (lv_at hl 1 rfl) ?_
  refine bk_iald hx hb hK.1 hP 5 0 rfl rfl i (by omega) (by decide) d_Mod_binOf_5 ?_
  refine lv_istore_n hx hb d_Mod_binOf_6 rfl hl (by decide) rfl (fun ls hl => ?_)
  have hl : lv_has ls 4 [(2, .int (iI (Ps i))), (0, .ref hM), (1, .int (iI (i : Int)))] := hl
  refine lv_aload_n hx hb d_Mod_binOf_7 rfl (lv_at hl 1 rfl) ?_
  refine va_get (ci := 6) (C := R_Mod) (T := F_Mod) (N := 23) hx hb hT in_Mod hown hK.1 hP 0 rfl rfl 8 (by decide) (hT _ tw_425) (fun _ h => h) rfl d_Mod_binOf_8 ?_
  refine lv_iload_n hx hb d_Mod_binOf_11 rfl (lv_at hl 2 rfl) ?_
  refine bk_iald hx hb hK.1 hP 6 0 rfl rfl i (by omega) (by decide) d_Mod_binOf_12 ?_
  refine lv_iconst (v := iI 1) hx hb d_Mod_binOf_13 rfl ?_
  refine bk_sub hx hb d_Mod_binOf_14 ?_
  refine lv_istore_n hx hb d_Mod_binOf_15 rfl hl (by decide) rfl (fun ls hl => ?_)
  have hl : lv_has ls 4 [(3, .int (iI ((En i) - 1))), (2, .int (iI (Ps i))), (0, .ref hM), (1, .int (iI (i : Int)))] := hl
  refine lv_iload_n hx hb d_Mod_binOf_16 rfl (lv_at hl 1 rfl) ?_
  refine lv_bipush (v := iI 64) hx hb d_Mod_binOf_17 (by decide) ?_
  refine bk_div hx hb d_Mod_binOf_19 (by omega) (by omega) ?_
  refine lv_iload_n hx hb d_Mod_binOf_20 rfl (lv_at hl 0 rfl) ?_
  refine lv_bipush (v := iI 64) hx hb d_Mod_binOf_21 (by decide) ?_
  refine bk_div hx hb d_Mod_binOf_23 (by omega) (by omega) ?_
  refine bk_icmp_ne (tgt := 37) hx hb d_Mod_binOf_24 (by decide) (by omega) (by omega) (fun c24 => ?_) (fun c24 => ?_)
  · skip
    refine lv_iload_n hx hb d_Mod_binOf_37 rfl (lv_at hl 1 rfl) ?_
    refine lv_sipush (v := iI 512) hx hb d_Mod_binOf_38 (by decide) ?_
    refine bk_div hx hb d_Mod_binOf_41 (by omega) (by omega) ?_
    refine lv_iload_n hx hb d_Mod_binOf_42 rfl (lv_at hl 0 rfl) ?_
    refine lv_sipush (v := iI 512) hx hb d_Mod_binOf_43 (by decide) ?_
    refine bk_div hx hb d_Mod_binOf_46 (by omega) (by omega) ?_
    refine bk_icmp_ne (tgt := 60) hx hb d_Mod_binOf_47 (by decide) (by omega) (by omega) (fun c47 => ?_) (fun c47 => ?_)
    · skip
      refine lv_iconst (v := iI 0) hx hb d_Mod_binOf_60 rfl ?_
      exact bk_reti (r := 0) hx hb hr rfl hlk hAe hQ hS () (by unfold binI; first | rw [if_pos (by omega)] | rw [if_neg (by omega), if_pos (by omega)] | rw [if_neg (by omega), if_neg (by omega)]) hP hD d_Mod_binOf_61
    · skip
      refine lv_iconst (v := iI 1) hx hb d_Mod_binOf_50 rfl ?_
      refine lv_iload_n hx hb d_Mod_binOf_51 rfl (lv_at hl 1 rfl) ?_
      refine lv_sipush (v := iI 512) hx hb d_Mod_binOf_52 (by decide) ?_
      refine bk_div hx hb d_Mod_binOf_55 (by omega) (by omega) ?_
      refine bk_add hx hb d_Mod_binOf_56 ?_
      refine lv_goto (tgt := 61) hx hb d_Mod_binOf_57 (by decide) ?_
      exact bk_reti (r := 1 + ((Ps i) / 512)) hx hb hr rfl hlk hAe hQ hS () (by unfold binI; first | rw [if_pos (by omega)] | rw [if_neg (by omega), if_pos (by omega)] | rw [if_neg (by omega), if_neg (by omega)]) hP hD d_Mod_binOf_61
  · skip
    refine lv_bipush (v := iI 9) hx hb d_Mod_binOf_27 (by decide) ?_
    refine lv_iload_n hx hb d_Mod_binOf_29 rfl (lv_at hl 1 rfl) ?_
    refine lv_bipush (v := iI 64) hx hb d_Mod_binOf_30 (by decide) ?_
    refine bk_div hx hb d_Mod_binOf_32 (by omega) (by omega) ?_
    refine bk_add hx hb d_Mod_binOf_33 ?_
    refine lv_goto (tgt := 61) hx hb d_Mod_binOf_34 (by decide) ?_
    exact bk_reti (r := 9 + ((Ps i) / 64)) hx hb hr rfl hlk hAe hQ hS () (by unfold binI; first | rw [if_pos (by omega)] | rw [if_neg (by omega), if_pos (by omega)] | rw [if_neg (by omega), if_neg (by omega)]) hP hD d_Mod_binOf_61
abbrev rm_Mod_put : Room := { frames := 0, cells := 0, slots := 0, locals := 0 }
set_option maxRecDepth 100000 in
set_option maxHeartbeats 4000000 in
theorem c_Mod_put (l : Launch) (D : va_G) (cI cO : ClassId) (hM a1 a2 a3 a4 a5 a6 a7 a8 a9 a10 a11 a12 a13 a14 : Nat) (K Ln Cd Rf Ps En Oc Ob Bc Bd Bg Sm Dk Fd : Nat → Int) (mo mb mr : Nat) (mw : Int) (mt mz : Nat) (mu : Int) (mf ml : Nat) (v : Int) (hmt : mt < 528) : Mv l y_Mod_put b_Mod_put 2 rm_Mod_put D cI cO [.ref hM, .int (iI v)] ([(hM, .inr (6, [.int (iI (mo : Int)), .ref a1, .ref a2, .int (iI (mb : Int)), .ref a3, .int (iI (mr : Int)), .ref a4, .ref a5, .ref a6, .ref a7, .ref a8, .ref a9, .ref a10, .ref a11, .int (iI mw), .ref a12, .int (iI (mt : Int)), .ref a13, .int (iI (mz : Int)), .int (iI mu), .int (iI (mf : Int)), .int (iI (ml : Int)), .ref a14])), (a1, ar cI 3 K), (a2, ar cI 3 Ln), (a3, ar cI 24 Cd), (a4, ar cI 24 Rf), (a5, ar cI 24 Ps), (a6, ar cI 24 En), (a7, ar cI 24 Oc), (a8, ar cI 72 Ob), (a9, ar cI 24 Bc), (a10, ar cI 576 Bd), (a11, ar cI 25 Bg), (a12, ar cI 528 Sm), (a13, ar cI 700 Dk), (a14, ar cI 24 Fd)]) (fun (_ : Unit) => True) (fun (_ : Unit) => [(hM, .inr (6, [.int (iI (mo : Int)), .ref a1, .ref a2, .int (iI (mb : Int)), .ref a3, .int (iI (mr : Int)), .ref a4, .ref a5, .ref a6, .ref a7, .ref a8, .ref a9, .ref a10, .ref a11, .int (iI mw), .ref a12, .int (iI ((mt + 1 : Nat) : Int)), .ref a13, .int (iI (mz : Int)), .int (iI mu), .int (iI (mf : Int)), .int (iI (ml : Int)), .ref a14])), (a1, ar cI 3 K), (a2, ar cI 3 Ln), (a3, ar cI 24 Cd), (a4, ar cI 24 Rf), (a5, ar cI 24 Ps), (a6, ar cI 24 En), (a7, ar cI 24 Oc), (a8, ar cI 72 Ob), (a9, ar cI 24 Bc), (a10, ar cI 576 Bd), (a11, ar cI 25 Bg), (a12, ar cI 528 (bU Sm mt v)), (a13, ar cI 700 Dk), (a14, ar cI 24 Fd)]) 0 0 := by
  refine bk_start (by decide) (ble_le rfl) ?_
  intro p e s m args below meth c A ls Q hx hb hr hml hlk hown hnm hT hK hA hAe hQ hP hD hS hl
  have hown : s.vm.findClass "BinnedReadsModel" = some m.cls := hown
  have hl : lv_has ls 2 [(0, .ref hM), (1, .int (iI v))] := hl
  refine lv_aload_n hx hb d_Mod_put_0 rfl (lv_at hl 0 rfl) ?_
  refine va_get (ci := 6) (C := R_Mod) (T := F_Mod) (N := 23) hx hb hT in_Mod hown hK.1 hP 0 rfl rfl 15 (by decide) (hT _ tw_432) (fun _ h => h) rfl d_Mod_put_1 ?_
  refine lv_aload_n hx hb d_Mod_put_4 rfl (lv_at hl 0 rfl) ?_
  refine va_get (ci := 6) (C := R_Mod) (T := F_Mod) (N := 23) hx hb hT in_Mod hown hK.1 hP 0 rfl rfl 16 (by decide) (hT _ tw_433) (fun _ h => h) rfl d_Mod_put_5 ?_
  refine lv_iload_n hx hb d_Mod_put_8 rfl (lv_at hl 1 rfl) ?_
  refine bk_iast hx hb hK.1 hP hD hS 12 0 rfl rfl mt (by omega) (by decide) d_Mod_put_9 (fun H locs hP hD hS => ?_)
  have hP : va_P D classes ([(hM, .inr (6, [.int (iI (mo : Int)), .ref a1, .ref a2, .int (iI (mb : Int)), .ref a3, .int (iI (mr : Int)), .ref a4, .ref a5, .ref a6, .ref a7, .ref a8, .ref a9, .ref a10, .ref a11, .int (iI mw), .ref a12, .int (iI (mt : Int)), .ref a13, .int (iI (mz : Int)), .int (iI mu), .int (iI (mf : Int)), .int (iI (ml : Int)), .ref a14])), (a1, ar cI 3 K), (a2, ar cI 3 Ln), (a3, ar cI 24 Cd), (a4, ar cI 24 Rf), (a5, ar cI 24 Ps), (a6, ar cI 24 En), (a7, ar cI 24 Oc), (a8, ar cI 72 Ob), (a9, ar cI 24 Bc), (a10, ar cI 576 Bd), (a11, ar cI 25 Bg), (a12, ar cI 528 (bU Sm mt v)), (a13, ar cI 700 Dk), (a14, ar cI 24 Fd)]) H := hP
  have hD : va_D A ([(hM, .inr (6, [.int (iI (mo : Int)), .ref a1, .ref a2, .int (iI (mb : Int)), .ref a3, .int (iI (mr : Int)), .ref a4, .ref a5, .ref a6, .ref a7, .ref a8, .ref a9, .ref a10, .ref a11, .int (iI mw), .ref a12, .int (iI (mt : Int)), .ref a13, .int (iI (mz : Int)), .int (iI mu), .int (iI (mf : Int)), .int (iI (ml : Int)), .ref a14])), (a1, ar cI 3 K), (a2, ar cI 3 Ln), (a3, ar cI 24 Cd), (a4, ar cI 24 Rf), (a5, ar cI 24 Ps), (a6, ar cI 24 En), (a7, ar cI 24 Oc), (a8, ar cI 72 Ob), (a9, ar cI 24 Bc), (a10, ar cI 576 Bd), (a11, ar cI 25 Bg), (a12, ar cI 528 (bU Sm mt v)), (a13, ar cI 700 Dk), (a14, ar cI 24 Fd)]) := hD
  refine lv_aload_n hx hb d_Mod_put_10 rfl (lv_at hl 0 rfl) ?_
  refine lv_dup hx hb d_Mod_put_11 rfl ?_
  refine va_get (ci := 6) (C := R_Mod) (T := F_Mod) (N := 23) hx hb hT in_Mod hown hK.1 hP 0 rfl rfl 16 (by decide) (hT _ tw_433) (fun _ h => h) rfl d_Mod_put_12 ?_
  refine lv_iconst (v := iI 1) hx hb d_Mod_put_15 rfl ?_
  refine bk_add hx hb d_Mod_put_16 ?_
  refine bk_top (y := iI ((mt + 1 : Nat) : Int)) (congrArg iI (by omega)) ?_
  refine va_put (ci := 6) (v := .int (iI ((mt + 1 : Nat) : Int))) (ty := .int) (C := R_Mod) (T := F_Mod) (N := 23) hx hb hT in_Mod t_Mod to_Mod n_Mod hown hK.1 hP hD hS 0 rfl rfl 16 (by decide) (hT _ tw_433) (fun _ h => h) rfl (by decide +kernel) rfl rfl (ble_lt rfl) d_Mod_put_17 (fun H locs hP hD hS => ?_)
  have hP : va_P D classes ([(hM, .inr (6, [.int (iI (mo : Int)), .ref a1, .ref a2, .int (iI (mb : Int)), .ref a3, .int (iI (mr : Int)), .ref a4, .ref a5, .ref a6, .ref a7, .ref a8, .ref a9, .ref a10, .ref a11, .int (iI mw), .ref a12, .int (iI ((mt + 1 : Nat) : Int)), .ref a13, .int (iI (mz : Int)), .int (iI mu), .int (iI (mf : Int)), .int (iI (ml : Int)), .ref a14])), (a1, ar cI 3 K), (a2, ar cI 3 Ln), (a3, ar cI 24 Cd), (a4, ar cI 24 Rf), (a5, ar cI 24 Ps), (a6, ar cI 24 En), (a7, ar cI 24 Oc), (a8, ar cI 72 Ob), (a9, ar cI 24 Bc), (a10, ar cI 576 Bd), (a11, ar cI 25 Bg), (a12, ar cI 528 (bU Sm mt v)), (a13, ar cI 700 Dk), (a14, ar cI 24 Fd)]) H := hP
  have hD : va_D A ([(hM, .inr (6, [.int (iI (mo : Int)), .ref a1, .ref a2, .int (iI (mb : Int)), .ref a3, .int (iI (mr : Int)), .ref a4, .ref a5, .ref a6, .ref a7, .ref a8, .ref a9, .ref a10, .ref a11, .int (iI mw), .ref a12, .int (iI ((mt + 1 : Nat) : Int)), .ref a13, .int (iI (mz : Int)), .int (iI mu), .int (iI (mf : Int)), .int (iI (ml : Int)), .ref a14])), (a1, ar cI 3 K), (a2, ar cI 3 Ln), (a3, ar cI 24 Cd), (a4, ar cI 24 Rf), (a5, ar cI 24 Ps), (a6, ar cI 24 En), (a7, ar cI 24 Oc), (a8, ar cI 72 Ob), (a9, ar cI 24 Bc), (a10, ar cI 576 Bd), (a11, ar cI 25 Bg), (a12, ar cI 528 (bU Sm mt v)), (a13, ar cI 700 Dk), (a14, ar cI 24 Fd)]) := hD
  exact bk_retv hx hb hr hlk hAe hQ hS () trivial hP hD d_Mod_put_20
abbrev rm_Mod_store : Room := { frames := 0, cells := 0, slots := 0, locals := 0 }
set_option maxRecDepth 100000 in
set_option maxHeartbeats 4000000 in
theorem c_Mod_store (l : Launch) (D : va_G) (cI cO : ClassId) (hM a1 a2 a3 a4 a5 a6 a7 a8 a9 a10 a11 a12 a13 a14 : Nat) (K Ln Cd Rf Ps En Oc Ob Bc Bd Bg Sm Dk Fd : Nat → Int) (mo mb mr : Nat) (mw : Int) (mt mz : Nat) (mu : Int) (mf ml : Nat) (w : Int32) (v : Nat) (hmz : mz < 700) (hv : w &&& iI 255 = iI ((v : Nat) : Int)) : Mv l y_Mod_store b_Mod_store 2 rm_Mod_store D cI cO [.ref hM, .int w] ([(hM, .inr (6, [.int (iI (mo : Int)), .ref a1, .ref a2, .int (iI (mb : Int)), .ref a3, .int (iI (mr : Int)), .ref a4, .ref a5, .ref a6, .ref a7, .ref a8, .ref a9, .ref a10, .ref a11, .int (iI mw), .ref a12, .int (iI (mt : Int)), .ref a13, .int (iI (mz : Int)), .int (iI mu), .int (iI (mf : Int)), .int (iI (ml : Int)), .ref a14])), (a1, ar cI 3 K), (a2, ar cI 3 Ln), (a3, ar cI 24 Cd), (a4, ar cI 24 Rf), (a5, ar cI 24 Ps), (a6, ar cI 24 En), (a7, ar cI 24 Oc), (a8, ar cI 72 Ob), (a9, ar cI 24 Bc), (a10, ar cI 576 Bd), (a11, ar cI 25 Bg), (a12, ar cI 528 Sm), (a13, ar cI 700 Dk), (a14, ar cI 24 Fd)]) (fun (_ : Unit) => True) (fun (_ : Unit) => [(hM, .inr (6, [.int (iI (mo : Int)), .ref a1, .ref a2, .int (iI (mb : Int)), .ref a3, .int (iI (mr : Int)), .ref a4, .ref a5, .ref a6, .ref a7, .ref a8, .ref a9, .ref a10, .ref a11, .int (iI mw), .ref a12, .int (iI (mt : Int)), .ref a13, .int (iI ((mz + 1 : Nat) : Int)), .int (iI mu), .int (iI (mf : Int)), .int (iI (ml : Int)), .ref a14])), (a1, ar cI 3 K), (a2, ar cI 3 Ln), (a3, ar cI 24 Cd), (a4, ar cI 24 Rf), (a5, ar cI 24 Ps), (a6, ar cI 24 En), (a7, ar cI 24 Oc), (a8, ar cI 72 Ob), (a9, ar cI 24 Bc), (a10, ar cI 576 Bd), (a11, ar cI 25 Bg), (a12, ar cI 528 Sm), (a13, ar cI 700 (bU Dk mz ((v : Nat) : Int))), (a14, ar cI 24 Fd)]) 0 0 := by
  refine bk_start (by decide) (ble_le rfl) ?_
  intro p e s m args below meth c A ls Q hx hb hr hml hlk hown hnm hT hK hA hAe hQ hP hD hS hl
  have hown : s.vm.findClass "BinnedReadsModel" = some m.cls := hown
  have hl : lv_has ls 2 [(0, .ref hM), (1, .int w)] := hl
  refine lv_aload_n hx hb d_Mod_store_0 rfl (lv_at hl 0 rfl) ?_
  refine va_get (ci := 6) (C := R_Mod) (T := F_Mod) (N := 23) hx hb hT in_Mod hown hK.1 hP 0 rfl rfl 17 (by decide) (hT _ tw_434) (fun _ h => h) rfl d_Mod_store_1 ?_
  refine lv_aload_n hx hb d_Mod_store_4 rfl (lv_at hl 0 rfl) ?_
  refine va_get (ci := 6) (C := R_Mod) (T := F_Mod) (N := 23) hx hb hT in_Mod hown hK.1 hP 0 rfl rfl 18 (by decide) (hT _ tw_435) (fun _ h => h) rfl d_Mod_store_5 ?_
  refine lv_iload_n hx hb d_Mod_store_8 rfl (lv_at hl 1 rfl) ?_
  refine lv_sipush (v := iI 255) hx hb d_Mod_store_9 (by decide) ?_
  refine lv_iand hx hb d_Mod_store_12 ?_
  refine bk_top (y := iI (v : Int)) (hv) ?_
  refine bk_iast hx hb hK.1 hP hD hS 13 0 rfl rfl mz (by omega) (by decide) d_Mod_store_13 (fun H locs hP hD hS => ?_)
  have hP : va_P D classes ([(hM, .inr (6, [.int (iI (mo : Int)), .ref a1, .ref a2, .int (iI (mb : Int)), .ref a3, .int (iI (mr : Int)), .ref a4, .ref a5, .ref a6, .ref a7, .ref a8, .ref a9, .ref a10, .ref a11, .int (iI mw), .ref a12, .int (iI (mt : Int)), .ref a13, .int (iI (mz : Int)), .int (iI mu), .int (iI (mf : Int)), .int (iI (ml : Int)), .ref a14])), (a1, ar cI 3 K), (a2, ar cI 3 Ln), (a3, ar cI 24 Cd), (a4, ar cI 24 Rf), (a5, ar cI 24 Ps), (a6, ar cI 24 En), (a7, ar cI 24 Oc), (a8, ar cI 72 Ob), (a9, ar cI 24 Bc), (a10, ar cI 576 Bd), (a11, ar cI 25 Bg), (a12, ar cI 528 Sm), (a13, ar cI 700 (bU Dk mz (v : Int))), (a14, ar cI 24 Fd)]) H := hP
  have hD : va_D A ([(hM, .inr (6, [.int (iI (mo : Int)), .ref a1, .ref a2, .int (iI (mb : Int)), .ref a3, .int (iI (mr : Int)), .ref a4, .ref a5, .ref a6, .ref a7, .ref a8, .ref a9, .ref a10, .ref a11, .int (iI mw), .ref a12, .int (iI (mt : Int)), .ref a13, .int (iI (mz : Int)), .int (iI mu), .int (iI (mf : Int)), .int (iI (ml : Int)), .ref a14])), (a1, ar cI 3 K), (a2, ar cI 3 Ln), (a3, ar cI 24 Cd), (a4, ar cI 24 Rf), (a5, ar cI 24 Ps), (a6, ar cI 24 En), (a7, ar cI 24 Oc), (a8, ar cI 72 Ob), (a9, ar cI 24 Bc), (a10, ar cI 576 Bd), (a11, ar cI 25 Bg), (a12, ar cI 528 Sm), (a13, ar cI 700 (bU Dk mz (v : Int))), (a14, ar cI 24 Fd)]) := hD
  refine lv_aload_n hx hb d_Mod_store_14 rfl (lv_at hl 0 rfl) ?_
  refine lv_dup hx hb d_Mod_store_15 rfl ?_
  refine va_get (ci := 6) (C := R_Mod) (T := F_Mod) (N := 23) hx hb hT in_Mod hown hK.1 hP 0 rfl rfl 18 (by decide) (hT _ tw_435) (fun _ h => h) rfl d_Mod_store_16 ?_
  refine lv_iconst (v := iI 1) hx hb d_Mod_store_19 rfl ?_
  refine bk_add hx hb d_Mod_store_20 ?_
  refine bk_top (y := iI ((mz + 1 : Nat) : Int)) (congrArg iI (by omega)) ?_
  refine va_put (ci := 6) (v := .int (iI ((mz + 1 : Nat) : Int))) (ty := .int) (C := R_Mod) (T := F_Mod) (N := 23) hx hb hT in_Mod t_Mod to_Mod n_Mod hown hK.1 hP hD hS 0 rfl rfl 18 (by decide) (hT _ tw_435) (fun _ h => h) rfl (by decide +kernel) rfl rfl (ble_lt rfl) d_Mod_store_21 (fun H locs hP hD hS => ?_)
  have hP : va_P D classes ([(hM, .inr (6, [.int (iI (mo : Int)), .ref a1, .ref a2, .int (iI (mb : Int)), .ref a3, .int (iI (mr : Int)), .ref a4, .ref a5, .ref a6, .ref a7, .ref a8, .ref a9, .ref a10, .ref a11, .int (iI mw), .ref a12, .int (iI (mt : Int)), .ref a13, .int (iI ((mz + 1 : Nat) : Int)), .int (iI mu), .int (iI (mf : Int)), .int (iI (ml : Int)), .ref a14])), (a1, ar cI 3 K), (a2, ar cI 3 Ln), (a3, ar cI 24 Cd), (a4, ar cI 24 Rf), (a5, ar cI 24 Ps), (a6, ar cI 24 En), (a7, ar cI 24 Oc), (a8, ar cI 72 Ob), (a9, ar cI 24 Bc), (a10, ar cI 576 Bd), (a11, ar cI 25 Bg), (a12, ar cI 528 Sm), (a13, ar cI 700 (bU Dk mz (v : Int))), (a14, ar cI 24 Fd)]) H := hP
  have hD : va_D A ([(hM, .inr (6, [.int (iI (mo : Int)), .ref a1, .ref a2, .int (iI (mb : Int)), .ref a3, .int (iI (mr : Int)), .ref a4, .ref a5, .ref a6, .ref a7, .ref a8, .ref a9, .ref a10, .ref a11, .int (iI mw), .ref a12, .int (iI (mt : Int)), .ref a13, .int (iI ((mz + 1 : Nat) : Int)), .int (iI mu), .int (iI (mf : Int)), .int (iI (ml : Int)), .ref a14])), (a1, ar cI 3 K), (a2, ar cI 3 Ln), (a3, ar cI 24 Cd), (a4, ar cI 24 Rf), (a5, ar cI 24 Ps), (a6, ar cI 24 En), (a7, ar cI 24 Oc), (a8, ar cI 72 Ob), (a9, ar cI 24 Bc), (a10, ar cI 576 Bd), (a11, ar cI 25 Bg), (a12, ar cI 528 Sm), (a13, ar cI 700 (bU Dk mz (v : Int))), (a14, ar cI 24 Fd)]) := hD
  exact bk_retv hx hb hr hlk hAe hQ hS () trivial hP hD d_Mod_store_24
abbrev rm_Mod_clear : Room := { frames := 1, cells := 0, slots := 0, locals := 20 }
set_option maxRecDepth 100000 in
set_option maxHeartbeats 4000000 in
theorem c_Mod_clear (l : Launch) (D : va_G) (cI cO : ClassId) (hM a1 a2 a3 a4 a5 a6 a7 a8 a9 a10 a11 a12 a13 a14 : Nat) (K Ln Cd Rf Ps En Oc Ob Bc Bd Bg Sm Dk Fd : Nat → Int) (mo mb mr : Nat) (mw : Int) (mt mz : Nat) (mu : Int) (mf ml : Nat) : Mv l y_Mod_clear b_Mod_clear 1 rm_Mod_clear D cI cO [.ref hM] ([(hM, .inr (6, [.int (iI (mo : Int)), .ref a1, .ref a2, .int (iI (mb : Int)), .ref a3, .int (iI (mr : Int)), .ref a4, .ref a5, .ref a6, .ref a7, .ref a8, .ref a9, .ref a10, .ref a11, .int (iI mw), .ref a12, .int (iI (mt : Int)), .ref a13, .int (iI (mz : Int)), .int (iI mu), .int (iI (mf : Int)), .int (iI (ml : Int)), .ref a14])), (a1, ar cI 3 K), (a2, ar cI 3 Ln), (a3, ar cI 24 Cd), (a4, ar cI 24 Rf), (a5, ar cI 24 Ps), (a6, ar cI 24 En), (a7, ar cI 24 Oc), (a8, ar cI 72 Ob), (a9, ar cI 24 Bc), (a10, ar cI 576 Bd), (a11, ar cI 25 Bg), (a12, ar cI 528 Sm), (a13, ar cI 700 Dk), (a14, ar cI 24 Fd)]) (fun (_ : Unit) => True) (fun (_ : Unit) => [(hM, .inr (6, [.int (iI 0), .ref a1, .ref a2, .int (iI 0), .ref a3, .int (iI 0), .ref a4, .ref a5, .ref a6, .ref a7, .ref a8, .ref a9, .ref a10, .ref a11, .int (iI 0), .ref a12, .int (iI 0), .ref a13, .int (iI 0), .int (iI (-1)), .int (iI 0), .int (iI 0), .ref a14])), (a1, ar cI 3 K), (a2, ar cI 3 Ln), (a3, ar cI 24 Cd), (a4, ar cI 24 Rf), (a5, ar cI 24 Ps), (a6, ar cI 24 En), (a7, ar cI 24 Oc), (a8, ar cI 72 Ob), (a9, ar cI 24 Bc), (a10, ar cI 576 Bd), (a11, ar cI 25 Bg), (a12, ar cI 528 Sm), (a13, ar cI 700 Dk), (a14, ar cI 24 Fd)]) 0 0 := by
  refine bk_start (by decide) (ble_le rfl) ?_
  intro p e s m args below meth c A ls Q hx hb hr hml hlk hown hnm hT hK hA hAe hQ hP hD hS hl
  have hown : s.vm.findClass "BinnedReadsModel" = some m.cls := hown
  have hl : lv_has ls 1 [(0, .ref hM)] := hl
  refine lv_aload_n hx hb d_Mod_clear_0 rfl (lv_at hl 0 rfl) ?_
  refine bk_fv (X := [(hM, .inr (6, [.int (iI (mo : Int)), .ref a1, .ref a2, .int (iI (mb : Int)), .ref a3, .int (iI (mr : Int)), .ref a4, .ref a5, .ref a6, .ref a7, .ref a8, .ref a9, .ref a10, .ref a11, .int (iI mw), .ref a12, .int (iI (mt : Int)), .ref a13, .int (iI (mz : Int)), .int (iI mu), .int (iI (mf : Int)), .int (iI (ml : Int)), .ref a14])), (a1, ar cI 3 K), (a2, ar cI 3 Ln), (a3, ar cI 24 Cd), (a4, ar cI 24 Rf), (a5, ar cI 24 Ps), (a6, ar cI 24 En), (a7, ar cI 24 Oc), (a8, ar cI 72 Ob), (a9, ar cI 24 Bc), (a10, ar cI 576 Bd), (a11, ar cI 25 Bg), (a12, ar cI 528 Sm), (a13, ar cI 700 Dk), (a14, ar cI 24 Fd)]) (pl := []) (Wc := [(hM, .inr (6, [.int (iI (mo : Int)), .ref a1, .ref a2, .int (iI (mb : Int)), .ref a3, .int (iI (mr : Int)), .ref a4, .ref a5, .ref a6, .ref a7, .ref a8, .ref a9, .ref a10, .ref a11, .int (iI mw), .ref a12, .int (iI (mt : Int)), .ref a13, .int (iI (mz : Int)), .int (iI mu), .int (iI (mf : Int)), .int (iI (ml : Int)), .ref a14])), (a1, ar cI 3 K), (a2, ar cI 3 Ln), (a3, ar cI 24 Cd), (a4, ar cI 24 Rf), (a5, ar cI 24 Ps), (a6, ar cI 24 En), (a7, ar cI 24 Oc), (a8, ar cI 72 Ob), (a9, ar cI 24 Bc), (a10, ar cI 576 Bd), (a11, ar cI 25 Bg), (a12, ar cI 528 Sm), (a13, ar cI 700 Dk), (a14, ar cI 24 Fd)]) (wr := []) [0, 1, 2, 3, 4, 5, 6, 7, 8, 9, 10, 11, 12, 13, 14] [] rfl rfl (by decide) (by decide) hP hD hS hA (bk_rV (rest := []) hx hb hml hown hT hK (c_Mod_scrap l D cI cO hM a1 a2 a3 a4 a5 a6 a7 a8 a9 a10 a11 a12 a13 a14 K Ln Cd Rf Ps En Oc Ob Bc Bd Bg Sm Dk Fd mo mb mr mw mt mz mu mf ml ) (bk_subP (X := [(hM, .inr (6, [.int (iI (mo : Int)), .ref a1, .ref a2, .int (iI (mb : Int)), .ref a3, .int (iI (mr : Int)), .ref a4, .ref a5, .ref a6, .ref a7, .ref a8, .ref a9, .ref a10, .ref a11, .int (iI mw), .ref a12, .int (iI (mt : Int)), .ref a13, .int (iI (mz : Int)), .int (iI mu), .int (iI (mf : Int)), .int (iI (ml : Int)), .ref a14])), (a1, ar cI 3 K), (a2, ar cI 3 Ln), (a3, ar cI 24 Cd), (a4, ar cI 24 Rf), (a5, ar cI 24 Ps), (a6, ar cI 24 En), (a7, ar cI 24 Oc), (a8, ar cI 72 Ob), (a9, ar cI 24 Bc), (a10, ar cI 576 Bd), (a11, ar cI 25 Bg), (a12, ar cI 528 Sm), (a13, ar cI 700 Dk), (a14, ar cI 24 Fd)]) (pl := []) (Wc := [(hM, .inr (6, [.int (iI (mo : Int)), .ref a1, .ref a2, .int (iI (mb : Int)), .ref a3, .int (iI (mr : Int)), .ref a4, .ref a5, .ref a6, .ref a7, .ref a8, .ref a9, .ref a10, .ref a11, .int (iI mw), .ref a12, .int (iI (mt : Int)), .ref a13, .int (iI (mz : Int)), .int (iI mu), .int (iI (mf : Int)), .int (iI (ml : Int)), .ref a14])), (a1, ar cI 3 K), (a2, ar cI 3 Ln), (a3, ar cI 24 Cd), (a4, ar cI 24 Rf), (a5, ar cI 24 Ps), (a6, ar cI 24 En), (a7, ar cI 24 Oc), (a8, ar cI 72 Ob), (a9, ar cI 24 Bc), (a10, ar cI 576 Bd), (a11, ar cI 25 Bg), (a12, ar cI 528 Sm), (a13, ar cI 700 Dk), (a14, ar cI 24 Fd)]) hP [0, 1, 2, 3, 4, 5, 6, 7, 8, 9, 10, 11, 12, 13, 14] rfl) (bk_subD (X := [(hM, .inr (6, [.int (iI (mo : Int)), .ref a1, .ref a2, .int (iI (mb : Int)), .ref a3, .int (iI (mr : Int)), .ref a4, .ref a5, .ref a6, .ref a7, .ref a8, .ref a9, .ref a10, .ref a11, .int (iI mw), .ref a12, .int (iI (mt : Int)), .ref a13, .int (iI (mz : Int)), .int (iI mu), .int (iI (mf : Int)), .int (iI (ml : Int)), .ref a14])), (a1, ar cI 3 K), (a2, ar cI 3 Ln), (a3, ar cI 24 Cd), (a4, ar cI 24 Rf), (a5, ar cI 24 Ps), (a6, ar cI 24 En), (a7, ar cI 24 Oc), (a8, ar cI 72 Ob), (a9, ar cI 24 Bc), (a10, ar cI 576 Bd), (a11, ar cI 25 Bg), (a12, ar cI 528 Sm), (a13, ar cI 700 Dk), (a14, ar cI 24 Fd)]) (pl := []) (Wc := [(hM, .inr (6, [.int (iI (mo : Int)), .ref a1, .ref a2, .int (iI (mb : Int)), .ref a3, .int (iI (mr : Int)), .ref a4, .ref a5, .ref a6, .ref a7, .ref a8, .ref a9, .ref a10, .ref a11, .int (iI mw), .ref a12, .int (iI (mt : Int)), .ref a13, .int (iI (mz : Int)), .int (iI mu), .int (iI (mf : Int)), .int (iI (ml : Int)), .ref a14])), (a1, ar cI 3 K), (a2, ar cI 3 Ln), (a3, ar cI 24 Cd), (a4, ar cI 24 Rf), (a5, ar cI 24 Ps), (a6, ar cI 24 En), (a7, ar cI 24 Oc), (a8, ar cI 72 Ob), (a9, ar cI 24 Bc), (a10, ar cI 576 Bd), (a11, ar cI 25 Bg), (a12, ar cI 528 Sm), (a13, ar cI 700 Dk), (a14, ar cI 24 Fd)]) hD [0, 1, 2, 3, 4, 5, 6, 7, 8, 9, 10, 11, 12, 13, 14] (by decide) rfl) 0 6 rfl rfl rfl tw_510 tw_499 tw_500 tw_7 tw_501 hd_Mod_scrap ⟨rfl, rfl⟩ (by decide) hl.1 rfl (ble_le rfl) d_Mod_clear_1 (by decide)) (fun u H locs hq hP hD hS => ?_)
  have hq : True := hq
  have hP : va_P D classes ([(hM, .inr (6, [.int (iI 0), .ref a1, .ref a2, .int (iI 0), .ref a3, .int (iI (mr : Int)), .ref a4, .ref a5, .ref a6, .ref a7, .ref a8, .ref a9, .ref a10, .ref a11, .int (iI mw), .ref a12, .int (iI (mt : Int)), .ref a13, .int (iI (mz : Int)), .int (iI mu), .int (iI (mf : Int)), .int (iI (ml : Int)), .ref a14])), (a1, ar cI 3 K), (a2, ar cI 3 Ln), (a3, ar cI 24 Cd), (a4, ar cI 24 Rf), (a5, ar cI 24 Ps), (a6, ar cI 24 En), (a7, ar cI 24 Oc), (a8, ar cI 72 Ob), (a9, ar cI 24 Bc), (a10, ar cI 576 Bd), (a11, ar cI 25 Bg), (a12, ar cI 528 Sm), (a13, ar cI 700 Dk), (a14, ar cI 24 Fd)]) H := hP
  have hD : va_D A ([(hM, .inr (6, [.int (iI 0), .ref a1, .ref a2, .int (iI 0), .ref a3, .int (iI (mr : Int)), .ref a4, .ref a5, .ref a6, .ref a7, .ref a8, .ref a9, .ref a10, .ref a11, .int (iI mw), .ref a12, .int (iI (mt : Int)), .ref a13, .int (iI (mz : Int)), .int (iI mu), .int (iI (mf : Int)), .int (iI (ml : Int)), .ref a14])), (a1, ar cI 3 K), (a2, ar cI 3 Ln), (a3, ar cI 24 Cd), (a4, ar cI 24 Rf), (a5, ar cI 24 Ps), (a6, ar cI 24 En), (a7, ar cI 24 Oc), (a8, ar cI 72 Ob), (a9, ar cI 24 Bc), (a10, ar cI 576 Bd), (a11, ar cI 25 Bg), (a12, ar cI 528 Sm), (a13, ar cI 700 Dk), (a14, ar cI 24 Fd)]) := hD
  refine lv_aload_n hx hb d_Mod_clear_4 rfl (lv_at hl 0 rfl) ?_
  refine lv_iconst (v := iI 0) hx hb d_Mod_clear_5 rfl ?_
  refine va_put (ci := 6) (v := .int (iI 0)) (ty := .int) (C := R_Mod) (T := F_Mod) (N := 23) hx hb hT in_Mod t_Mod to_Mod n_Mod hown hK.1 hP hD hS 0 rfl rfl 5 (by decide) (hT _ tw_422) (fun _ h => h) rfl (by decide +kernel) rfl rfl (ble_lt rfl) d_Mod_clear_6 (fun H locs hP hD hS => ?_)
  have hP : va_P D classes ([(hM, .inr (6, [.int (iI 0), .ref a1, .ref a2, .int (iI 0), .ref a3, .int (iI 0), .ref a4, .ref a5, .ref a6, .ref a7, .ref a8, .ref a9, .ref a10, .ref a11, .int (iI mw), .ref a12, .int (iI (mt : Int)), .ref a13, .int (iI (mz : Int)), .int (iI mu), .int (iI (mf : Int)), .int (iI (ml : Int)), .ref a14])), (a1, ar cI 3 K), (a2, ar cI 3 Ln), (a3, ar cI 24 Cd), (a4, ar cI 24 Rf), (a5, ar cI 24 Ps), (a6, ar cI 24 En), (a7, ar cI 24 Oc), (a8, ar cI 72 Ob), (a9, ar cI 24 Bc), (a10, ar cI 576 Bd), (a11, ar cI 25 Bg), (a12, ar cI 528 Sm), (a13, ar cI 700 Dk), (a14, ar cI 24 Fd)]) H := hP
  have hD : va_D A ([(hM, .inr (6, [.int (iI 0), .ref a1, .ref a2, .int (iI 0), .ref a3, .int (iI 0), .ref a4, .ref a5, .ref a6, .ref a7, .ref a8, .ref a9, .ref a10, .ref a11, .int (iI mw), .ref a12, .int (iI (mt : Int)), .ref a13, .int (iI (mz : Int)), .int (iI mu), .int (iI (mf : Int)), .int (iI (ml : Int)), .ref a14])), (a1, ar cI 3 K), (a2, ar cI 3 Ln), (a3, ar cI 24 Cd), (a4, ar cI 24 Rf), (a5, ar cI 24 Ps), (a6, ar cI 24 En), (a7, ar cI 24 Oc), (a8, ar cI 72 Ob), (a9, ar cI 24 Bc), (a10, ar cI 576 Bd), (a11, ar cI 25 Bg), (a12, ar cI 528 Sm), (a13, ar cI 700 Dk), (a14, ar cI 24 Fd)]) := hD
  refine lv_aload_n hx hb d_Mod_clear_9 rfl (lv_at hl 0 rfl) ?_
  refine lv_iconst (v := iI 0) hx hb d_Mod_clear_10 rfl ?_
  refine va_put (ci := 6) (v := .int (iI 0)) (ty := .boolean) (C := R_Mod) (T := F_Mod) (N := 23) hx hb hT in_Mod t_Mod to_Mod n_Mod hown hK.1 hP hD hS 0 rfl rfl 14 (by decide) (hT _ tw_431) (fun _ h => h) rfl (by decide +kernel) iI_nar0 rfl (ble_lt rfl) d_Mod_clear_11 (fun H locs hP hD hS => ?_)
  have hP : va_P D classes ([(hM, .inr (6, [.int (iI 0), .ref a1, .ref a2, .int (iI 0), .ref a3, .int (iI 0), .ref a4, .ref a5, .ref a6, .ref a7, .ref a8, .ref a9, .ref a10, .ref a11, .int (iI 0), .ref a12, .int (iI (mt : Int)), .ref a13, .int (iI (mz : Int)), .int (iI mu), .int (iI (mf : Int)), .int (iI (ml : Int)), .ref a14])), (a1, ar cI 3 K), (a2, ar cI 3 Ln), (a3, ar cI 24 Cd), (a4, ar cI 24 Rf), (a5, ar cI 24 Ps), (a6, ar cI 24 En), (a7, ar cI 24 Oc), (a8, ar cI 72 Ob), (a9, ar cI 24 Bc), (a10, ar cI 576 Bd), (a11, ar cI 25 Bg), (a12, ar cI 528 Sm), (a13, ar cI 700 Dk), (a14, ar cI 24 Fd)]) H := hP
  have hD : va_D A ([(hM, .inr (6, [.int (iI 0), .ref a1, .ref a2, .int (iI 0), .ref a3, .int (iI 0), .ref a4, .ref a5, .ref a6, .ref a7, .ref a8, .ref a9, .ref a10, .ref a11, .int (iI 0), .ref a12, .int (iI (mt : Int)), .ref a13, .int (iI (mz : Int)), .int (iI mu), .int (iI (mf : Int)), .int (iI (ml : Int)), .ref a14])), (a1, ar cI 3 K), (a2, ar cI 3 Ln), (a3, ar cI 24 Cd), (a4, ar cI 24 Rf), (a5, ar cI 24 Ps), (a6, ar cI 24 En), (a7, ar cI 24 Oc), (a8, ar cI 72 Ob), (a9, ar cI 24 Bc), (a10, ar cI 576 Bd), (a11, ar cI 25 Bg), (a12, ar cI 528 Sm), (a13, ar cI 700 Dk), (a14, ar cI 24 Fd)]) := hD
  refine lv_aload_n hx hb d_Mod_clear_14 rfl (lv_at hl 0 rfl) ?_
  refine lv_iconst (v := iI 0) hx hb d_Mod_clear_15 rfl ?_
  refine va_put (ci := 6) (v := .int (iI 0)) (ty := .int) (C := R_Mod) (T := F_Mod) (N := 23) hx hb hT in_Mod t_Mod to_Mod n_Mod hown hK.1 hP hD hS 0 rfl rfl 16 (by decide) (hT _ tw_433) (fun _ h => h) rfl (by decide +kernel) rfl rfl (ble_lt rfl) d_Mod_clear_16 (fun H locs hP hD hS => ?_)
  have hP : va_P D classes ([(hM, .inr (6, [.int (iI 0), .ref a1, .ref a2, .int (iI 0), .ref a3, .int (iI 0), .ref a4, .ref a5, .ref a6, .ref a7, .ref a8, .ref a9, .ref a10, .ref a11, .int (iI 0), .ref a12, .int (iI 0), .ref a13, .int (iI (mz : Int)), .int (iI mu), .int (iI (mf : Int)), .int (iI (ml : Int)), .ref a14])), (a1, ar cI 3 K), (a2, ar cI 3 Ln), (a3, ar cI 24 Cd), (a4, ar cI 24 Rf), (a5, ar cI 24 Ps), (a6, ar cI 24 En), (a7, ar cI 24 Oc), (a8, ar cI 72 Ob), (a9, ar cI 24 Bc), (a10, ar cI 576 Bd), (a11, ar cI 25 Bg), (a12, ar cI 528 Sm), (a13, ar cI 700 Dk), (a14, ar cI 24 Fd)]) H := hP
  have hD : va_D A ([(hM, .inr (6, [.int (iI 0), .ref a1, .ref a2, .int (iI 0), .ref a3, .int (iI 0), .ref a4, .ref a5, .ref a6, .ref a7, .ref a8, .ref a9, .ref a10, .ref a11, .int (iI 0), .ref a12, .int (iI 0), .ref a13, .int (iI (mz : Int)), .int (iI mu), .int (iI (mf : Int)), .int (iI (ml : Int)), .ref a14])), (a1, ar cI 3 K), (a2, ar cI 3 Ln), (a3, ar cI 24 Cd), (a4, ar cI 24 Rf), (a5, ar cI 24 Ps), (a6, ar cI 24 En), (a7, ar cI 24 Oc), (a8, ar cI 72 Ob), (a9, ar cI 24 Bc), (a10, ar cI 576 Bd), (a11, ar cI 25 Bg), (a12, ar cI 528 Sm), (a13, ar cI 700 Dk), (a14, ar cI 24 Fd)]) := hD
  refine lv_aload_n hx hb d_Mod_clear_19 rfl (lv_at hl 0 rfl) ?_
  refine lv_iconst (v := iI 0) hx hb d_Mod_clear_20 rfl ?_
  refine va_put (ci := 6) (v := .int (iI 0)) (ty := .int) (C := R_Mod) (T := F_Mod) (N := 23) hx hb hT in_Mod t_Mod to_Mod n_Mod hown hK.1 hP hD hS 0 rfl rfl 18 (by decide) (hT _ tw_435) (fun _ h => h) rfl (by decide +kernel) rfl rfl (ble_lt rfl) d_Mod_clear_21 (fun H locs hP hD hS => ?_)
  have hP : va_P D classes ([(hM, .inr (6, [.int (iI 0), .ref a1, .ref a2, .int (iI 0), .ref a3, .int (iI 0), .ref a4, .ref a5, .ref a6, .ref a7, .ref a8, .ref a9, .ref a10, .ref a11, .int (iI 0), .ref a12, .int (iI 0), .ref a13, .int (iI 0), .int (iI mu), .int (iI (mf : Int)), .int (iI (ml : Int)), .ref a14])), (a1, ar cI 3 K), (a2, ar cI 3 Ln), (a3, ar cI 24 Cd), (a4, ar cI 24 Rf), (a5, ar cI 24 Ps), (a6, ar cI 24 En), (a7, ar cI 24 Oc), (a8, ar cI 72 Ob), (a9, ar cI 24 Bc), (a10, ar cI 576 Bd), (a11, ar cI 25 Bg), (a12, ar cI 528 Sm), (a13, ar cI 700 Dk), (a14, ar cI 24 Fd)]) H := hP
  have hD : va_D A ([(hM, .inr (6, [.int (iI 0), .ref a1, .ref a2, .int (iI 0), .ref a3, .int (iI 0), .ref a4, .ref a5, .ref a6, .ref a7, .ref a8, .ref a9, .ref a10, .ref a11, .int (iI 0), .ref a12, .int (iI 0), .ref a13, .int (iI 0), .int (iI mu), .int (iI (mf : Int)), .int (iI (ml : Int)), .ref a14])), (a1, ar cI 3 K), (a2, ar cI 3 Ln), (a3, ar cI 24 Cd), (a4, ar cI 24 Rf), (a5, ar cI 24 Ps), (a6, ar cI 24 En), (a7, ar cI 24 Oc), (a8, ar cI 72 Ob), (a9, ar cI 24 Bc), (a10, ar cI 576 Bd), (a11, ar cI 25 Bg), (a12, ar cI 528 Sm), (a13, ar cI 700 Dk), (a14, ar cI 24 Fd)]) := hD
  refine lv_aload_n hx hb d_Mod_clear_24 rfl (lv_at hl 0 rfl) ?_
  refine lv_iconst (v := iI (-1)) hx hb d_Mod_clear_25 rfl ?_
  refine va_put (ci := 6) (v := .int (iI (-1))) (ty := .int) (C := R_Mod) (T := F_Mod) (N := 23) hx hb hT in_Mod t_Mod to_Mod n_Mod hown hK.1 hP hD hS 0 rfl rfl 19 (by decide) (hT _ tw_436) (fun _ h => h) rfl (by decide +kernel) rfl rfl (ble_lt rfl) d_Mod_clear_26 (fun H locs hP hD hS => ?_)
  have hP : va_P D classes ([(hM, .inr (6, [.int (iI 0), .ref a1, .ref a2, .int (iI 0), .ref a3, .int (iI 0), .ref a4, .ref a5, .ref a6, .ref a7, .ref a8, .ref a9, .ref a10, .ref a11, .int (iI 0), .ref a12, .int (iI 0), .ref a13, .int (iI 0), .int (iI (-1)), .int (iI (mf : Int)), .int (iI (ml : Int)), .ref a14])), (a1, ar cI 3 K), (a2, ar cI 3 Ln), (a3, ar cI 24 Cd), (a4, ar cI 24 Rf), (a5, ar cI 24 Ps), (a6, ar cI 24 En), (a7, ar cI 24 Oc), (a8, ar cI 72 Ob), (a9, ar cI 24 Bc), (a10, ar cI 576 Bd), (a11, ar cI 25 Bg), (a12, ar cI 528 Sm), (a13, ar cI 700 Dk), (a14, ar cI 24 Fd)]) H := hP
  have hD : va_D A ([(hM, .inr (6, [.int (iI 0), .ref a1, .ref a2, .int (iI 0), .ref a3, .int (iI 0), .ref a4, .ref a5, .ref a6, .ref a7, .ref a8, .ref a9, .ref a10, .ref a11, .int (iI 0), .ref a12, .int (iI 0), .ref a13, .int (iI 0), .int (iI (-1)), .int (iI (mf : Int)), .int (iI (ml : Int)), .ref a14])), (a1, ar cI 3 K), (a2, ar cI 3 Ln), (a3, ar cI 24 Cd), (a4, ar cI 24 Rf), (a5, ar cI 24 Ps), (a6, ar cI 24 En), (a7, ar cI 24 Oc), (a8, ar cI 72 Ob), (a9, ar cI 24 Bc), (a10, ar cI 576 Bd), (a11, ar cI 25 Bg), (a12, ar cI 528 Sm), (a13, ar cI 700 Dk), (a14, ar cI 24 Fd)]) := hD
  refine lv_aload_n hx hb d_Mod_clear_29 rfl (lv_at hl 0 rfl) ?_
  refine lv_iconst (v := iI 0) hx hb d_Mod_clear_30 rfl ?_
  refine va_put (ci := 6) (v := .int (iI 0)) (ty := .int) (C := R_Mod) (T := F_Mod) (N := 23) hx hb hT in_Mod t_Mod to_Mod n_Mod hown hK.1 hP hD hS 0 rfl rfl 20 (by decide) (hT _ tw_437) (fun _ h => h) rfl (by decide +kernel) rfl rfl (ble_lt rfl) d_Mod_clear_31 (fun H locs hP hD hS => ?_)
  have hP : va_P D classes ([(hM, .inr (6, [.int (iI 0), .ref a1, .ref a2, .int (iI 0), .ref a3, .int (iI 0), .ref a4, .ref a5, .ref a6, .ref a7, .ref a8, .ref a9, .ref a10, .ref a11, .int (iI 0), .ref a12, .int (iI 0), .ref a13, .int (iI 0), .int (iI (-1)), .int (iI 0), .int (iI (ml : Int)), .ref a14])), (a1, ar cI 3 K), (a2, ar cI 3 Ln), (a3, ar cI 24 Cd), (a4, ar cI 24 Rf), (a5, ar cI 24 Ps), (a6, ar cI 24 En), (a7, ar cI 24 Oc), (a8, ar cI 72 Ob), (a9, ar cI 24 Bc), (a10, ar cI 576 Bd), (a11, ar cI 25 Bg), (a12, ar cI 528 Sm), (a13, ar cI 700 Dk), (a14, ar cI 24 Fd)]) H := hP
  have hD : va_D A ([(hM, .inr (6, [.int (iI 0), .ref a1, .ref a2, .int (iI 0), .ref a3, .int (iI 0), .ref a4, .ref a5, .ref a6, .ref a7, .ref a8, .ref a9, .ref a10, .ref a11, .int (iI 0), .ref a12, .int (iI 0), .ref a13, .int (iI 0), .int (iI (-1)), .int (iI 0), .int (iI (ml : Int)), .ref a14])), (a1, ar cI 3 K), (a2, ar cI 3 Ln), (a3, ar cI 24 Cd), (a4, ar cI 24 Rf), (a5, ar cI 24 Ps), (a6, ar cI 24 En), (a7, ar cI 24 Oc), (a8, ar cI 72 Ob), (a9, ar cI 24 Bc), (a10, ar cI 576 Bd), (a11, ar cI 25 Bg), (a12, ar cI 528 Sm), (a13, ar cI 700 Dk), (a14, ar cI 24 Fd)]) := hD
  refine lv_aload_n hx hb d_Mod_clear_34 rfl (lv_at hl 0 rfl) ?_
  refine lv_iconst (v := iI 0) hx hb d_Mod_clear_35 rfl ?_
  refine va_put (ci := 6) (v := .int (iI 0)) (ty := .int) (C := R_Mod) (T := F_Mod) (N := 23) hx hb hT in_Mod t_Mod to_Mod n_Mod hown hK.1 hP hD hS 0 rfl rfl 21 (by decide) (hT _ tw_438) (fun _ h => h) rfl (by decide +kernel) rfl rfl (ble_lt rfl) d_Mod_clear_36 (fun H locs hP hD hS => ?_)
  have hP : va_P D classes ([(hM, .inr (6, [.int (iI 0), .ref a1, .ref a2, .int (iI 0), .ref a3, .int (iI 0), .ref a4, .ref a5, .ref a6, .ref a7, .ref a8, .ref a9, .ref a10, .ref a11, .int (iI 0), .ref a12, .int (iI 0), .ref a13, .int (iI 0), .int (iI (-1)), .int (iI 0), .int (iI 0), .ref a14])), (a1, ar cI 3 K), (a2, ar cI 3 Ln), (a3, ar cI 24 Cd), (a4, ar cI 24 Rf), (a5, ar cI 24 Ps), (a6, ar cI 24 En), (a7, ar cI 24 Oc), (a8, ar cI 72 Ob), (a9, ar cI 24 Bc), (a10, ar cI 576 Bd), (a11, ar cI 25 Bg), (a12, ar cI 528 Sm), (a13, ar cI 700 Dk), (a14, ar cI 24 Fd)]) H := hP
  have hD : va_D A ([(hM, .inr (6, [.int (iI 0), .ref a1, .ref a2, .int (iI 0), .ref a3, .int (iI 0), .ref a4, .ref a5, .ref a6, .ref a7, .ref a8, .ref a9, .ref a10, .ref a11, .int (iI 0), .ref a12, .int (iI 0), .ref a13, .int (iI 0), .int (iI (-1)), .int (iI 0), .int (iI 0), .ref a14])), (a1, ar cI 3 K), (a2, ar cI 3 Ln), (a3, ar cI 24 Cd), (a4, ar cI 24 Rf), (a5, ar cI 24 Ps), (a6, ar cI 24 En), (a7, ar cI 24 Oc), (a8, ar cI 72 Ob), (a9, ar cI 24 Bc), (a10, ar cI 576 Bd), (a11, ar cI 25 Bg), (a12, ar cI 528 Sm), (a13, ar cI 700 Dk), (a14, ar cI 24 Fd)]) := hD
  exact bk_retv hx hb hr hlk hAe hQ hS () trivial hP hD d_Mod_clear_39
abbrev rm_Mod_turn : Room := { frames := 1, cells := 0, slots := 0, locals := 22 }
set_option maxRecDepth 100000 in
set_option maxHeartbeats 4000000 in
theorem c_Mod_turn (l : Launch) (D : va_G) (cI cO : ClassId) (hM a1 a2 a3 a4 a5 a6 a7 a8 a9 a10 a11 a12 a13 a14 : Nat) (K Ln Cd Rf Ps En Oc Ob Bc Bd Bg Sm Dk Fd : Nat → Int) (mo mb mr : Nat) (mw : Int) (mt mz : Nat) (mu : Int) (mf ml : Nat) (k b : Int) (hmz : mz ≤ 700) (hmu : -1 ≤ mu ∧ mu < 8 * 700) (hk1 : -2147483648 ≤ k ∧ k < 2147483648) (hb1 : -2147483648 ≤ b ∧ b < 2147483648) : Mi l y_Mod_turn b_Mod_turn 3 .boolean rm_Mod_turn D cI cO [.ref hM, .int (iI k), .int (iI b)] ([(hM, .inr (6, [.int (iI (mo : Int)), .ref a1, .ref a2, .int (iI (mb : Int)), .ref a3, .int (iI (mr : Int)), .ref a4, .ref a5, .ref a6, .ref a7, .ref a8, .ref a9, .ref a10, .ref a11, .int (iI mw), .ref a12, .int (iI (mt : Int)), .ref a13, .int (iI (mz : Int)), .int (iI mu), .int (iI (mf : Int)), .int (iI (ml : Int)), .ref a14])), (a1, ar cI 3 K), (a2, ar cI 3 Ln), (a3, ar cI 24 Cd), (a4, ar cI 24 Rf), (a5, ar cI 24 Ps), (a6, ar cI 24 En), (a7, ar cI 24 Oc), (a8, ar cI 72 Ob), (a9, ar cI 24 Bc), (a10, ar cI 576 Bd), (a11, ar cI 25 Bg), (a12, ar cI 528 Sm), (a13, ar cI 700 Dk), (a14, ar cI 24 Fd)]) (fun (r : Int) (mu2 : Int) => ((0 ≤ k ∧ k < (mz : Int) ∧ 0 ≤ b ∧ b ≤ 7 ∧ (mu = -1 ∨ mu = 8 * k + b)) ∧ r = 1 ∧ mu2 = (if mu = -1 then 8 * k + b else -1)) ∨ (¬ (0 ≤ k ∧ k < (mz : Int) ∧ 0 ≤ b ∧ b ≤ 7 ∧ (mu = -1 ∨ mu = 8 * k + b)) ∧ r = 0 ∧ mu2 = mu)) (fun (mu2 : Int) => [(hM, .inr (6, [.int (iI (mo : Int)), .ref a1, .ref a2, .int (iI (mb : Int)), .ref a3, .int (iI (mr : Int)), .ref a4, .ref a5, .ref a6, .ref a7, .ref a8, .ref a9, .ref a10, .ref a11, .int (iI mw), .ref a12, .int (iI (mt : Int)), .ref a13, .int (iI (mz : Int)), .int (iI mu2), .int (iI (mf : Int)), .int (iI (ml : Int)), .ref a14])), (a1, ar cI 3 K), (a2, ar cI 3 Ln), (a3, ar cI 24 Cd), (a4, ar cI 24 Rf), (a5, ar cI 24 Ps), (a6, ar cI 24 En), (a7, ar cI 24 Oc), (a8, ar cI 72 Ob), (a9, ar cI 24 Bc), (a10, ar cI 576 Bd), (a11, ar cI 25 Bg), (a12, ar cI 528 Sm), (a13, ar cI 700 Dk), (a14, ar cI 24 Fd)]) 0 0 := by
  refine bk_start (by decide) (ble_le rfl) ?_
  intro p e s m args below meth c A ls Q hx hb hr hml hlk hown hnm hT hK hA hAe hQ hP hD hS hl
  have hown : s.vm.findClass "BinnedReadsModel" = some m.cls := hown
  have hl : lv_has ls 3 [(0, .ref hM), (1, .int (iI k)), (2, .int (iI b))] := hl
  refine lv_iload_n hx hb d_Mod_turn_0 rfl (lv_at hl 1 rfl) ?_
  refine lv_iconst (v := iI 0) hx hb d_Mod_turn_1 rfl ?_
  refine lv_aload_n hx hb d_Mod_turn_2 rfl (lv_at hl 0 rfl) ?_
  refine va_get (ci := 6) (C := R_Mod) (T := F_Mod) (N := 23) hx hb hT in_Mod hown hK.1 hP 0 rfl rfl 18 (by decide) (hT _ tw_435) (fun _ h => h) rfl d_Mod_turn_3 ?_
  refine lv_iconst (v := iI 1) hx hb d_Mod_turn_6 rfl ?_
  refine bk_sub hx hb d_Mod_turn_7 ?_
  refine bk_fR (ws := [(hM, .inr (6, [.int (iI (mo : Int)), .ref a1, .ref a2, .int (iI (mb : Int)), .ref a3, .int (iI (mr : Int)), .ref a4, .ref a5, .ref a6, .ref a7, .ref a8, .ref a9, .ref a10, .ref a11, .int (iI mw), .ref a12, .int (iI (mt : Int)), .ref a13, .int (iI (mz : Int)), .int (iI mu), .int (iI (mf : Int)), .int (iI (ml : Int)), .ref a14])), (a1, ar cI 3 K), (a2, ar cI 3 Ln), (a3, ar cI 24 Cd), (a4, ar cI 24 Rf), (a5, ar cI 24 Ps), (a6, ar cI 24 En), (a7, ar cI 24 Oc), (a8, ar cI 72 Ob), (a9, ar cI 24 Bc), (a10, ar cI 576 Bd), (a11, ar cI 25 Bg), (a12, ar cI 528 Sm), (a13, ar cI 700 Dk), (a14, ar cI 24 Fd)]) (Wc := []) (fun _ => rfl) (bk_hs (X := [(hM, .inr (6, [.int (iI (mo : Int)), .ref a1, .ref a2, .int (iI (mb : Int)), .ref a3, .int (iI (mr : Int)), .ref a4, .ref a5, .ref a6, .ref a7, .ref a8, .ref a9, .ref a10, .ref a11, .int (iI mw), .ref a12, .int (iI (mt : Int)), .ref a13, .int (iI (mz : Int)), .int (iI mu), .int (iI (mf : Int)), .int (iI (ml : Int)), .ref a14])), (a1, ar cI 3 K), (a2, ar cI 3 Ln), (a3, ar cI 24 Cd), (a4, ar cI 24 Rf), (a5, ar cI 24 Ps), (a6, ar cI 24 En), (a7, ar cI 24 Oc), (a8, ar cI 72 Ob), (a9, ar cI 24 Bc), (a10, ar cI 576 Bd), (a11, ar cI 25 Bg), (a12, ar cI 528 Sm), (a13, ar cI 700 Dk), (a14, ar cI 24 Fd)]) (pl := []) (Wc := []) [] rfl) hP hD hS hA (bk_rS (rest := []) hx hb hml hown hT hK (c_Mod_within l D cI cO k 0 ((mz : Int) - 1) (by omega) (by omega) (by omega)) (bk_subP (X := [(hM, .inr (6, [.int (iI (mo : Int)), .ref a1, .ref a2, .int (iI (mb : Int)), .ref a3, .int (iI (mr : Int)), .ref a4, .ref a5, .ref a6, .ref a7, .ref a8, .ref a9, .ref a10, .ref a11, .int (iI mw), .ref a12, .int (iI (mt : Int)), .ref a13, .int (iI (mz : Int)), .int (iI mu), .int (iI (mf : Int)), .int (iI (ml : Int)), .ref a14])), (a1, ar cI 3 K), (a2, ar cI 3 Ln), (a3, ar cI 24 Cd), (a4, ar cI 24 Rf), (a5, ar cI 24 Ps), (a6, ar cI 24 En), (a7, ar cI 24 Oc), (a8, ar cI 72 Ob), (a9, ar cI 24 Bc), (a10, ar cI 576 Bd), (a11, ar cI 25 Bg), (a12, ar cI 528 Sm), (a13, ar cI 700 Dk), (a14, ar cI 24 Fd)]) (pl := []) (Wc := []) hP [] rfl) (bk_subD (X := [(hM, .inr (6, [.int (iI (mo : Int)), .ref a1, .ref a2, .int (iI (mb : Int)), .ref a3, .int (iI (mr : Int)), .ref a4, .ref a5, .ref a6, .ref a7, .ref a8, .ref a9, .ref a10, .ref a11, .int (iI mw), .ref a12, .int (iI (mt : Int)), .ref a13, .int (iI (mz : Int)), .int (iI mu), .int (iI (mf : Int)), .int (iI (ml : Int)), .ref a14])), (a1, ar cI 3 K), (a2, ar cI 3 Ln), (a3, ar cI 24 Cd), (a4, ar cI 24 Rf), (a5, ar cI 24 Ps), (a6, ar cI 24 En), (a7, ar cI 24 Oc), (a8, ar cI 72 Ob), (a9, ar cI 24 Bc), (a10, ar cI 576 Bd), (a11, ar cI 25 Bg), (a12, ar cI 528 Sm), (a13, ar cI 700 Dk), (a14, ar cI 24 Fd)]) (pl := []) (Wc := []) hD [] (by decide) rfl) tw_491 tw_492 tw_7 tw_493 hd_Mod_within ⟨rfl, rfl⟩ (by decide) hl.1 rfl (ble_le rfl) d_Mod_turn_8 (by decide)) (fun r8 u H locs hq hP hS => ?_)
  have hq : ((0 ≤ k ∧ k ≤ ((mz : Int) - 1)) ∧ r8 = 1) ∨ (¬ (0 ≤ k ∧ k ≤ ((mz : Int) - 1)) ∧ r8 = 0) := hq
  refine bk_if_eq (tgt := 44) hx hb d_Mod_turn_11 (by decide) (by omega) (fun c11 => ?_) (fun c11 => ?_)
  · skip
    refine lv_iconst (v := iI 0) hx hb d_Mod_turn_44 rfl ?_
    exact bk_reti (r := 0) hx hb hr iI_nar0 hlk hAe hQ hS mu (Or.inr ⟨by omega, rfl, rfl⟩) hP hD d_Mod_turn_45
  · skip
    refine lv_iload_n hx hb d_Mod_turn_14 rfl (lv_at hl 2 rfl) ?_
    refine lv_iconst (v := iI 0) hx hb d_Mod_turn_15 rfl ?_
    refine lv_bipush (v := iI 7) hx hb d_Mod_turn_16 (by decide) ?_
    refine bk_fR (ws := [(hM, .inr (6, [.int (iI (mo : Int)), .ref a1, .ref a2, .int (iI (mb : Int)), .ref a3, .int (iI (mr : Int)), .ref a4, .ref a5, .ref a6, .ref a7, .ref a8, .ref a9, .ref a10, .ref a11, .int (iI mw), .ref a12, .int (iI (mt : Int)), .ref a13, .int (iI (mz : Int)), .int (iI mu), .int (iI (mf : Int)), .int (iI (ml : Int)), .ref a14])), (a1, ar cI 3 K), (a2, ar cI 3 Ln), (a3, ar cI 24 Cd), (a4, ar cI 24 Rf), (a5, ar cI 24 Ps), (a6, ar cI 24 En), (a7, ar cI 24 Oc), (a8, ar cI 72 Ob), (a9, ar cI 24 Bc), (a10, ar cI 576 Bd), (a11, ar cI 25 Bg), (a12, ar cI 528 Sm), (a13, ar cI 700 Dk), (a14, ar cI 24 Fd)]) (Wc := []) (fun _ => rfl) (bk_hs (X := [(hM, .inr (6, [.int (iI (mo : Int)), .ref a1, .ref a2, .int (iI (mb : Int)), .ref a3, .int (iI (mr : Int)), .ref a4, .ref a5, .ref a6, .ref a7, .ref a8, .ref a9, .ref a10, .ref a11, .int (iI mw), .ref a12, .int (iI (mt : Int)), .ref a13, .int (iI (mz : Int)), .int (iI mu), .int (iI (mf : Int)), .int (iI (ml : Int)), .ref a14])), (a1, ar cI 3 K), (a2, ar cI 3 Ln), (a3, ar cI 24 Cd), (a4, ar cI 24 Rf), (a5, ar cI 24 Ps), (a6, ar cI 24 En), (a7, ar cI 24 Oc), (a8, ar cI 72 Ob), (a9, ar cI 24 Bc), (a10, ar cI 576 Bd), (a11, ar cI 25 Bg), (a12, ar cI 528 Sm), (a13, ar cI 700 Dk), (a14, ar cI 24 Fd)]) (pl := []) (Wc := []) [] rfl) hP hD hS hA (bk_rS (rest := []) hx hb hml hown hT hK (c_Mod_within l D cI cO b 0 7 (by omega) (by omega) (by omega)) (bk_subP (X := [(hM, .inr (6, [.int (iI (mo : Int)), .ref a1, .ref a2, .int (iI (mb : Int)), .ref a3, .int (iI (mr : Int)), .ref a4, .ref a5, .ref a6, .ref a7, .ref a8, .ref a9, .ref a10, .ref a11, .int (iI mw), .ref a12, .int (iI (mt : Int)), .ref a13, .int (iI (mz : Int)), .int (iI mu), .int (iI (mf : Int)), .int (iI (ml : Int)), .ref a14])), (a1, ar cI 3 K), (a2, ar cI 3 Ln), (a3, ar cI 24 Cd), (a4, ar cI 24 Rf), (a5, ar cI 24 Ps), (a6, ar cI 24 En), (a7, ar cI 24 Oc), (a8, ar cI 72 Ob), (a9, ar cI 24 Bc), (a10, ar cI 576 Bd), (a11, ar cI 25 Bg), (a12, ar cI 528 Sm), (a13, ar cI 700 Dk), (a14, ar cI 24 Fd)]) (pl := []) (Wc := []) hP [] rfl) (bk_subD (X := [(hM, .inr (6, [.int (iI (mo : Int)), .ref a1, .ref a2, .int (iI (mb : Int)), .ref a3, .int (iI (mr : Int)), .ref a4, .ref a5, .ref a6, .ref a7, .ref a8, .ref a9, .ref a10, .ref a11, .int (iI mw), .ref a12, .int (iI (mt : Int)), .ref a13, .int (iI (mz : Int)), .int (iI mu), .int (iI (mf : Int)), .int (iI (ml : Int)), .ref a14])), (a1, ar cI 3 K), (a2, ar cI 3 Ln), (a3, ar cI 24 Cd), (a4, ar cI 24 Rf), (a5, ar cI 24 Ps), (a6, ar cI 24 En), (a7, ar cI 24 Oc), (a8, ar cI 72 Ob), (a9, ar cI 24 Bc), (a10, ar cI 576 Bd), (a11, ar cI 25 Bg), (a12, ar cI 528 Sm), (a13, ar cI 700 Dk), (a14, ar cI 24 Fd)]) (pl := []) (Wc := []) hD [] (by decide) rfl) tw_491 tw_492 tw_7 tw_493 hd_Mod_within ⟨rfl, rfl⟩ (by decide) hl.1 rfl (ble_le rfl) d_Mod_turn_18 (by decide)) (fun r18 u H locs hq hP hS => ?_)
    have hq : ((0 ≤ b ∧ b ≤ 7) ∧ r18 = 1) ∨ (¬ (0 ≤ b ∧ b ≤ 7) ∧ r18 = 0) := hq
    refine bk_if_eq (tgt := 44) hx hb d_Mod_turn_21 (by decide) (by omega) (fun c21 => ?_) (fun c21 => ?_)
    · skip
      refine lv_iconst (v := iI 0) hx hb d_Mod_turn_44 rfl ?_
      exact bk_reti (r := 0) hx hb hr iI_nar0 hlk hAe hQ hS mu (Or.inr ⟨by omega, rfl, rfl⟩) hP hD d_Mod_turn_45
    · skip
      refine lv_aload_n hx hb d_Mod_turn_24 rfl (lv_at hl 0 rfl) ?_
      refine va_get (ci := 6) (C := R_Mod) (T := F_Mod) (N := 23) hx hb hT in_Mod hown hK.1 hP 0 rfl rfl 19 (by decide) (hT _ tw_436) (fun _ h => h) rfl d_Mod_turn_25 ?_
      refine bk_if_lt (tgt := 46) hx hb d_Mod_turn_28 (by decide) (by omega) (fun c28 => ?_) (fun c28 => ?_)
      · skip
        refine lv_aload_n hx hb d_Mod_turn_46 rfl (lv_at hl 0 rfl) ?_
        refine lv_aload_n hx hb d_Mod_turn_47 rfl (lv_at hl 0 rfl) ?_
        refine va_get (ci := 6) (C := R_Mod) (T := F_Mod) (N := 23) hx hb hT in_Mod hown hK.1 hP 0 rfl rfl 19 (by decide) (hT _ tw_436) (fun _ h => h) rfl d_Mod_turn_48 ?_
        refine bk_if_lt (tgt := 58) hx hb d_Mod_turn_51 (by decide) (by omega) (fun c51 => ?_) (fun c51 => ?_)
        · skip
          refine lv_bipush (v := iI 8) hx hb d_Mod_turn_58 (by decide) ?_
          refine lv_iload_n hx hb d_Mod_turn_60 rfl (lv_at hl 1 rfl) ?_
          refine bk_mul hx hb d_Mod_turn_61 ?_
          refine lv_iload_n hx hb d_Mod_turn_62 rfl (lv_at hl 2 rfl) ?_
          refine bk_add hx hb d_Mod_turn_63 ?_
          refine va_put (ci := 6) (v := .int (iI (8 * k + b))) (ty := .int) (C := R_Mod) (T := F_Mod) (N := 23) hx hb hT in_Mod t_Mod to_Mod n_Mod hown hK.1 hP hD hS 0 rfl rfl 19 (by decide) (hT _ tw_436) (fun _ h => h) rfl (by decide +kernel) rfl rfl (ble_lt rfl) d_Mod_turn_64 (fun H locs hP hD hS => ?_)
          have hP : va_P D classes ([(hM, .inr (6, [.int (iI (mo : Int)), .ref a1, .ref a2, .int (iI (mb : Int)), .ref a3, .int (iI (mr : Int)), .ref a4, .ref a5, .ref a6, .ref a7, .ref a8, .ref a9, .ref a10, .ref a11, .int (iI mw), .ref a12, .int (iI (mt : Int)), .ref a13, .int (iI (mz : Int)), .int (iI (8 * k + b)), .int (iI (mf : Int)), .int (iI (ml : Int)), .ref a14])), (a1, ar cI 3 K), (a2, ar cI 3 Ln), (a3, ar cI 24 Cd), (a4, ar cI 24 Rf), (a5, ar cI 24 Ps), (a6, ar cI 24 En), (a7, ar cI 24 Oc), (a8, ar cI 72 Ob), (a9, ar cI 24 Bc), (a10, ar cI 576 Bd), (a11, ar cI 25 Bg), (a12, ar cI 528 Sm), (a13, ar cI 700 Dk), (a14, ar cI 24 Fd)]) H := hP
          have hD : va_D A ([(hM, .inr (6, [.int (iI (mo : Int)), .ref a1, .ref a2, .int (iI (mb : Int)), .ref a3, .int (iI (mr : Int)), .ref a4, .ref a5, .ref a6, .ref a7, .ref a8, .ref a9, .ref a10, .ref a11, .int (iI mw), .ref a12, .int (iI (mt : Int)), .ref a13, .int (iI (mz : Int)), .int (iI (8 * k + b)), .int (iI (mf : Int)), .int (iI (ml : Int)), .ref a14])), (a1, ar cI 3 K), (a2, ar cI 3 Ln), (a3, ar cI 24 Cd), (a4, ar cI 24 Rf), (a5, ar cI 24 Ps), (a6, ar cI 24 En), (a7, ar cI 24 Oc), (a8, ar cI 72 Ob), (a9, ar cI 24 Bc), (a10, ar cI 576 Bd), (a11, ar cI 25 Bg), (a12, ar cI 528 Sm), (a13, ar cI 700 Dk), (a14, ar cI 24 Fd)]) := hD
          refine lv_iconst (v := iI 1) hx hb d_Mod_turn_67 rfl ?_
          exact bk_reti (r := 1) hx hb hr iI_nar1 hlk hAe hQ hS (8 * k + b) (Or.inl ⟨by omega, rfl, by split <;> omega⟩) hP hD d_Mod_turn_68
        · skip
          refine lv_iconst (v := iI (-1)) hx hb d_Mod_turn_54 rfl ?_
          refine lv_goto (tgt := 64) hx hb d_Mod_turn_55 (by decide) ?_
          refine va_put (ci := 6) (v := .int (iI (-1))) (ty := .int) (C := R_Mod) (T := F_Mod) (N := 23) hx hb hT in_Mod t_Mod to_Mod n_Mod hown hK.1 hP hD hS 0 rfl rfl 19 (by decide) (hT _ tw_436) (fun _ h => h) rfl (by decide +kernel) rfl rfl (ble_lt rfl) d_Mod_turn_64 (fun H locs hP hD hS => ?_)
          have hP : va_P D classes ([(hM, .inr (6, [.int (iI (mo : Int)), .ref a1, .ref a2, .int (iI (mb : Int)), .ref a3, .int (iI (mr : Int)), .ref a4, .ref a5, .ref a6, .ref a7, .ref a8, .ref a9, .ref a10, .ref a11, .int (iI mw), .ref a12, .int (iI (mt : Int)), .ref a13, .int (iI (mz : Int)), .int (iI (-1)), .int (iI (mf : Int)), .int (iI (ml : Int)), .ref a14])), (a1, ar cI 3 K), (a2, ar cI 3 Ln), (a3, ar cI 24 Cd), (a4, ar cI 24 Rf), (a5, ar cI 24 Ps), (a6, ar cI 24 En), (a7, ar cI 24 Oc), (a8, ar cI 72 Ob), (a9, ar cI 24 Bc), (a10, ar cI 576 Bd), (a11, ar cI 25 Bg), (a12, ar cI 528 Sm), (a13, ar cI 700 Dk), (a14, ar cI 24 Fd)]) H := hP
          have hD : va_D A ([(hM, .inr (6, [.int (iI (mo : Int)), .ref a1, .ref a2, .int (iI (mb : Int)), .ref a3, .int (iI (mr : Int)), .ref a4, .ref a5, .ref a6, .ref a7, .ref a8, .ref a9, .ref a10, .ref a11, .int (iI mw), .ref a12, .int (iI (mt : Int)), .ref a13, .int (iI (mz : Int)), .int (iI (-1)), .int (iI (mf : Int)), .int (iI (ml : Int)), .ref a14])), (a1, ar cI 3 K), (a2, ar cI 3 Ln), (a3, ar cI 24 Cd), (a4, ar cI 24 Rf), (a5, ar cI 24 Ps), (a6, ar cI 24 En), (a7, ar cI 24 Oc), (a8, ar cI 72 Ob), (a9, ar cI 24 Bc), (a10, ar cI 576 Bd), (a11, ar cI 25 Bg), (a12, ar cI 528 Sm), (a13, ar cI 700 Dk), (a14, ar cI 24 Fd)]) := hD
          refine lv_iconst (v := iI 1) hx hb d_Mod_turn_67 rfl ?_
          exact bk_reti (r := 1) hx hb hr iI_nar1 hlk hAe hQ hS (-1) (Or.inl ⟨by omega, rfl, by split <;> omega⟩) hP hD d_Mod_turn_68
      · skip
        refine lv_aload_n hx hb d_Mod_turn_31 rfl (lv_at hl 0 rfl) ?_
        refine va_get (ci := 6) (C := R_Mod) (T := F_Mod) (N := 23) hx hb hT in_Mod hown hK.1 hP 0 rfl rfl 19 (by decide) (hT _ tw_436) (fun _ h => h) rfl d_Mod_turn_32 ?_
        refine lv_bipush (v := iI 8) hx hb d_Mod_turn_35 (by decide) ?_
        refine lv_iload_n hx hb d_Mod_turn_37 rfl (lv_at hl 1 rfl) ?_
        refine bk_mul hx hb d_Mod_turn_38 ?_
        refine lv_iload_n hx hb d_Mod_turn_39 rfl (lv_at hl 2 rfl) ?_
        refine bk_add hx hb d_Mod_turn_40 ?_
        refine bk_icmp_eq (tgt := 46) hx hb d_Mod_turn_41 (by decide) (by omega) (by omega) (fun c41 => ?_) (fun c41 => ?_)
        · skip
          refine lv_aload_n hx hb d_Mod_turn_46 rfl (lv_at hl 0 rfl) ?_
          refine lv_aload_n hx hb d_Mod_turn_47 rfl (lv_at hl 0 rfl) ?_
          refine va_get (ci := 6) (C := R_Mod) (T := F_Mod) (N := 23) hx hb hT in_Mod hown hK.1 hP 0 rfl rfl 19 (by decide) (hT _ tw_436) (fun _ h => h) rfl d_Mod_turn_48 ?_
          refine bk_if_lt (tgt := 58) hx hb d_Mod_turn_51 (by decide) (by omega) (fun c51 => ?_) (fun c51 => ?_)
          · skip
            refine lv_bipush (v := iI 8) hx hb d_Mod_turn_58 (by decide) ?_
            refine lv_iload_n hx hb d_Mod_turn_60 rfl (lv_at hl 1 rfl) ?_
            refine bk_mul hx hb d_Mod_turn_61 ?_
            refine lv_iload_n hx hb d_Mod_turn_62 rfl (lv_at hl 2 rfl) ?_
            refine bk_add hx hb d_Mod_turn_63 ?_
            refine va_put (ci := 6) (v := .int (iI (8 * k + b))) (ty := .int) (C := R_Mod) (T := F_Mod) (N := 23) hx hb hT in_Mod t_Mod to_Mod n_Mod hown hK.1 hP hD hS 0 rfl rfl 19 (by decide) (hT _ tw_436) (fun _ h => h) rfl (by decide +kernel) rfl rfl (ble_lt rfl) d_Mod_turn_64 (fun H locs hP hD hS => ?_)
            have hP : va_P D classes ([(hM, .inr (6, [.int (iI (mo : Int)), .ref a1, .ref a2, .int (iI (mb : Int)), .ref a3, .int (iI (mr : Int)), .ref a4, .ref a5, .ref a6, .ref a7, .ref a8, .ref a9, .ref a10, .ref a11, .int (iI mw), .ref a12, .int (iI (mt : Int)), .ref a13, .int (iI (mz : Int)), .int (iI (8 * k + b)), .int (iI (mf : Int)), .int (iI (ml : Int)), .ref a14])), (a1, ar cI 3 K), (a2, ar cI 3 Ln), (a3, ar cI 24 Cd), (a4, ar cI 24 Rf), (a5, ar cI 24 Ps), (a6, ar cI 24 En), (a7, ar cI 24 Oc), (a8, ar cI 72 Ob), (a9, ar cI 24 Bc), (a10, ar cI 576 Bd), (a11, ar cI 25 Bg), (a12, ar cI 528 Sm), (a13, ar cI 700 Dk), (a14, ar cI 24 Fd)]) H := hP
            have hD : va_D A ([(hM, .inr (6, [.int (iI (mo : Int)), .ref a1, .ref a2, .int (iI (mb : Int)), .ref a3, .int (iI (mr : Int)), .ref a4, .ref a5, .ref a6, .ref a7, .ref a8, .ref a9, .ref a10, .ref a11, .int (iI mw), .ref a12, .int (iI (mt : Int)), .ref a13, .int (iI (mz : Int)), .int (iI (8 * k + b)), .int (iI (mf : Int)), .int (iI (ml : Int)), .ref a14])), (a1, ar cI 3 K), (a2, ar cI 3 Ln), (a3, ar cI 24 Cd), (a4, ar cI 24 Rf), (a5, ar cI 24 Ps), (a6, ar cI 24 En), (a7, ar cI 24 Oc), (a8, ar cI 72 Ob), (a9, ar cI 24 Bc), (a10, ar cI 576 Bd), (a11, ar cI 25 Bg), (a12, ar cI 528 Sm), (a13, ar cI 700 Dk), (a14, ar cI 24 Fd)]) := hD
            refine lv_iconst (v := iI 1) hx hb d_Mod_turn_67 rfl ?_
            exact bk_reti (r := 1) hx hb hr iI_nar1 hlk hAe hQ hS (8 * k + b) (Or.inl ⟨by omega, rfl, by split <;> omega⟩) hP hD d_Mod_turn_68
          · skip
            refine lv_iconst (v := iI (-1)) hx hb d_Mod_turn_54 rfl ?_
            refine lv_goto (tgt := 64) hx hb d_Mod_turn_55 (by decide) ?_
            refine va_put (ci := 6) (v := .int (iI (-1))) (ty := .int) (C := R_Mod) (T := F_Mod) (N := 23) hx hb hT in_Mod t_Mod to_Mod n_Mod hown hK.1 hP hD hS 0 rfl rfl 19 (by decide) (hT _ tw_436) (fun _ h => h) rfl (by decide +kernel) rfl rfl (ble_lt rfl) d_Mod_turn_64 (fun H locs hP hD hS => ?_)
            have hP : va_P D classes ([(hM, .inr (6, [.int (iI (mo : Int)), .ref a1, .ref a2, .int (iI (mb : Int)), .ref a3, .int (iI (mr : Int)), .ref a4, .ref a5, .ref a6, .ref a7, .ref a8, .ref a9, .ref a10, .ref a11, .int (iI mw), .ref a12, .int (iI (mt : Int)), .ref a13, .int (iI (mz : Int)), .int (iI (-1)), .int (iI (mf : Int)), .int (iI (ml : Int)), .ref a14])), (a1, ar cI 3 K), (a2, ar cI 3 Ln), (a3, ar cI 24 Cd), (a4, ar cI 24 Rf), (a5, ar cI 24 Ps), (a6, ar cI 24 En), (a7, ar cI 24 Oc), (a8, ar cI 72 Ob), (a9, ar cI 24 Bc), (a10, ar cI 576 Bd), (a11, ar cI 25 Bg), (a12, ar cI 528 Sm), (a13, ar cI 700 Dk), (a14, ar cI 24 Fd)]) H := hP
            have hD : va_D A ([(hM, .inr (6, [.int (iI (mo : Int)), .ref a1, .ref a2, .int (iI (mb : Int)), .ref a3, .int (iI (mr : Int)), .ref a4, .ref a5, .ref a6, .ref a7, .ref a8, .ref a9, .ref a10, .ref a11, .int (iI mw), .ref a12, .int (iI (mt : Int)), .ref a13, .int (iI (mz : Int)), .int (iI (-1)), .int (iI (mf : Int)), .int (iI (ml : Int)), .ref a14])), (a1, ar cI 3 K), (a2, ar cI 3 Ln), (a3, ar cI 24 Cd), (a4, ar cI 24 Rf), (a5, ar cI 24 Ps), (a6, ar cI 24 En), (a7, ar cI 24 Oc), (a8, ar cI 72 Ob), (a9, ar cI 24 Bc), (a10, ar cI 576 Bd), (a11, ar cI 25 Bg), (a12, ar cI 528 Sm), (a13, ar cI 700 Dk), (a14, ar cI 24 Fd)]) := hD
            refine lv_iconst (v := iI 1) hx hb d_Mod_turn_67 rfl ?_
            exact bk_reti (r := 1) hx hb hr iI_nar1 hlk hAe hQ hS (-1) (Or.inl ⟨by omega, rfl, by split <;> omega⟩) hP hD d_Mod_turn_68
        · skip
          refine lv_iconst (v := iI 0) hx hb d_Mod_turn_44 rfl ?_
          exact bk_reti (r := 0) hx hb hr iI_nar0 hlk hAe hQ hS mu (Or.inr ⟨by omega, rfl, rfl⟩) hP hD d_Mod_turn_45
abbrev rm_Mod_byteAt : Room := { frames := 1, cells := 0, slots := 0, locals := 22 }
set_option maxRecDepth 100000 in
set_option maxHeartbeats 4000000 in
theorem c_Mod_byteAt (l : Launch) (D : va_G) (cI cO : ClassId) (hM a1 a2 a3 a4 a5 a6 a7 a8 a9 a10 a11 a12 a13 a14 : Nat) (K Ln Cd Rf Ps En Oc Ob Bc Bd Bg Sm Dk Fd : Nat → Int) (mo mb mr : Nat) (mw : Int) (mt mz : Nat) (mu : Int) (mf ml : Nat) (k : Int) (hmz : mz ≤ 700) (hmu : -1 ≤ mu ∧ mu < 8 * 700) (hDk : ∀ j, j < mz → 0 ≤ Dk j ∧ Dk j ≤ 255) (hk1 : -2147483648 ≤ k ∧ k < 2147483648) : Mi l y_Mod_byteAt b_Mod_byteAt 2 .int rm_Mod_byteAt D cI cO [.ref hM, .int (iI k)] ([(hM, .inr (6, [.int (iI (mo : Int)), .ref a1, .ref a2, .int (iI (mb : Int)), .ref a3, .int (iI (mr : Int)), .ref a4, .ref a5, .ref a6, .ref a7, .ref a8, .ref a9, .ref a10, .ref a11, .int (iI mw), .ref a12, .int (iI (mt : Int)), .ref a13, .int (iI (mz : Int)), .int (iI mu), .int (iI (mf : Int)), .int (iI (ml : Int)), .ref a14])), (a1, ar cI 3 K), (a2, ar cI 3 Ln), (a3, ar cI 24 Cd), (a4, ar cI 24 Rf), (a5, ar cI 24 Ps), (a6, ar cI 24 En), (a7, ar cI 24 Oc), (a8, ar cI 72 Ob), (a9, ar cI 24 Bc), (a10, ar cI 576 Bd), (a11, ar cI 25 Bg), (a12, ar cI 528 Sm), (a13, ar cI 700 Dk), (a14, ar cI 24 Fd)]) (fun (r : Int) (_ : Unit) => (0 ≤ k ∧ k < (mz : Int) ∧ r = byN Dk mu k) ∨ (¬ (0 ≤ k ∧ k < (mz : Int)) ∧ r = -1)) (fun (_ : Unit) => [(hM, .inr (6, [.int (iI (mo : Int)), .ref a1, .ref a2, .int (iI (mb : Int)), .ref a3, .int (iI (mr : Int)), .ref a4, .ref a5, .ref a6, .ref a7, .ref a8, .ref a9, .ref a10, .ref a11, .int (iI mw), .ref a12, .int (iI (mt : Int)), .ref a13, .int (iI (mz : Int)), .int (iI mu), .int (iI (mf : Int)), .int (iI (ml : Int)), .ref a14])), (a1, ar cI 3 K), (a2, ar cI 3 Ln), (a3, ar cI 24 Cd), (a4, ar cI 24 Rf), (a5, ar cI 24 Ps), (a6, ar cI 24 En), (a7, ar cI 24 Oc), (a8, ar cI 72 Ob), (a9, ar cI 24 Bc), (a10, ar cI 576 Bd), (a11, ar cI 25 Bg), (a12, ar cI 528 Sm), (a13, ar cI 700 Dk), (a14, ar cI 24 Fd)]) 0 0 := by
  refine bk_start (by decide) (ble_le rfl) ?_
  intro p e s m args below meth c A ls Q hx hb hr hml hlk hown hnm hT hK hA hAe hQ hP hD hS hl
  have hown : s.vm.findClass "BinnedReadsModel" = some m.cls := hown
  have hl : lv_has ls 2 [(0, .ref hM), (1, .int (iI k))] := hl
  refine lv_iload_n hx hb d_Mod_byteAt_0 rfl (lv_at hl 1 rfl) ?_
  refine lv_iconst (v := iI 0) hx hb d_Mod_byteAt_1 rfl ?_
  refine lv_aload_n hx hb d_Mod_byteAt_2 rfl (lv_at hl 0 rfl) ?_
  refine va_get (ci := 6) (C := R_Mod) (T := F_Mod) (N := 23) hx hb hT in_Mod hown hK.1 hP 0 rfl rfl 18 (by decide) (hT _ tw_435) (fun _ h => h) rfl d_Mod_byteAt_3 ?_
  refine lv_iconst (v := iI 1) hx hb d_Mod_byteAt_6 rfl ?_
  refine bk_sub hx hb d_Mod_byteAt_7 ?_
  refine bk_fR (ws := [(hM, .inr (6, [.int (iI (mo : Int)), .ref a1, .ref a2, .int (iI (mb : Int)), .ref a3, .int (iI (mr : Int)), .ref a4, .ref a5, .ref a6, .ref a7, .ref a8, .ref a9, .ref a10, .ref a11, .int (iI mw), .ref a12, .int (iI (mt : Int)), .ref a13, .int (iI (mz : Int)), .int (iI mu), .int (iI (mf : Int)), .int (iI (ml : Int)), .ref a14])), (a1, ar cI 3 K), (a2, ar cI 3 Ln), (a3, ar cI 24 Cd), (a4, ar cI 24 Rf), (a5, ar cI 24 Ps), (a6, ar cI 24 En), (a7, ar cI 24 Oc), (a8, ar cI 72 Ob), (a9, ar cI 24 Bc), (a10, ar cI 576 Bd), (a11, ar cI 25 Bg), (a12, ar cI 528 Sm), (a13, ar cI 700 Dk), (a14, ar cI 24 Fd)]) (Wc := []) (fun _ => rfl) (bk_hs (X := [(hM, .inr (6, [.int (iI (mo : Int)), .ref a1, .ref a2, .int (iI (mb : Int)), .ref a3, .int (iI (mr : Int)), .ref a4, .ref a5, .ref a6, .ref a7, .ref a8, .ref a9, .ref a10, .ref a11, .int (iI mw), .ref a12, .int (iI (mt : Int)), .ref a13, .int (iI (mz : Int)), .int (iI mu), .int (iI (mf : Int)), .int (iI (ml : Int)), .ref a14])), (a1, ar cI 3 K), (a2, ar cI 3 Ln), (a3, ar cI 24 Cd), (a4, ar cI 24 Rf), (a5, ar cI 24 Ps), (a6, ar cI 24 En), (a7, ar cI 24 Oc), (a8, ar cI 72 Ob), (a9, ar cI 24 Bc), (a10, ar cI 576 Bd), (a11, ar cI 25 Bg), (a12, ar cI 528 Sm), (a13, ar cI 700 Dk), (a14, ar cI 24 Fd)]) (pl := []) (Wc := []) [] rfl) hP hD hS hA (bk_rS (rest := []) hx hb hml hown hT hK (c_Mod_within l D cI cO k 0 ((mz : Int) - 1) (by omega) (by omega) (by omega)) (bk_subP (X := [(hM, .inr (6, [.int (iI (mo : Int)), .ref a1, .ref a2, .int (iI (mb : Int)), .ref a3, .int (iI (mr : Int)), .ref a4, .ref a5, .ref a6, .ref a7, .ref a8, .ref a9, .ref a10, .ref a11, .int (iI mw), .ref a12, .int (iI (mt : Int)), .ref a13, .int (iI (mz : Int)), .int (iI mu), .int (iI (mf : Int)), .int (iI (ml : Int)), .ref a14])), (a1, ar cI 3 K), (a2, ar cI 3 Ln), (a3, ar cI 24 Cd), (a4, ar cI 24 Rf), (a5, ar cI 24 Ps), (a6, ar cI 24 En), (a7, ar cI 24 Oc), (a8, ar cI 72 Ob), (a9, ar cI 24 Bc), (a10, ar cI 576 Bd), (a11, ar cI 25 Bg), (a12, ar cI 528 Sm), (a13, ar cI 700 Dk), (a14, ar cI 24 Fd)]) (pl := []) (Wc := []) hP [] rfl) (bk_subD (X := [(hM, .inr (6, [.int (iI (mo : Int)), .ref a1, .ref a2, .int (iI (mb : Int)), .ref a3, .int (iI (mr : Int)), .ref a4, .ref a5, .ref a6, .ref a7, .ref a8, .ref a9, .ref a10, .ref a11, .int (iI mw), .ref a12, .int (iI (mt : Int)), .ref a13, .int (iI (mz : Int)), .int (iI mu), .int (iI (mf : Int)), .int (iI (ml : Int)), .ref a14])), (a1, ar cI 3 K), (a2, ar cI 3 Ln), (a3, ar cI 24 Cd), (a4, ar cI 24 Rf), (a5, ar cI 24 Ps), (a6, ar cI 24 En), (a7, ar cI 24 Oc), (a8, ar cI 72 Ob), (a9, ar cI 24 Bc), (a10, ar cI 576 Bd), (a11, ar cI 25 Bg), (a12, ar cI 528 Sm), (a13, ar cI 700 Dk), (a14, ar cI 24 Fd)]) (pl := []) (Wc := []) hD [] (by decide) rfl) tw_491 tw_492 tw_7 tw_493 hd_Mod_within ⟨rfl, rfl⟩ (by decide) hl.1 rfl (ble_le rfl) d_Mod_byteAt_8 (by decide)) (fun r8 u H locs hq hP hS => ?_)
  have hq : ((0 ≤ k ∧ k ≤ ((mz : Int) - 1)) ∧ r8 = 1) ∨ (¬ (0 ≤ k ∧ k ≤ ((mz : Int) - 1)) ∧ r8 = 0) := hq
  refine bk_if_ne (tgt := 16) hx hb d_Mod_byteAt_11 (by decide) (by omega) (fun c11 => ?_) (fun c11 => ?_)
  · skip
    have hd0 := hDk k.toNat (by omega)
    refine lv_aload_n hx hb d_Mod_byteAt_16 rfl (lv_at hl 0 rfl) ?_
    refine va_get (ci := 6) (C := R_Mod) (T := F_Mod) (N := 23) hx hb hT in_Mod hown hK.1 hP 0 rfl rfl 19 (by decide) (hT _ tw_436) (fun _ h => h) rfl d_Mod_byteAt_17 ?_
    refine bk_if_lt (tgt := 53) hx hb d_Mod_byteAt_20 (by decide) (by omega) (fun c20 => ?_) (fun c20 => ?_)
    · skip
      refine lv_aload_n hx hb d_Mod_byteAt_53 rfl (lv_at hl 0 rfl) ?_
      refine va_get (ci := 6) (C := R_Mod) (T := F_Mod) (N := 23) hx hb hT in_Mod hown hK.1 hP 0 rfl rfl 17 (by decide) (hT _ tw_434) (fun _ h => h) rfl d_Mod_byteAt_54 ?_
      refine lv_iload_n hx hb d_Mod_byteAt_57 rfl (lv_at hl 1 rfl) ?_
      refine bk_iald hx hb hK.1 hP 13 0 rfl rfl k.toNat (by omega) (by decide) d_Mod_byteAt_58 ?_
      refine bk_top (y := iI (byN Dk mu k)) (congrArg iI (byN_no (by omega)).symm) ?_
      exact bk_reti (r := byN Dk mu k) hx hb hr rfl hlk hAe hQ hS () (Or.inl ⟨by omega, by omega, rfl⟩) hP hD d_Mod_byteAt_59
    · skip
      refine lv_aload_n hx hb d_Mod_byteAt_23 rfl (lv_at hl 0 rfl) ?_
      refine va_get (ci := 6) (C := R_Mod) (T := F_Mod) (N := 23) hx hb hT in_Mod hown hK.1 hP 0 rfl rfl 19 (by decide) (hT _ tw_436) (fun _ h => h) rfl d_Mod_byteAt_24 ?_
      refine lv_bipush (v := iI 8) hx hb d_Mod_byteAt_27 (by decide) ?_
      refine bk_div hx hb d_Mod_byteAt_29 (by omega) (by omega) ?_
      refine lv_iload_n hx hb d_Mod_byteAt_30 rfl (lv_at hl 1 rfl) ?_
      refine bk_icmp_ne (tgt := 53) hx hb d_Mod_byteAt_31 (by decide) (by omega) (by omega) (fun c31 => ?_) (fun c31 => ?_)
      · skip
        refine lv_aload_n hx hb d_Mod_byteAt_53 rfl (lv_at hl 0 rfl) ?_
        refine va_get (ci := 6) (C := R_Mod) (T := F_Mod) (N := 23) hx hb hT in_Mod hown hK.1 hP 0 rfl rfl 17 (by decide) (hT _ tw_434) (fun _ h => h) rfl d_Mod_byteAt_54 ?_
        refine lv_iload_n hx hb d_Mod_byteAt_57 rfl (lv_at hl 1 rfl) ?_
        refine bk_iald hx hb hK.1 hP 13 0 rfl rfl k.toNat (by omega) (by decide) d_Mod_byteAt_58 ?_
        refine bk_top (y := iI (byN Dk mu k)) (congrArg iI (byN_no (by omega)).symm) ?_
        exact bk_reti (r := byN Dk mu k) hx hb hr rfl hlk hAe hQ hS () (Or.inl ⟨by omega, by omega, rfl⟩) hP hD d_Mod_byteAt_59
      · skip
        refine lv_aload_n hx hb d_Mod_byteAt_34 rfl (lv_at hl 0 rfl) ?_
        refine va_get (ci := 6) (C := R_Mod) (T := F_Mod) (N := 23) hx hb hT in_Mod hown hK.1 hP 0 rfl rfl 17 (by decide) (hT _ tw_434) (fun _ h => h) rfl d_Mod_byteAt_35 ?_
        refine lv_iload_n hx hb d_Mod_byteAt_38 rfl (lv_at hl 1 rfl) ?_
        refine bk_iald hx hb hK.1 hP 13 0 rfl rfl k.toNat (by omega) (by decide) d_Mod_byteAt_39 ?_
        refine lv_iconst (v := iI 1) hx hb d_Mod_byteAt_40 rfl ?_
        refine lv_aload_n hx hb d_Mod_byteAt_41 rfl (lv_at hl 0 rfl) ?_
        refine va_get (ci := 6) (C := R_Mod) (T := F_Mod) (N := 23) hx hb hT in_Mod hown hK.1 hP 0 rfl rfl 19 (by decide) (hT _ tw_436) (fun _ h => h) rfl d_Mod_byteAt_42 ?_
        refine lv_bipush (v := iI 8) hx hb d_Mod_byteAt_45 (by decide) ?_
        refine bk_rem hx hb d_Mod_byteAt_47 (by omega) (by omega) ?_
        refine lv_ishl hx hb d_Mod_byteAt_48 ?_
        refine bk_top (y := iI ((2 ^ (mu % 8).toNat : Nat) : Int)) (iI_shl1 (by omega)) ?_
        refine lv_ixor hx hb d_Mod_byteAt_49 ?_
        refine bk_top (y := iI (byN Dk mu k)) (by rw [iI_xorVV hd0.1 (Int.natCast_nonneg _)]; exact congrArg iI (byN_yes (by omega)).symm) ?_
        refine lv_goto (tgt := 59) hx hb d_Mod_byteAt_50 (by decide) ?_
        exact bk_reti (r := byN Dk mu k) hx hb hr rfl hlk hAe hQ hS () (Or.inl ⟨by omega, by omega, rfl⟩) hP hD d_Mod_byteAt_59
  · skip
    refine lv_iconst (v := iI (-1)) hx hb d_Mod_byteAt_14 rfl ?_
    exact bk_reti (r := (-1)) hx hb hr rfl hlk hAe hQ hS () (Or.inr ⟨by omega, rfl⟩) hP hD d_Mod_byteAt_15
abbrev rm_Mod_check : Room := { frames := 0, cells := 0, slots := 0, locals := 0 }
set_option maxRecDepth 100000 in
set_option maxHeartbeats 4000000 in
theorem c_Mod_check (l : Launch) (D : va_G) (cI cO : ClassId) (hM a1 a2 a3 a4 a5 a6 a7 a8 a9 a10 a11 a12 a13 a14 : Nat) (K Ln Cd Rf Ps En Oc Ob Bc Bd Bg Sm Dk Fd : Nat → Int) (mo mb mr : Nat) (mw : Int) (mt mz : Nat) (mu : Int) (mf ml : Nat) (hmw : 0 ≤ mw ∧ mw ≤ 1) (hmu : -1 ≤ mu ∧ mu < 8 * 700) (hmr : mr ≤ 24) : Mi l y_Mod_check b_Mod_check 1 .int rm_Mod_check D cI cO [.ref hM] ([(hM, .inr (6, [.int (iI (mo : Int)), .ref a1, .ref a2, .int (iI (mb : Int)), .ref a3, .int (iI (mr : Int)), .ref a4, .ref a5, .ref a6, .ref a7, .ref a8, .ref a9, .ref a10, .ref a11, .int (iI mw), .ref a12, .int (iI (mt : Int)), .ref a13, .int (iI (mz : Int)), .int (iI mu), .int (iI (mf : Int)), .int (iI (ml : Int)), .ref a14])), (a1, ar cI 3 K), (a2, ar cI 3 Ln), (a3, ar cI 24 Cd), (a4, ar cI 24 Rf), (a5, ar cI 24 Ps), (a6, ar cI 24 En), (a7, ar cI 24 Oc), (a8, ar cI 72 Ob), (a9, ar cI 24 Bc), (a10, ar cI 576 Bd), (a11, ar cI 25 Bg), (a12, ar cI 528 Sm), (a13, ar cI 700 Dk), (a14, ar cI 24 Fd)]) (fun (r : Int) (_ : Unit) => (mw = 0 ∧ r = -1) ∨ (mw = 1 ∧ 0 ≤ mu ∧ r = -2) ∨ (mw = 1 ∧ mu < 0 ∧ r = (mr : Int))) (fun (_ : Unit) => [(hM, .inr (6, [.int (iI (mo : Int)), .ref a1, .ref a2, .int (iI (mb : Int)), .ref a3, .int (iI (mr : Int)), .ref a4, .ref a5, .ref a6, .ref a7, .ref a8, .ref a9, .ref a10, .ref a11, .int (iI mw), .ref a12, .int (iI (mt : Int)), .ref a13, .int (iI (mz : Int)), .int (iI mu), .int (iI (mf : Int)), .int (iI (ml : Int)), .ref a14])), (a1, ar cI 3 K), (a2, ar cI 3 Ln), (a3, ar cI 24 Cd), (a4, ar cI 24 Rf), (a5, ar cI 24 Ps), (a6, ar cI 24 En), (a7, ar cI 24 Oc), (a8, ar cI 72 Ob), (a9, ar cI 24 Bc), (a10, ar cI 576 Bd), (a11, ar cI 25 Bg), (a12, ar cI 528 Sm), (a13, ar cI 700 Dk), (a14, ar cI 24 Fd)]) 0 0 := by
  refine bk_start (by decide) (ble_le rfl) ?_
  intro p e s m args below meth c A ls Q hx hb hr hml hlk hown hnm hT hK hA hAe hQ hP hD hS hl
  have hown : s.vm.findClass "BinnedReadsModel" = some m.cls := hown
  have hl : lv_has ls 1 [(0, .ref hM)] := hl
  refine lv_aload_n hx hb d_Mod_check_0 rfl (lv_at hl 0 rfl) ?_
  refine va_get (ci := 6) (C := R_Mod) (T := F_Mod) (N := 23) hx hb hT in_Mod hown hK.1 hP 0 rfl rfl 14 (by decide) (hT _ tw_431) (fun _ h => h) rfl d_Mod_check_1 ?_
  refine bk_if_ne (tgt := 11) hx hb d_Mod_check_4 (by decide) (by omega) (fun c4 => ?_) (fun c4 => ?_)
  · skip
    refine lv_aload_n hx hb d_Mod_check_11 rfl (lv_at hl 0 rfl) ?_
    refine va_get (ci := 6) (C := R_Mod) (T := F_Mod) (N := 23) hx hb hT in_Mod hown hK.1 hP 0 rfl rfl 19 (by decide) (hT _ tw_436) (fun _ h => h) rfl d_Mod_check_12 ?_
    refine bk_if_lt (tgt := 23) hx hb d_Mod_check_15 (by decide) (by omega) (fun c15 => ?_) (fun c15 => ?_)
    · skip
      refine lv_aload_n hx hb d_Mod_check_23 rfl (lv_at hl 0 rfl) ?_
      refine va_get (ci := 6) (C := R_Mod) (T := F_Mod) (N := 23) hx hb hT in_Mod hown hK.1 hP 0 rfl rfl 5 (by decide) (hT _ tw_422) (fun _ h => h) rfl d_Mod_check_24 ?_
      exact bk_reti (r := (mr : Int)) hx hb hr rfl hlk hAe hQ hS () (by omega) hP hD d_Mod_check_27
    · skip
      refine lv_bipush (v := iI (-2)) hx hb d_Mod_check_18 (by decide) ?_
      refine lv_goto (tgt := 27) hx hb d_Mod_check_20 (by decide) ?_
      exact bk_reti (r := (-2)) hx hb hr rfl hlk hAe hQ hS () (by omega) hP hD d_Mod_check_27
  · skip
    refine lv_iconst (v := iI (-1)) hx hb d_Mod_check_7 rfl ?_
    refine lv_goto (tgt := 27) hx hb d_Mod_check_8 (by decide) ?_
    exact bk_reti (r := (-1)) hx hb hr rfl hlk hAe hQ hS () (by omega) hP hD d_Mod_check_27
abbrev rm_Mod_touches : Room := { frames := 0, cells := 0, slots := 0, locals := 0 }
set_option maxRecDepth 100000 in
set_option maxHeartbeats 4000000 in
theorem c_Mod_touches (l : Launch) (D : va_G) (cI cO : ClassId) (a b d : Int) (ha : 0 ≤ a ∧ a ≤ 72) (hb1 : 0 ≤ b ∧ b ≤ 4096) (hd1 : 0 ≤ d ∧ d ≤ 4096) : Mi l y_Mod_touches b_Mod_touches 5 .boolean rm_Mod_touches D cI cO [.int (iI a), .int (iI b), .int (iI d)] ([]) (fun (r : Int) (_ : Unit) => ((binB a < d ∧ b < binE a) ∧ r = 1) ∨ (¬ (binB a < d ∧ b < binE a) ∧ r = 0)) (fun (_ : Unit) => []) 0 0 := by
  refine bk_start (by decide) (ble_le rfl) ?_
  intro p e s m args below meth c A ls Q hx hb hr hml hlk hown hnm hT hK hA hAe hQ hP hD hS hl
  have hown : s.vm.findClass "BinnedReadsModel" = some m.cls := hown
  have hl : lv_has ls 5 [(0, .int (iI a)), (1, .int (iI b)), (2, .int (iI d))] := hl
  have hbe := bin_facts a
  refine lv_iload_n hx hb d_Mod_touches_0 rfl (lv_at hl 0 rfl) ?_
  refine bk_if_ne (tgt := 10) hx hb d_Mod_touches_1 (by decide) (by omega) (fun c1 => ?_) (fun c1 => ?_)
  · skip
    refine lv_iload_n hx hb d_Mod_touches_10 rfl (lv_at hl 0 rfl) ?_
    refine lv_bipush (v := iI 9) hx hb d_Mod_touches_11 (by decide) ?_
    refine bk_icmp_ge (tgt := 22) hx hb d_Mod_touches_13 (by decide) (by omega) (by omega) (fun c13 => ?_) (fun c13 => ?_)
    · skip
      refine lv_bipush (v := iI 64) hx hb d_Mod_touches_22 (by decide) ?_
      refine lv_istore_n hx hb d_Mod_touches_24 rfl hl (by decide) rfl (fun ls hl => ?_)
      have hl : lv_has ls 5 [(3, .int (iI 64)), (0, .int (iI a)), (1, .int (iI b)), (2, .int (iI d))] := hl
      refine lv_iload_n hx hb d_Mod_touches_25 rfl (lv_at hl 1 rfl) ?_
      refine bk_if_ne (tgt := 33) hx hb d_Mod_touches_26 (by decide) (by omega) (fun c26 => ?_) (fun c26 => ?_)
      · skip
        refine lv_iload_n hx hb d_Mod_touches_33 rfl (lv_at hl 1 rfl) ?_
        refine lv_bipush (v := iI 9) hx hb d_Mod_touches_34 (by decide) ?_
        refine bk_icmp_ge (tgt := 49) hx hb d_Mod_touches_36 (by decide) (by omega) (by omega) (fun c36 => ?_) (fun c36 => ?_)
        · skip
          refine lv_bipush (v := iI 64) hx hb d_Mod_touches_49 (by decide) ?_
          refine lv_iload_n hx hb d_Mod_touches_51 rfl (lv_at hl 1 rfl) ?_
          refine lv_bipush (v := iI 9) hx hb d_Mod_touches_52 (by decide) ?_
          refine bk_sub hx hb d_Mod_touches_54 ?_
          refine bk_mul hx hb d_Mod_touches_55 ?_
          refine lv_istore hx hb d_Mod_touches_56 hl (by decide) rfl (fun ls hl => ?_)
          have hl : lv_has ls 5 [(4, .int (iI (64 * (a - 9)))), (3, .int (iI 64)), (0, .int (iI a)), (1, .int (iI b)), (2, .int (iI d))] := hl
          refine lv_iload hx hb d_Mod_touches_58 (lv_at hl 0 rfl) ?_
          refine lv_iload_n hx hb d_Mod_touches_60 rfl (lv_at hl 4 rfl) ?_
          refine bk_icmp_ge (tgt := 76) hx hb d_Mod_touches_61 (by decide) (by omega) (by omega) (fun c61 => ?_) (fun c61 => ?_)
          · skip
            refine lv_iconst (v := iI 0) hx hb d_Mod_touches_76 rfl ?_
            exact bk_reti (r := 0) hx hb hr iI_nar0 hlk hAe hQ hS () (by omega) hP hD d_Mod_touches_77
          · skip
            refine lv_iload_n hx hb d_Mod_touches_64 rfl (lv_at hl 3 rfl) ?_
            refine lv_iload hx hb d_Mod_touches_65 (lv_at hl 0 rfl) ?_
            refine lv_iload_n hx hb d_Mod_touches_67 rfl (lv_at hl 1 rfl) ?_
            refine bk_add hx hb d_Mod_touches_68 ?_
            refine bk_icmp_ge (tgt := 76) hx hb d_Mod_touches_69 (by decide) (by omega) (by omega) (fun c69 => ?_) (fun c69 => ?_)
            · skip
              refine lv_iconst (v := iI 0) hx hb d_Mod_touches_76 rfl ?_
              exact bk_reti (r := 0) hx hb hr iI_nar0 hlk hAe hQ hS () (by omega) hP hD d_Mod_touches_77
            · skip
              refine lv_iconst (v := iI 1) hx hb d_Mod_touches_72 rfl ?_
              refine lv_goto (tgt := 77) hx hb d_Mod_touches_73 (by decide) ?_
              exact bk_reti (r := 1) hx hb hr iI_nar1 hlk hAe hQ hS () (by omega) hP hD d_Mod_touches_77
        · skip
          refine lv_sipush (v := iI 512) hx hb d_Mod_touches_39 (by decide) ?_
          refine lv_iload_n hx hb d_Mod_touches_42 rfl (lv_at hl 1 rfl) ?_
          refine lv_iconst (v := iI 1) hx hb d_Mod_touches_43 rfl ?_
          refine bk_sub hx hb d_Mod_touches_44 ?_
          refine bk_mul hx hb d_Mod_touches_45 ?_
          refine lv_goto (tgt := 56) hx hb d_Mod_touches_46 (by decide) ?_
          refine lv_istore hx hb d_Mod_touches_56 hl (by decide) rfl (fun ls hl => ?_)
          have hl : lv_has ls 5 [(4, .int (iI (512 * (a - 1)))), (3, .int (iI 64)), (0, .int (iI a)), (1, .int (iI b)), (2, .int (iI d))] := hl
          refine lv_iload hx hb d_Mod_touches_58 (lv_at hl 0 rfl) ?_
          refine lv_iload_n hx hb d_Mod_touches_60 rfl (lv_at hl 4 rfl) ?_
          refine bk_icmp_ge (tgt := 76) hx hb d_Mod_touches_61 (by decide) (by omega) (by omega) (fun c61 => ?_) (fun c61 => ?_)
          · skip
            refine lv_iconst (v := iI 0) hx hb d_Mod_touches_76 rfl ?_
            exact bk_reti (r := 0) hx hb hr iI_nar0 hlk hAe hQ hS () (by omega) hP hD d_Mod_touches_77
          · skip
            refine lv_iload_n hx hb d_Mod_touches_64 rfl (lv_at hl 3 rfl) ?_
            refine lv_iload hx hb d_Mod_touches_65 (lv_at hl 0 rfl) ?_
            refine lv_iload_n hx hb d_Mod_touches_67 rfl (lv_at hl 1 rfl) ?_
            refine bk_add hx hb d_Mod_touches_68 ?_
            refine bk_icmp_ge (tgt := 76) hx hb d_Mod_touches_69 (by decide) (by omega) (by omega) (fun c69 => ?_) (fun c69 => ?_)
            · skip
              refine lv_iconst (v := iI 0) hx hb d_Mod_touches_76 rfl ?_
              exact bk_reti (r := 0) hx hb hr iI_nar0 hlk hAe hQ hS () (by omega) hP hD d_Mod_touches_77
            · skip
              refine lv_iconst (v := iI 1) hx hb d_Mod_touches_72 rfl ?_
              refine lv_goto (tgt := 77) hx hb d_Mod_touches_73 (by decide) ?_
              exact bk_reti (r := 1) hx hb hr iI_nar1 hlk hAe hQ hS () (by omega) hP hD d_Mod_touches_77
      · skip
        refine lv_iconst (v := iI 0) hx hb d_Mod_touches_29 rfl ?_
        refine lv_goto (tgt := 56) hx hb d_Mod_touches_30 (by decide) ?_
        refine lv_istore hx hb d_Mod_touches_56 hl (by decide) rfl (fun ls hl => ?_)
        have hl : lv_has ls 5 [(4, .int (iI 0)), (3, .int (iI 64)), (0, .int (iI a)), (1, .int (iI b)), (2, .int (iI d))] := hl
        refine lv_iload hx hb d_Mod_touches_58 (lv_at hl 0 rfl) ?_
        refine lv_iload_n hx hb d_Mod_touches_60 rfl (lv_at hl 4 rfl) ?_
        refine bk_icmp_ge (tgt := 76) hx hb d_Mod_touches_61 (by decide) (by omega) (by omega) (fun c61 => ?_) (fun c61 => ?_)
        · skip
          refine lv_iconst (v := iI 0) hx hb d_Mod_touches_76 rfl ?_
          exact bk_reti (r := 0) hx hb hr iI_nar0 hlk hAe hQ hS () (by omega) hP hD d_Mod_touches_77
        · skip
          refine lv_iload_n hx hb d_Mod_touches_64 rfl (lv_at hl 3 rfl) ?_
          refine lv_iload hx hb d_Mod_touches_65 (lv_at hl 0 rfl) ?_
          refine lv_iload_n hx hb d_Mod_touches_67 rfl (lv_at hl 1 rfl) ?_
          refine bk_add hx hb d_Mod_touches_68 ?_
          refine bk_top (y := iI ((0 + 64 : Nat) : Int)) (congrArg iI (by omega)) ?_
          refine bk_icmp_ge (tgt := 76) hx hb d_Mod_touches_69 (by decide) (by omega) (by omega) (fun c69 => ?_) (fun c69 => ?_)
          · skip
            refine lv_iconst (v := iI 0) hx hb d_Mod_touches_76 rfl ?_
            exact bk_reti (r := 0) hx hb hr iI_nar0 hlk hAe hQ hS () (by omega) hP hD d_Mod_touches_77
          · skip
            refine lv_iconst (v := iI 1) hx hb d_Mod_touches_72 rfl ?_
            refine lv_goto (tgt := 77) hx hb d_Mod_touches_73 (by decide) ?_
            exact bk_reti (r := 1) hx hb hr iI_nar1 hlk hAe hQ hS () (by omega) hP hD d_Mod_touches_77
    · skip
      refine lv_sipush (v := iI 512) hx hb d_Mod_touches_16 (by decide) ?_
      refine lv_goto (tgt := 24) hx hb d_Mod_touches_19 (by decide) ?_
      refine lv_istore_n hx hb d_Mod_touches_24 rfl hl (by decide) rfl (fun ls hl => ?_)
      have hl : lv_has ls 5 [(3, .int (iI 512)), (0, .int (iI a)), (1, .int (iI b)), (2, .int (iI d))] := hl
      refine lv_iload_n hx hb d_Mod_touches_25 rfl (lv_at hl 1 rfl) ?_
      refine bk_if_ne (tgt := 33) hx hb d_Mod_touches_26 (by decide) (by omega) (fun c26 => ?_) (fun c26 => ?_)
      · skip
        refine lv_iload_n hx hb d_Mod_touches_33 rfl (lv_at hl 1 rfl) ?_
        refine lv_bipush (v := iI 9) hx hb d_Mod_touches_34 (by decide) ?_
        refine bk_icmp_ge (tgt := 49) hx hb d_Mod_touches_36 (by decide) (by omega) (by omega) (fun c36 => ?_) (fun c36 => ?_)
        · skip
          refine lv_bipush (v := iI 64) hx hb d_Mod_touches_49 (by decide) ?_
          refine lv_iload_n hx hb d_Mod_touches_51 rfl (lv_at hl 1 rfl) ?_
          refine lv_bipush (v := iI 9) hx hb d_Mod_touches_52 (by decide) ?_
          refine bk_sub hx hb d_Mod_touches_54 ?_
          refine bk_mul hx hb d_Mod_touches_55 ?_
          refine lv_istore hx hb d_Mod_touches_56 hl (by decide) rfl (fun ls hl => ?_)
          have hl : lv_has ls 5 [(4, .int (iI (64 * (a - 9)))), (3, .int (iI 512)), (0, .int (iI a)), (1, .int (iI b)), (2, .int (iI d))] := hl
          refine lv_iload hx hb d_Mod_touches_58 (lv_at hl 0 rfl) ?_
          refine lv_iload_n hx hb d_Mod_touches_60 rfl (lv_at hl 4 rfl) ?_
          refine bk_icmp_ge (tgt := 76) hx hb d_Mod_touches_61 (by decide) (by omega) (by omega) (fun c61 => ?_) (fun c61 => ?_)
          · skip
            refine lv_iconst (v := iI 0) hx hb d_Mod_touches_76 rfl ?_
            exact bk_reti (r := 0) hx hb hr iI_nar0 hlk hAe hQ hS () (by omega) hP hD d_Mod_touches_77
          · skip
            refine lv_iload_n hx hb d_Mod_touches_64 rfl (lv_at hl 3 rfl) ?_
            refine lv_iload hx hb d_Mod_touches_65 (lv_at hl 0 rfl) ?_
            refine lv_iload_n hx hb d_Mod_touches_67 rfl (lv_at hl 1 rfl) ?_
            refine bk_add hx hb d_Mod_touches_68 ?_
            refine bk_icmp_ge (tgt := 76) hx hb d_Mod_touches_69 (by decide) (by omega) (by omega) (fun c69 => ?_) (fun c69 => ?_)
            · skip
              refine lv_iconst (v := iI 0) hx hb d_Mod_touches_76 rfl ?_
              exact bk_reti (r := 0) hx hb hr iI_nar0 hlk hAe hQ hS () (by omega) hP hD d_Mod_touches_77
            · skip
              refine lv_iconst (v := iI 1) hx hb d_Mod_touches_72 rfl ?_
              refine lv_goto (tgt := 77) hx hb d_Mod_touches_73 (by decide) ?_
              exact bk_reti (r := 1) hx hb hr iI_nar1 hlk hAe hQ hS () (by omega) hP hD d_Mod_touches_77
        · skip
          refine lv_sipush (v := iI 512) hx hb d_Mod_touches_39 (by decide) ?_
          refine lv_iload_n hx hb d_Mod_touches_42 rfl (lv_at hl 1 rfl) ?_
          refine lv_iconst (v := iI 1) hx hb d_Mod_touches_43 rfl ?_
          refine bk_sub hx hb d_Mod_touches_44 ?_
          refine bk_mul hx hb d_Mod_touches_45 ?_
          refine lv_goto (tgt := 56) hx hb d_Mod_touches_46 (by decide) ?_
          refine lv_istore hx hb d_Mod_touches_56 hl (by decide) rfl (fun ls hl => ?_)
          have hl : lv_has ls 5 [(4, .int (iI (512 * (a - 1)))), (3, .int (iI 512)), (0, .int (iI a)), (1, .int (iI b)), (2, .int (iI d))] := hl
          refine lv_iload hx hb d_Mod_touches_58 (lv_at hl 0 rfl) ?_
          refine lv_iload_n hx hb d_Mod_touches_60 rfl (lv_at hl 4 rfl) ?_
          refine bk_icmp_ge (tgt := 76) hx hb d_Mod_touches_61 (by decide) (by omega) (by omega) (fun c61 => ?_) (fun c61 => ?_)
          · skip
            refine lv_iconst (v := iI 0) hx hb d_Mod_touches_76 rfl ?_
            exact bk_reti (r := 0) hx hb hr iI_nar0 hlk hAe hQ hS () (by omega) hP hD d_Mod_touches_77
          · skip
            refine lv_iload_n hx hb d_Mod_touches_64 rfl (lv_at hl 3 rfl) ?_
            refine lv_iload hx hb d_Mod_touches_65 (lv_at hl 0 rfl) ?_
            refine lv_iload_n hx hb d_Mod_touches_67 rfl (lv_at hl 1 rfl) ?_
            refine bk_add hx hb d_Mod_touches_68 ?_
            refine bk_icmp_ge (tgt := 76) hx hb d_Mod_touches_69 (by decide) (by omega) (by omega) (fun c69 => ?_) (fun c69 => ?_)
            · skip
              refine lv_iconst (v := iI 0) hx hb d_Mod_touches_76 rfl ?_
              exact bk_reti (r := 0) hx hb hr iI_nar0 hlk hAe hQ hS () (by omega) hP hD d_Mod_touches_77
            · skip
              refine lv_iconst (v := iI 1) hx hb d_Mod_touches_72 rfl ?_
              refine lv_goto (tgt := 77) hx hb d_Mod_touches_73 (by decide) ?_
              exact bk_reti (r := 1) hx hb hr iI_nar1 hlk hAe hQ hS () (by omega) hP hD d_Mod_touches_77
      · skip
        refine lv_iconst (v := iI 0) hx hb d_Mod_touches_29 rfl ?_
        refine lv_goto (tgt := 56) hx hb d_Mod_touches_30 (by decide) ?_
        refine lv_istore hx hb d_Mod_touches_56 hl (by decide) rfl (fun ls hl => ?_)
        have hl : lv_has ls 5 [(4, .int (iI 0)), (3, .int (iI 512)), (0, .int (iI a)), (1, .int (iI b)), (2, .int (iI d))] := hl
        refine lv_iload hx hb d_Mod_touches_58 (lv_at hl 0 rfl) ?_
        refine lv_iload_n hx hb d_Mod_touches_60 rfl (lv_at hl 4 rfl) ?_
        refine bk_icmp_ge (tgt := 76) hx hb d_Mod_touches_61 (by decide) (by omega) (by omega) (fun c61 => ?_) (fun c61 => ?_)
        · skip
          refine lv_iconst (v := iI 0) hx hb d_Mod_touches_76 rfl ?_
          exact bk_reti (r := 0) hx hb hr iI_nar0 hlk hAe hQ hS () (by omega) hP hD d_Mod_touches_77
        · skip
          refine lv_iload_n hx hb d_Mod_touches_64 rfl (lv_at hl 3 rfl) ?_
          refine lv_iload hx hb d_Mod_touches_65 (lv_at hl 0 rfl) ?_
          refine lv_iload_n hx hb d_Mod_touches_67 rfl (lv_at hl 1 rfl) ?_
          refine bk_add hx hb d_Mod_touches_68 ?_
          refine bk_top (y := iI ((0 + 512 : Nat) : Int)) (congrArg iI (by omega)) ?_
          refine bk_icmp_ge (tgt := 76) hx hb d_Mod_touches_69 (by decide) (by omega) (by omega) (fun c69 => ?_) (fun c69 => ?_)
          · skip
            refine lv_iconst (v := iI 0) hx hb d_Mod_touches_76 rfl ?_
            exact bk_reti (r := 0) hx hb hr iI_nar0 hlk hAe hQ hS () (by omega) hP hD d_Mod_touches_77
          · skip
            refine lv_iconst (v := iI 1) hx hb d_Mod_touches_72 rfl ?_
            refine lv_goto (tgt := 77) hx hb d_Mod_touches_73 (by decide) ?_
            exact bk_reti (r := 1) hx hb hr iI_nar1 hlk hAe hQ hS () (by omega) hP hD d_Mod_touches_77
  · skip
    refine lv_sipush (v := iI 4096) hx hb d_Mod_touches_4 (by decide) ?_
    refine lv_goto (tgt := 24) hx hb d_Mod_touches_7 (by decide) ?_
    refine lv_istore_n hx hb d_Mod_touches_24 rfl hl (by decide) rfl (fun ls hl => ?_)
    have hl : lv_has ls 5 [(3, .int (iI 4096)), (0, .int (iI a)), (1, .int (iI b)), (2, .int (iI d))] := hl
    refine lv_iload_n hx hb d_Mod_touches_25 rfl (lv_at hl 1 rfl) ?_
    refine bk_if_ne (tgt := 33) hx hb d_Mod_touches_26 (by decide) (by omega) (fun c26 => ?_) (fun c26 => ?_)
    · skip
      refine lv_iload_n hx hb d_Mod_touches_33 rfl (lv_at hl 1 rfl) ?_
      refine lv_bipush (v := iI 9) hx hb d_Mod_touches_34 (by decide) ?_
      refine bk_icmp_ge (tgt := 49) hx hb d_Mod_touches_36 (by decide) (by omega) (by omega) (fun c36 => ?_) (fun c36 => ?_)
      · skip
        refine lv_bipush (v := iI 64) hx hb d_Mod_touches_49 (by decide) ?_
        refine lv_iload_n hx hb d_Mod_touches_51 rfl (lv_at hl 1 rfl) ?_
        refine lv_bipush (v := iI 9) hx hb d_Mod_touches_52 (by decide) ?_
        refine bk_sub hx hb d_Mod_touches_54 ?_
        refine bk_mul hx hb d_Mod_touches_55 ?_
        refine lv_istore hx hb d_Mod_touches_56 hl (by decide) rfl (fun ls hl => ?_)
        have hl : lv_has ls 5 [(4, .int (iI (64 * (a - 9)))), (3, .int (iI 4096)), (0, .int (iI a)), (1, .int (iI b)), (2, .int (iI d))] := hl
        refine lv_iload hx hb d_Mod_touches_58 (lv_at hl 0 rfl) ?_
        refine lv_iload_n hx hb d_Mod_touches_60 rfl (lv_at hl 4 rfl) ?_
        refine bk_icmp_ge (tgt := 76) hx hb d_Mod_touches_61 (by decide) (by omega) (by omega) (fun c61 => ?_) (fun c61 => ?_)
        · skip
          refine lv_iconst (v := iI 0) hx hb d_Mod_touches_76 rfl ?_
          exact bk_reti (r := 0) hx hb hr iI_nar0 hlk hAe hQ hS () (by omega) hP hD d_Mod_touches_77
        · skip
          refine lv_iload_n hx hb d_Mod_touches_64 rfl (lv_at hl 3 rfl) ?_
          refine lv_iload hx hb d_Mod_touches_65 (lv_at hl 0 rfl) ?_
          refine lv_iload_n hx hb d_Mod_touches_67 rfl (lv_at hl 1 rfl) ?_
          refine bk_add hx hb d_Mod_touches_68 ?_
          refine bk_icmp_ge (tgt := 76) hx hb d_Mod_touches_69 (by decide) (by omega) (by omega) (fun c69 => ?_) (fun c69 => ?_)
          · skip
            refine lv_iconst (v := iI 0) hx hb d_Mod_touches_76 rfl ?_
            exact bk_reti (r := 0) hx hb hr iI_nar0 hlk hAe hQ hS () (by omega) hP hD d_Mod_touches_77
          · skip
            refine lv_iconst (v := iI 1) hx hb d_Mod_touches_72 rfl ?_
            refine lv_goto (tgt := 77) hx hb d_Mod_touches_73 (by decide) ?_
            exact bk_reti (r := 1) hx hb hr iI_nar1 hlk hAe hQ hS () (by omega) hP hD d_Mod_touches_77
      · skip
        refine lv_sipush (v := iI 512) hx hb d_Mod_touches_39 (by decide) ?_
        refine lv_iload_n hx hb d_Mod_touches_42 rfl (lv_at hl 1 rfl) ?_
        refine lv_iconst (v := iI 1) hx hb d_Mod_touches_43 rfl ?_
        refine bk_sub hx hb d_Mod_touches_44 ?_
        refine bk_mul hx hb d_Mod_touches_45 ?_
        refine lv_goto (tgt := 56) hx hb d_Mod_touches_46 (by decide) ?_
        refine lv_istore hx hb d_Mod_touches_56 hl (by decide) rfl (fun ls hl => ?_)
        have hl : lv_has ls 5 [(4, .int (iI (512 * (a - 1)))), (3, .int (iI 4096)), (0, .int (iI a)), (1, .int (iI b)), (2, .int (iI d))] := hl
        refine lv_iload hx hb d_Mod_touches_58 (lv_at hl 0 rfl) ?_
        refine lv_iload_n hx hb d_Mod_touches_60 rfl (lv_at hl 4 rfl) ?_
        refine bk_icmp_ge (tgt := 76) hx hb d_Mod_touches_61 (by decide) (by omega) (by omega) (fun c61 => ?_) (fun c61 => ?_)
        · skip
          refine lv_iconst (v := iI 0) hx hb d_Mod_touches_76 rfl ?_
          exact bk_reti (r := 0) hx hb hr iI_nar0 hlk hAe hQ hS () (by omega) hP hD d_Mod_touches_77
        · skip
          refine lv_iload_n hx hb d_Mod_touches_64 rfl (lv_at hl 3 rfl) ?_
          refine lv_iload hx hb d_Mod_touches_65 (lv_at hl 0 rfl) ?_
          refine lv_iload_n hx hb d_Mod_touches_67 rfl (lv_at hl 1 rfl) ?_
          refine bk_add hx hb d_Mod_touches_68 ?_
          refine bk_icmp_ge (tgt := 76) hx hb d_Mod_touches_69 (by decide) (by omega) (by omega) (fun c69 => ?_) (fun c69 => ?_)
          · skip
            refine lv_iconst (v := iI 0) hx hb d_Mod_touches_76 rfl ?_
            exact bk_reti (r := 0) hx hb hr iI_nar0 hlk hAe hQ hS () (by omega) hP hD d_Mod_touches_77
          · skip
            refine lv_iconst (v := iI 1) hx hb d_Mod_touches_72 rfl ?_
            refine lv_goto (tgt := 77) hx hb d_Mod_touches_73 (by decide) ?_
            exact bk_reti (r := 1) hx hb hr iI_nar1 hlk hAe hQ hS () (by omega) hP hD d_Mod_touches_77
    · skip
      refine lv_iconst (v := iI 0) hx hb d_Mod_touches_29 rfl ?_
      refine lv_goto (tgt := 56) hx hb d_Mod_touches_30 (by decide) ?_
      refine lv_istore hx hb d_Mod_touches_56 hl (by decide) rfl (fun ls hl => ?_)
      have hl : lv_has ls 5 [(4, .int (iI 0)), (3, .int (iI 4096)), (0, .int (iI a)), (1, .int (iI b)), (2, .int (iI d))] := hl
      refine lv_iload hx hb d_Mod_touches_58 (lv_at hl 0 rfl) ?_
      refine lv_iload_n hx hb d_Mod_touches_60 rfl (lv_at hl 4 rfl) ?_
      refine bk_icmp_ge (tgt := 76) hx hb d_Mod_touches_61 (by decide) (by omega) (by omega) (fun c61 => ?_) (fun c61 => ?_)
      · skip
        refine lv_iconst (v := iI 0) hx hb d_Mod_touches_76 rfl ?_
        exact bk_reti (r := 0) hx hb hr iI_nar0 hlk hAe hQ hS () (by omega) hP hD d_Mod_touches_77
      · skip
        refine lv_iload_n hx hb d_Mod_touches_64 rfl (lv_at hl 3 rfl) ?_
        refine lv_iload hx hb d_Mod_touches_65 (lv_at hl 0 rfl) ?_
        refine lv_iload_n hx hb d_Mod_touches_67 rfl (lv_at hl 1 rfl) ?_
        refine bk_add hx hb d_Mod_touches_68 ?_
        refine bk_top (y := iI ((0 + 4096 : Nat) : Int)) (congrArg iI (by omega)) ?_
        refine bk_icmp_ge (tgt := 76) hx hb d_Mod_touches_69 (by decide) (by omega) (by omega) (fun c69 => ?_) (fun c69 => ?_)
        · skip
          refine lv_iconst (v := iI 0) hx hb d_Mod_touches_76 rfl ?_
          exact bk_reti (r := 0) hx hb hr iI_nar0 hlk hAe hQ hS () (by omega) hP hD d_Mod_touches_77
        · skip
          refine lv_iconst (v := iI 1) hx hb d_Mod_touches_72 rfl ?_
          refine lv_goto (tgt := 77) hx hb d_Mod_touches_73 (by decide) ?_
          exact bk_reti (r := 1) hx hb hr iI_nar1 hlk hAe hQ hS () (by omega) hP hD d_Mod_touches_77
abbrev rm_Mod_hurt : Room := { frames := 0, cells := 0, slots := 0, locals := 0 }
set_option maxRecDepth 100000 in
set_option maxHeartbeats 4000000 in
theorem c_Mod_hurt (l : Launch) (D : va_G) (cI cO : ClassId) (hM a1 a2 a3 a4 a5 a6 a7 a8 a9 a10 a11 a12 a13 a14 : Nat) (K Ln Cd Rf Ps En Oc Ob Bc Bd Bg Sm Dk Fd : Nat → Int) (mo mb mr : Nat) (mw : Int) (mt mz : Nat) (mu : Int) (mf ml : Nat) (i : Nat) (hmz : mz ≤ 700) (hmu : -1 ≤ mu ∧ mu < 8 * 700) (hmr : mr ≤ 24) (hi : i < mr) (hBg : ∀ i, i ≤ mr → 0 ≤ Bg i ∧ Bg i ≤ 528) (hB1 : 1 ≤ Bg (i + 1)) : Mi l y_Mod_hurt b_Mod_hurt 3 .boolean rm_Mod_hurt D cI cO [.ref hM, .int (iI (i : Int))] ([(hM, .inr (6, [.int (iI (mo : Int)), .ref a1, .ref a2, .int (iI (mb : Int)), .ref a3, .int (iI (mr : Int)), .ref a4, .ref a5, .ref a6, .ref a7, .ref a8, .ref a9, .ref a10, .ref a11, .int (iI mw), .ref a12, .int (iI (mt : Int)), .ref a13, .int (iI (mz : Int)), .int (iI mu), .int (iI (mf : Int)), .int (iI (ml : Int)), .ref a14])), (a1, ar cI 3 K), (a2, ar cI 3 Ln), (a3, ar cI 24 Cd), (a4, ar cI 24 Rf), (a5, ar cI 24 Ps), (a6, ar cI 24 En), (a7, ar cI 24 Oc), (a8, ar cI 72 Ob), (a9, ar cI 24 Bc), (a10, ar cI 576 Bd), (a11, ar cI 25 Bg), (a12, ar cI 528 Sm), (a13, ar cI 700 Dk), (a14, ar cI 24 Fd)]) (fun (r : Int) (_ : Unit) => ((hurtN mu mz Bg i) ∧ r = 1) ∨ (¬ (hurtN mu mz Bg i) ∧ r = 0)) (fun (_ : Unit) => [(hM, .inr (6, [.int (iI (mo : Int)), .ref a1, .ref a2, .int (iI (mb : Int)), .ref a3, .int (iI (mr : Int)), .ref a4, .ref a5, .ref a6, .ref a7, .ref a8, .ref a9, .ref a10, .ref a11, .int (iI mw), .ref a12, .int (iI (mt : Int)), .ref a13, .int (iI (mz : Int)), .int (iI mu), .int (iI (mf : Int)), .int (iI (ml : Int)), .ref a14])), (a1, ar cI 3 K), (a2, ar cI 3 Ln), (a3, ar cI 24 Cd), (a4, ar cI 24 Rf), (a5, ar cI 24 Ps), (a6, ar cI 24 En), (a7, ar cI 24 Oc), (a8, ar cI 72 Ob), (a9, ar cI 24 Bc), (a10, ar cI 576 Bd), (a11, ar cI 25 Bg), (a12, ar cI 528 Sm), (a13, ar cI 700 Dk), (a14, ar cI 24 Fd)]) 0 0 := by
  refine bk_start (by decide) (ble_le rfl) ?_
  intro p e s m args below meth c A ls Q hx hb hr hml hlk hown hnm hT hK hA hAe hQ hP hD hS hl
  have hown : s.vm.findClass "BinnedReadsModel" = some m.cls := hown
  have hl : lv_has ls 3 [(0, .ref hM), (1, .int (iI (i : Int)))] := hl
  have h1 := hBg i (by omega)
  have h2 := hBg (i + 1) (by omega)
  refine lv_aload_n hx hb d_Mod_hurt_0 rfl (lv_at hl 0 rfl) ?_
  refine va_get (ci := 6) (C := R_Mod) (T := F_Mod) (N := 23) hx hb hT in_Mod hown hK.1 hP 0 rfl rfl 19 (by decide) (hT _ tw_436) (fun _ h => h) rfl d_Mod_hurt_1 ?_
  refine bk_if_lt (tgt := 24) hx hb d_Mod_hurt_4 (by decide) (by omega) (fun c4 => ?_) (fun c4 => ?_)
  · skip
    refine lv_iconst (v := iI 0) hx hb d_Mod_hurt_24 rfl ?_
    exact bk_reti (r := 0) hx hb hr iI_nar0 hlk hAe hQ hS () (by unfold hurtN; omega) hP hD d_Mod_hurt_25
  · skip
    refine lv_aload_n hx hb d_Mod_hurt_7 rfl (lv_at hl 0 rfl) ?_
    refine va_get (ci := 6) (C := R_Mod) (T := F_Mod) (N := 23) hx hb hT in_Mod hown hK.1 hP 0 rfl rfl 19 (by decide) (hT _ tw_436) (fun _ h => h) rfl d_Mod_hurt_8 ?_
    refine lv_bipush (v := iI 8) hx hb d_Mod_hurt_11 (by decide) ?_
    refine bk_div hx hb d_Mod_hurt_13 (by omega) (by omega) ?_
    refine lv_aload_n hx hb d_Mod_hurt_14 rfl (lv_at hl 0 rfl) ?_
    refine va_get (ci := 6) (C := R_Mod) (T := F_Mod) (N := 23) hx hb hT in_Mod hown hK.1 hP 0 rfl rfl 18 (by decide) (hT _ tw_435) (fun _ h => h) rfl d_Mod_hurt_15 ?_
    refine lv_bipush (v := iI 11) hx hb d_Mod_hurt_18 (by decide) ?_
    refine bk_sub hx hb d_Mod_hurt_20 ?_
    refine bk_icmp_lt (tgt := 26) hx hb d_Mod_hurt_21 (by decide) (by omega) (by omega) (fun c21 => ?_) (fun c21 => ?_)
    · skip
      refine lv_aload_n hx hb d_Mod_hurt_26 rfl (lv_at hl 0 rfl) ?_
      refine va_get (ci := 6) (C := R_Mod) (T := F_Mod) (N := 23) hx hb hT in_Mod hown hK.1 hP 0 rfl rfl 19 (by decide) (hT _ tw_436) (fun _ h => h) rfl d_Mod_hurt_27 ?_
      refine lv_bipush (v := iI 8) hx hb d_Mod_hurt_30 (by decide) ?_
      refine bk_div hx hb d_Mod_hurt_32 (by omega) (by omega) ?_
      refine lv_bipush (v := iI 51) hx hb d_Mod_hurt_33 (by decide) ?_
      refine bk_div hx hb d_Mod_hurt_35 (by omega) (by omega) ?_
      refine lv_istore_n hx hb d_Mod_hurt_36 rfl hl (by decide) rfl (fun ls hl => ?_)
      have hl : lv_has ls 3 [(2, .int (iI ((mu / 8) / 51))), (0, .ref hM), (1, .int (iI (i : Int)))] := hl
      refine lv_aload_n hx hb d_Mod_hurt_37 rfl (lv_at hl 1 rfl) ?_
      refine va_get (ci := 6) (C := R_Mod) (T := F_Mod) (N := 23) hx hb hT in_Mod hown hK.1 hP 0 rfl rfl 13 (by decide) (hT _ tw_430) (fun _ h => h) rfl d_Mod_hurt_38 ?_
      refine lv_iload_n hx hb d_Mod_hurt_41 rfl (lv_at hl 2 rfl) ?_
      refine bk_iald hx hb hK.1 hP 11 0 rfl rfl i (by omega) (by decide) d_Mod_hurt_42 ?_
      refine lv_bipush (v := iI 40) hx hb d_Mod_hurt_43 (by decide) ?_
      refine bk_div hx hb d_Mod_hurt_45 (by omega) (by omega) ?_
      refine lv_iload_n hx hb d_Mod_hurt_46 rfl (lv_at hl 0 rfl) ?_
      refine bk_icmp_gt (tgt := 71) hx hb d_Mod_hurt_47 (by decide) (by omega) (by omega) (fun c47 => ?_) (fun c47 => ?_)
      · skip
        refine lv_iconst (v := iI 0) hx hb d_Mod_hurt_71 rfl ?_
        exact bk_reti (r := 0) hx hb hr iI_nar0 hlk hAe hQ hS () (by unfold hurtN; omega) hP hD d_Mod_hurt_72
      · skip
        refine lv_iload_n hx hb d_Mod_hurt_50 rfl (lv_at hl 0 rfl) ?_
        refine lv_aload_n hx hb d_Mod_hurt_51 rfl (lv_at hl 1 rfl) ?_
        refine va_get (ci := 6) (C := R_Mod) (T := F_Mod) (N := 23) hx hb hT in_Mod hown hK.1 hP 0 rfl rfl 13 (by decide) (hT _ tw_430) (fun _ h => h) rfl d_Mod_hurt_52 ?_
        refine lv_iload_n hx hb d_Mod_hurt_55 rfl (lv_at hl 2 rfl) ?_
        refine lv_iconst (v := iI 1) hx hb d_Mod_hurt_56 rfl ?_
        refine bk_add hx hb d_Mod_hurt_57 ?_
        refine bk_top (y := iI ((i + 1 : Nat) : Int)) (congrArg iI (by omega)) ?_
        refine bk_iald hx hb hK.1 hP 11 0 rfl rfl (i + 1) (by omega) (by decide) d_Mod_hurt_58 ?_
        refine lv_iconst (v := iI 1) hx hb d_Mod_hurt_59 rfl ?_
        refine bk_sub hx hb d_Mod_hurt_60 ?_
        refine lv_bipush (v := iI 40) hx hb d_Mod_hurt_61 (by decide) ?_
        refine bk_div hx hb d_Mod_hurt_63 (by omega) (by omega) ?_
        refine bk_icmp_gt (tgt := 71) hx hb d_Mod_hurt_64 (by decide) (by omega) (by omega) (fun c64 => ?_) (fun c64 => ?_)
        · skip
          refine lv_iconst (v := iI 0) hx hb d_Mod_hurt_71 rfl ?_
          exact bk_reti (r := 0) hx hb hr iI_nar0 hlk hAe hQ hS () (by unfold hurtN; omega) hP hD d_Mod_hurt_72
        · skip
          refine lv_iconst (v := iI 1) hx hb d_Mod_hurt_67 rfl ?_
          refine lv_goto (tgt := 72) hx hb d_Mod_hurt_68 (by decide) ?_
          exact bk_reti (r := 1) hx hb hr iI_nar1 hlk hAe hQ hS () (by unfold hurtN; omega) hP hD d_Mod_hurt_72
    · skip
      refine lv_iconst (v := iI 0) hx hb d_Mod_hurt_24 rfl ?_
      exact bk_reti (r := 0) hx hb hr iI_nar0 hlk hAe hQ hS () (by unfold hurtN; omega) hP hD d_Mod_hurt_25
abbrev rm_Mod_firstBehind : Room := { frames := 0, cells := 0, slots := 0, locals := 0 }
set_option maxRecDepth 100000 in
set_option maxHeartbeats 4000000 in
theorem c_Mod_firstBehind (l : Launch) (D : va_G) (cI cO : ClassId) (hM a1 a2 a3 a4 a5 a6 a7 a8 a9 a10 a11 a12 a13 a14 : Nat) (K Ln Cd Rf Ps En Oc Ob Bc Bd Bg Sm Dk Fd : Nat → Int) (mo mb mr : Nat) (mw : Int) (mt mz : Nat) (mu : Int) (mf ml : Nat) (a b : Int) (hmr : mr ≤ 24) (hRf : ∀ i, i < mr → 0 ≤ Rf i ∧ Rf i ≤ 1) (hPs : ∀ i, i < mr → 0 ≤ Ps i ∧ Ps i < En i ∧ En i ≤ 4096) (ha : -2147483648 ≤ a ∧ a < 2147483648) (hb1 : -2147483648 ≤ b ∧ b < 2147483648) : Mi l y_Mod_firstBehind b_Mod_firstBehind 4 .int rm_Mod_firstBehind D cI cO [.ref hM, .int (iI a), .int (iI b)] ([(hM, .inr (6, [.int (iI (mo : Int)), .ref a1, .ref a2, .int (iI (mb : Int)), .ref a3, .int (iI (mr : Int)), .ref a4, .ref a5, .ref a6, .ref a7, .ref a8, .ref a9, .ref a10, .ref a11, .int (iI mw), .ref a12, .int (iI (mt : Int)), .ref a13, .int (iI (mz : Int)), .int (iI mu), .int (iI (mf : Int)), .int (iI (ml : Int)), .ref a14])), (a1, ar cI 3 K), (a2, ar cI 3 Ln), (a3, ar cI 24 Cd), (a4, ar cI 24 Rf), (a5, ar cI 24 Ps), (a6, ar cI 24 En), (a7, ar cI 24 Oc), (a8, ar cI 72 Ob), (a9, ar cI 24 Bc), (a10, ar cI 576 Bd), (a11, ar cI 25 Bg), (a12, ar cI 528 Sm), (a13, ar cI 700 Dk), (a14, ar cI 24 Fd)]) (fun (r : Int) (j : Nat) => r = (j : Int) ∧ j ≤ mr ∧ (∀ z, z < j → ¬ (Rf z = a ∧ b < En z)) ∧ (j < mr → Rf j = a ∧ b < En j)) (fun (j : Nat) => [(hM, .inr (6, [.int (iI (mo : Int)), .ref a1, .ref a2, .int (iI (mb : Int)), .ref a3, .int (iI (mr : Int)), .ref a4, .ref a5, .ref a6, .ref a7, .ref a8, .ref a9, .ref a10, .ref a11, .int (iI mw), .ref a12, .int (iI (mt : Int)), .ref a13, .int (iI (mz : Int)), .int (iI mu), .int (iI (mf : Int)), .int (iI (ml : Int)), .ref a14])), (a1, ar cI 3 K), (a2, ar cI 3 Ln), (a3, ar cI 24 Cd), (a4, ar cI 24 Rf), (a5, ar cI 24 Ps), (a6, ar cI 24 En), (a7, ar cI 24 Oc), (a8, ar cI 72 Ob), (a9, ar cI 24 Bc), (a10, ar cI 576 Bd), (a11, ar cI 25 Bg), (a12, ar cI 528 Sm), (a13, ar cI 700 Dk), (a14, ar cI 24 Fd)]) 0 0 := by
  refine bk_start (by decide) (ble_le rfl) ?_
  intro p e s m args below meth c A ls Q hx hb hr hml hlk hown hnm hT hK hA hAe hQ hP hD hS hl
  have hown : s.vm.findClass "BinnedReadsModel" = some m.cls := hown
  have hl : lv_has ls 4 [(0, .ref hM), (1, .int (iI a)), (2, .int (iI b))] := hl
  refine lv_iconst (v := iI 0) hx hb d_Mod_firstBehind_0 rfl ?_
  refine lv_istore_n hx hb d_Mod_firstBehind_1 rfl hl (by decide) rfl (fun ls hl => ?_)
  have hl : lv_has ls 4 [(3, .int (iI 0)), (0, .ref hM), (1, .int (iI a)), (2, .int (iI b))] := hl
  have cut2 : ∀ (N0 : Nat) (i : Nat) (H : Heap) (locs : List Loc) (ls : Array Slot), mr - i = N0 → (i ≤ mr) → (∀ z, z < i → ¬ (Rf z = a ∧ b < En z)) → lv_has ls 4 [(0, .ref hM), (1, .int (iI a)), (2, .int (iI b)), (3, .int (iI (i : Int)))] → va_P D classes ([(hM, .inr (6, [.int (iI (mo : Int)), .ref a1, .ref a2, .int (iI (mb : Int)), .ref a3, .int (iI (mr : Int)), .ref a4, .ref a5, .ref a6, .ref a7, .ref a8, .ref a9, .ref a10, .ref a11, .int (iI mw), .ref a12, .int (iI (mt : Int)), .ref a13, .int (iI (mz : Int)), .int (iI mu), .int (iI (mf : Int)), .int (iI (ml : Int)), .ref a14])), (a1, ar cI 3 K), (a2, ar cI 3 Ln), (a3, ar cI 24 Cd), (a4, ar cI 24 Rf), (a5, ar cI 24 Ps), (a6, ar cI 24 En), (a7, ar cI 24 Oc), (a8, ar cI 72 Ob), (a9, ar cI 24 Bc), (a10, ar cI 576 Bd), (a11, ar cI 25 Bg), (a12, ar cI 528 Sm), (a13, ar cI 700 Dk), (a14, ar cI 24 Fd)]) H → va_D A ([(hM, .inr (6, [.int (iI (mo : Int)), .ref a1, .ref a2, .int (iI (mb : Int)), .ref a3, .int (iI (mr : Int)), .ref a4, .ref a5, .ref a6, .ref a7, .ref a8, .ref a9, .ref a10, .ref a11, .int (iI mw), .ref a12, .int (iI (mt : Int)), .ref a13, .int (iI (mz : Int)), .int (iI mu), .int (iI (mf : Int)), .int (iI (ml : Int)), .ref a14])), (a1, ar cI 3 K), (a2, ar cI 3 Ln), (a3, ar cI 24 Cd), (a4, ar cI 24 Rf), (a5, ar cI 24 Ps), (a6, ar cI 24 En), (a7, ar cI 24 Oc), (a8, ar cI 72 Ob), (a9, ar cI 24 Bc), (a10, ar cI 576 Bd), (a11, ar cI 25 Bg), (a12, ar cI 528 Sm), (a13, ar cI 700 Dk), (a14, ar cI 24 Fd)]) → va_S A s.heap H locs → W p l e rm_Mod_firstBehind s m args below meth c H locs 0 0 Q (F0 m 2 ls []) := by
    intro N0
    induction N0 using Nat.strongRecOn with
    | _ N0 ih2 =>
      intro i H locs ls hN2 hi hno hl hP hD hS
      refine lv_iload_n hx hb d_Mod_firstBehind_2 rfl (lv_at hl 3 rfl) ?_
      refine lv_aload_n hx hb d_Mod_firstBehind_3 rfl (lv_at hl 0 rfl) ?_
      refine va_get (ci := 6) (C := R_Mod) (T := F_Mod) (N := 23) hx hb hT in_Mod hown hK.1 hP 0 rfl rfl 5 (by decide) (hT _ tw_422) (fun _ h => h) rfl d_Mod_firstBehind_4 ?_
      refine bk_icmp_ge (tgt := 36) hx hb d_Mod_firstBehind_7 (by decide) (by omega) (by omega) (fun c7 => ?_) (fun c7 => ?_)
      · skip
        refine lv_iload_n hx hb d_Mod_firstBehind_36 rfl (lv_at hl 3 rfl) ?_
        exact bk_reti (r := (i : Int)) hx hb hr rfl hlk hAe hQ hS i (⟨rfl, hi, hno, fun q => by omega⟩) hP hD d_Mod_firstBehind_37
      · skip
        have h1 := hRf i (by omega)
        have h2 := hPs i (by omega)
        refine lv_aload_n hx hb d_Mod_firstBehind_10 rfl (lv_at hl 0 rfl) ?_
        refine va_get (ci := 6) (C := R_Mod) (T := F_Mod) (N := 23) hx hb hT in_Mod hown hK.1 hP 0 rfl rfl 6 (by decide) (hT _ tw_423) (fun _ h => h) rfl d_Mod_firstBehind_11 ?_
        refine lv_iload_n hx hb d_Mod_firstBehind_14 rfl (lv_at hl 3 rfl) ?_
        refine bk_iald hx hb hK.1 hP 4 0 rfl rfl i (by omega) (by decide) d_Mod_firstBehind_15 ?_
        refine lv_iload_n hx hb d_Mod_firstBehind_16 rfl (lv_at hl 1 rfl) ?_
        refine bk_icmp_ne (tgt := 30) hx hb d_Mod_firstBehind_17 (by decide) (by omega) (by omega) (fun c17 => ?_) (fun c17 => ?_)
        · skip
          refine lv_iinc (k := 3) (v := iI ((i + 1 : Nat) : Int)) hx hb d_Mod_firstBehind_30 hl rfl ((iI_add _ _).trans (congrArg iI (by omega))) (by decide) rfl (fun ls hl => ?_)
          have hl : lv_has ls 4 [(3, .int (iI ((i + 1 : Nat) : Int))), (0, .ref hM), (1, .int (iI a)), (2, .int (iI b))] := hl
          refine lv_goto (tgt := 2) hx hb d_Mod_firstBehind_33 (by decide) ?_
          exact ih2 (mr - (i + 1)) (by omega) (i + 1) _ _ _ rfl (by omega) (fun z hz => by by_cases e1 : z = i; (subst e1; omega); exact hno z (by omega)) (lv_sub hl [1, 2, 3, 0] rfl) hP hD hS
        · skip
          refine lv_aload_n hx hb d_Mod_firstBehind_20 rfl (lv_at hl 0 rfl) ?_
          refine va_get (ci := 6) (C := R_Mod) (T := F_Mod) (N := 23) hx hb hT in_Mod hown hK.1 hP 0 rfl rfl 8 (by decide) (hT _ tw_425) (fun _ h => h) rfl d_Mod_firstBehind_21 ?_
          refine lv_iload_n hx hb d_Mod_firstBehind_24 rfl (lv_at hl 3 rfl) ?_
          refine bk_iald hx hb hK.1 hP 6 0 rfl rfl i (by omega) (by decide) d_Mod_firstBehind_25 ?_
          refine lv_iload_n hx hb d_Mod_firstBehind_26 rfl (lv_at hl 2 rfl) ?_
          refine bk_icmp_gt (tgt := 36) hx hb d_Mod_firstBehind_27 (by decide) (by omega) (by omega) (fun c27 => ?_) (fun c27 => ?_)
          · skip
            refine lv_iload_n hx hb d_Mod_firstBehind_36 rfl (lv_at hl 3 rfl) ?_
            exact bk_reti (r := (i : Int)) hx hb hr rfl hlk hAe hQ hS i (⟨rfl, hi, hno, fun q => by omega⟩) hP hD d_Mod_firstBehind_37
          · skip
            refine lv_iinc (k := 3) (v := iI ((i + 1 : Nat) : Int)) hx hb d_Mod_firstBehind_30 hl rfl ((iI_add _ _).trans (congrArg iI (by omega))) (by decide) rfl (fun ls hl => ?_)
            have hl : lv_has ls 4 [(3, .int (iI ((i + 1 : Nat) : Int))), (0, .ref hM), (1, .int (iI a)), (2, .int (iI b))] := hl
            refine lv_goto (tgt := 2) hx hb d_Mod_firstBehind_33 (by decide) ?_
            exact ih2 (mr - (i + 1)) (by omega) (i + 1) _ _ _ rfl (by omega) (fun z hz => by by_cases e1 : z = i; (subst e1; omega); exact hno z (by omega)) (lv_sub hl [1, 2, 3, 0] rfl) hP hD hS
  exact cut2 _ 0 _ _ _ rfl (by omega) (fun z hz => absurd hz (Nat.not_lt_zero z)) (lv_sub hl [1, 2, 3, 0] rfl) hP hD hS
abbrev rm_Mod_looked : Room := { frames := 0, cells := 0, slots := 0, locals := 0 }
set_option maxRecDepth 100000 in
set_option maxHeartbeats 4000000 in
theorem c_Mod_looked (l : Launch) (D : va_G) (cI cO : ClassId) (hM a1 a2 a3 a4 a5 a6 a7 a8 a9 a10 a11 a12 a13 a14 : Nat) (K Ln Cd Rf Ps En Oc Ob Bc Bd Bg Sm Dk Fd : Nat → Int) (mo mb mr : Nat) (mw : Int) (mt mz : Nat) (mu : Int) (mf ml : Nat) : Mi l y_Mod_looked b_Mod_looked 1 .int rm_Mod_looked D cI cO [.ref hM] ([(hM, .inr (6, [.int (iI (mo : Int)), .ref a1, .ref a2, .int (iI (mb : Int)), .ref a3, .int (iI (mr : Int)), .ref a4, .ref a5, .ref a6, .ref a7, .ref a8, .ref a9, .ref a10, .ref a11, .int (iI mw), .ref a12, .int (iI (mt : Int)), .ref a13, .int (iI (mz : Int)), .int (iI mu), .int (iI (mf : Int)), .int (iI (ml : Int)), .ref a14])), (a1, ar cI 3 K), (a2, ar cI 3 Ln), (a3, ar cI 24 Cd), (a4, ar cI 24 Rf), (a5, ar cI 24 Ps), (a6, ar cI 24 En), (a7, ar cI 24 Oc), (a8, ar cI 72 Ob), (a9, ar cI 24 Bc), (a10, ar cI 576 Bd), (a11, ar cI 25 Bg), (a12, ar cI 528 Sm), (a13, ar cI 700 Dk), (a14, ar cI 24 Fd)]) (fun (r : Int) (_ : Unit) => r = (ml : Int)) (fun (_ : Unit) => [(hM, .inr (6, [.int (iI (mo : Int)), .ref a1, .ref a2, .int (iI (mb : Int)), .ref a3, .int (iI (mr : Int)), .ref a4, .ref a5, .ref a6, .ref a7, .ref a8, .ref a9, .ref a10, .ref a11, .int (iI mw), .ref a12, .int (iI (mt : Int)), .ref a13, .int (iI (mz : Int)), .int (iI mu), .int (iI (mf : Int)), .int (iI (ml : Int)), .ref a14])), (a1, ar cI 3 K), (a2, ar cI 3 Ln), (a3, ar cI 24 Cd), (a4, ar cI 24 Rf), (a5, ar cI 24 Ps), (a6, ar cI 24 En), (a7, ar cI 24 Oc), (a8, ar cI 72 Ob), (a9, ar cI 24 Bc), (a10, ar cI 576 Bd), (a11, ar cI 25 Bg), (a12, ar cI 528 Sm), (a13, ar cI 700 Dk), (a14, ar cI 24 Fd)]) 0 0 := by
  refine bk_start (by decide) (ble_le rfl) ?_
  intro p e s m args below meth c A ls Q hx hb hr hml hlk hown hnm hT hK hA hAe hQ hP hD hS hl
  have hown : s.vm.findClass "BinnedReadsModel" = some m.cls := hown
  have hl : lv_has ls 1 [(0, .ref hM)] := hl
  refine lv_aload_n hx hb d_Mod_looked_0 rfl (lv_at hl 0 rfl) ?_
  refine va_get (ci := 6) (C := R_Mod) (T := F_Mod) (N := 23) hx hb hT in_Mod hown hK.1 hP 0 rfl rfl 21 (by decide) (hT _ tw_438) (fun _ h => h) rfl d_Mod_looked_1 ?_
  exact bk_reti (r := (ml : Int)) hx hb hr rfl hlk hAe hQ hS () rfl hP hD d_Mod_looked_4
abbrev rm_Mod_found : Room := { frames := 1, cells := 0, slots := 0, locals := 23 }
set_option maxRecDepth 100000 in
set_option maxHeartbeats 4000000 in
theorem c_Mod_found (l : Launch) (D : va_G) (cI cO : ClassId) (hM a1 a2 a3 a4 a5 a6 a7 a8 a9 a10 a11 a12 a13 a14 : Nat) (K Ln Cd Rf Ps En Oc Ob Bc Bd Bg Sm Dk Fd : Nat → Int) (mo mb mr : Nat) (mw : Int) (mt mz : Nat) (mu : Int) (mf ml : Nat) (k v : Int) (hmf : mf ≤ 24 ∧ mr ≤ 24) (hFd : ∀ i, i < mf → 0 ≤ Fd i ∧ Fd i < (mr : Int)) (hPs : ∀ i, i < mr → 0 ≤ Ps i ∧ Ps i < En i ∧ En i ≤ 4096) (hRf : ∀ i, i < mr → 0 ≤ Rf i ∧ Rf i ≤ 1) (hBg : 0 < mf → ∀ i, i < mr → 0 ≤ Bg i ∧ Bg i ≤ 528) (hk1 : -2147483648 ≤ k ∧ k < 2147483648) (hv1 : -2147483648 ≤ v ∧ v < 2147483648) : Mi l y_Mod_found b_Mod_found 4 .int rm_Mod_found D cI cO [.ref hM, .int (iI k), .int (iI v)] ([(hM, .inr (6, [.int (iI (mo : Int)), .ref a1, .ref a2, .int (iI (mb : Int)), .ref a3, .int (iI (mr : Int)), .ref a4, .ref a5, .ref a6, .ref a7, .ref a8, .ref a9, .ref a10, .ref a11, .int (iI mw), .ref a12, .int (iI (mt : Int)), .ref a13, .int (iI (mz : Int)), .int (iI mu), .int (iI (mf : Int)), .int (iI (ml : Int)), .ref a14])), (a1, ar cI 3 K), (a2, ar cI 3 Ln), (a3, ar cI 24 Cd), (a4, ar cI 24 Rf), (a5, ar cI 24 Ps), (a6, ar cI 24 En), (a7, ar cI 24 Oc), (a8, ar cI 72 Ob), (a9, ar cI 24 Bc), (a10, ar cI 576 Bd), (a11, ar cI 25 Bg), (a12, ar cI 528 Sm), (a13, ar cI 700 Dk), (a14, ar cI 24 Fd)]) (fun (r : Int) (_ : Unit) => (0 ≤ k ∧ k < (mf : Int) ∧ r = fndN Bg Ps En Oc Bc (Fd k.toNat).toNat v) ∨ (¬ (0 ≤ k ∧ k < (mf : Int)) ∧ r = -1)) (fun (_ : Unit) => [(hM, .inr (6, [.int (iI (mo : Int)), .ref a1, .ref a2, .int (iI (mb : Int)), .ref a3, .int (iI (mr : Int)), .ref a4, .ref a5, .ref a6, .ref a7, .ref a8, .ref a9, .ref a10, .ref a11, .int (iI mw), .ref a12, .int (iI (mt : Int)), .ref a13, .int (iI (mz : Int)), .int (iI mu), .int (iI (mf : Int)), .int (iI (ml : Int)), .ref a14])), (a1, ar cI 3 K), (a2, ar cI 3 Ln), (a3, ar cI 24 Cd), (a4, ar cI 24 Rf), (a5, ar cI 24 Ps), (a6, ar cI 24 En), (a7, ar cI 24 Oc), (a8, ar cI 72 Ob), (a9, ar cI 24 Bc), (a10, ar cI 576 Bd), (a11, ar cI 25 Bg), (a12, ar cI 528 Sm), (a13, ar cI 700 Dk), (a14, ar cI 24 Fd)]) 0 0 := by
  refine bk_start (by decide) (ble_le rfl) ?_
  intro p e s m args below meth c A ls Q hx hb hr hml hlk hown hnm hT hK hA hAe hQ hP hD hS hl
  have hown : s.vm.findClass "BinnedReadsModel" = some m.cls := hown
  have hl : lv_has ls 4 [(0, .ref hM), (1, .int (iI k)), (2, .int (iI v))] := hl
  refine lv_iload_n hx hb d_Mod_found_0 rfl (lv_at hl 1 rfl) ?_
  refine lv_iconst (v := iI 0) hx hb d_Mod_found_1 rfl ?_
  refine lv_aload_n hx hb d_Mod_found_2 rfl (lv_at hl 0 rfl) ?_
  refine va_get (ci := 6) (C := R_Mod) (T := F_Mod) (N := 23) hx hb hT in_Mod hown hK.1 hP 0 rfl rfl 20 (by decide) (hT _ tw_437) (fun _ h => h) rfl d_Mod_found_3 ?_
  refine lv_iconst (v := iI 1) hx hb d_Mod_found_6 rfl ?_
  refine bk_sub hx hb d_Mod_found_7 ?_
  refine bk_fR (ws := [(hM, .inr (6, [.int (iI (mo : Int)), .ref a1, .ref a2, .int (iI (mb : Int)), .ref a3, .int (iI (mr : Int)), .ref a4, .ref a5, .ref a6, .ref a7, .ref a8, .ref a9, .ref a10, .ref a11, .int (iI mw), .ref a12, .int (iI (mt : Int)), .ref a13, .int (iI (mz : Int)), .int (iI mu), .int (iI (mf : Int)), .int (iI (ml : Int)), .ref a14])), (a1, ar cI 3 K), (a2, ar cI 3 Ln), (a3, ar cI 24 Cd), (a4, ar cI 24 Rf), (a5, ar cI 24 Ps), (a6, ar cI 24 En), (a7, ar cI 24 Oc), (a8, ar cI 72 Ob), (a9, ar cI 24 Bc), (a10, ar cI 576 Bd), (a11, ar cI 25 Bg), (a12, ar cI 528 Sm), (a13, ar cI 700 Dk), (a14, ar cI 24 Fd)]) (Wc := []) (fun _ => rfl) (bk_hs (X := [(hM, .inr (6, [.int (iI (mo : Int)), .ref a1, .ref a2, .int (iI (mb : Int)), .ref a3, .int (iI (mr : Int)), .ref a4, .ref a5, .ref a6, .ref a7, .ref a8, .ref a9, .ref a10, .ref a11, .int (iI mw), .ref a12, .int (iI (mt : Int)), .ref a13, .int (iI (mz : Int)), .int (iI mu), .int (iI (mf : Int)), .int (iI (ml : Int)), .ref a14])), (a1, ar cI 3 K), (a2, ar cI 3 Ln), (a3, ar cI 24 Cd), (a4, ar cI 24 Rf), (a5, ar cI 24 Ps), (a6, ar cI 24 En), (a7, ar cI 24 Oc), (a8, ar cI 72 Ob), (a9, ar cI 24 Bc), (a10, ar cI 576 Bd), (a11, ar cI 25 Bg), (a12, ar cI 528 Sm), (a13, ar cI 700 Dk), (a14, ar cI 24 Fd)]) (pl := []) (Wc := []) [] rfl) hP hD hS hA (bk_rS (rest := []) hx hb hml hown hT hK (c_Mod_within l D cI cO k 0 ((mf : Int) - 1) (by omega) (by omega) (by omega)) (bk_subP (X := [(hM, .inr (6, [.int (iI (mo : Int)), .ref a1, .ref a2, .int (iI (mb : Int)), .ref a3, .int (iI (mr : Int)), .ref a4, .ref a5, .ref a6, .ref a7, .ref a8, .ref a9, .ref a10, .ref a11, .int (iI mw), .ref a12, .int (iI (mt : Int)), .ref a13, .int (iI (mz : Int)), .int (iI mu), .int (iI (mf : Int)), .int (iI (ml : Int)), .ref a14])), (a1, ar cI 3 K), (a2, ar cI 3 Ln), (a3, ar cI 24 Cd), (a4, ar cI 24 Rf), (a5, ar cI 24 Ps), (a6, ar cI 24 En), (a7, ar cI 24 Oc), (a8, ar cI 72 Ob), (a9, ar cI 24 Bc), (a10, ar cI 576 Bd), (a11, ar cI 25 Bg), (a12, ar cI 528 Sm), (a13, ar cI 700 Dk), (a14, ar cI 24 Fd)]) (pl := []) (Wc := []) hP [] rfl) (bk_subD (X := [(hM, .inr (6, [.int (iI (mo : Int)), .ref a1, .ref a2, .int (iI (mb : Int)), .ref a3, .int (iI (mr : Int)), .ref a4, .ref a5, .ref a6, .ref a7, .ref a8, .ref a9, .ref a10, .ref a11, .int (iI mw), .ref a12, .int (iI (mt : Int)), .ref a13, .int (iI (mz : Int)), .int (iI mu), .int (iI (mf : Int)), .int (iI (ml : Int)), .ref a14])), (a1, ar cI 3 K), (a2, ar cI 3 Ln), (a3, ar cI 24 Cd), (a4, ar cI 24 Rf), (a5, ar cI 24 Ps), (a6, ar cI 24 En), (a7, ar cI 24 Oc), (a8, ar cI 72 Ob), (a9, ar cI 24 Bc), (a10, ar cI 576 Bd), (a11, ar cI 25 Bg), (a12, ar cI 528 Sm), (a13, ar cI 700 Dk), (a14, ar cI 24 Fd)]) (pl := []) (Wc := []) hD [] (by decide) rfl) tw_491 tw_492 tw_7 tw_493 hd_Mod_within ⟨rfl, rfl⟩ (by decide) hl.1 rfl (ble_le rfl) d_Mod_found_8 (by decide)) (fun r8 u H locs hq hP hS => ?_)
  have hq : ((0 ≤ k ∧ k ≤ ((mf : Int) - 1)) ∧ r8 = 1) ∨ (¬ (0 ≤ k ∧ k ≤ ((mf : Int) - 1)) ∧ r8 = 0) := hq
  refine bk_if_ne (tgt := 16) hx hb d_Mod_found_11 (by decide) (by omega) (fun c11 => ?_) (fun c11 => ?_)
  · skip
    have hf0 := hFd k.toNat (by omega)
    have hg0 := hBg (by omega) (Fd k.toNat).toNat (by omega)
    refine lv_aload_n hx hb d_Mod_found_16 rfl (lv_at hl 0 rfl) ?_
    refine va_get (ci := 6) (C := R_Mod) (T := F_Mod) (N := 23) hx hb hT in_Mod hown hK.1 hP 0 rfl rfl 22 (by decide) (hT _ tw_439) (fun _ h => h) rfl d_Mod_found_17 ?_
    refine lv_iload_n hx hb d_Mod_found_20 rfl (lv_at hl 1 rfl) ?_
    refine bk_iald hx hb hK.1 hP 14 0 rfl rfl k.toNat (by omega) (by decide) d_Mod_found_21 ?_
    refine bk_top (y := iI (((Fd k.toNat).toNat : Nat) : Int)) (congrArg iI (by omega)) ?_
    refine lv_istore_n hx hb d_Mod_found_22 rfl hl (by decide) rfl (fun ls hl => ?_)
    have hl : lv_has ls 4 [(3, .int (iI (((Fd k.toNat).toNat : Nat) : Int))), (0, .ref hM), (1, .int (iI k)), (2, .int (iI v))] := hl
    refine lv_iload_n hx hb d_Mod_found_23 rfl (lv_at hl 3 rfl) ?_
    have hsw : (iI v).toInt = v := iI_ti (by omega)
    rcases (show (v < 0 ∨ 5 < v) ∨ v = 0 ∨ v = 1 ∨ v = 2 ∨ v = 3 ∨ v = 4 ∨ v = 5 by omega) with hc24 | hc24 | hc24 | hc24 | hc24 | hc24 | hc24
    · refine lv_tableOut (tgt := 122) hx hb d_Mod_found_24 (by rw [hsw]; omega) (by decide) ?_
      refine lv_iconst (v := iI (-1)) hx hb d_Mod_found_122 rfl ?_
      exact bk_reti (r := (-1)) hx hb hr rfl hlk hAe hQ hS () (Or.inl ⟨by omega, by omega, by unfold fndN; first | rw [if_pos (by omega)] | rw [if_neg (by omega), if_pos (by omega)] | rw [if_neg (by omega), if_neg (by omega), if_pos (by omega)] | rw [if_neg (by omega), if_neg (by omega), if_neg (by omega), if_pos (by omega)] | rw [if_neg (by omega), if_neg (by omega), if_neg (by omega), if_neg (by omega), if_pos (by omega)] | rw [if_neg (by omega), if_neg (by omega), if_neg (by omega), if_neg (by omega), if_neg (by omega), if_pos (by omega)] | rw [if_neg (by omega), if_neg (by omega), if_neg (by omega), if_neg (by omega), if_neg (by omega), if_neg (by omega)]⟩) hP hD d_Mod_found_123
    · refine lv_tableIn (tgt := 64) (off := 40) hx hb d_Mod_found_24 (by rw [hsw]; omega) (by rw [hsw]; omega) (by rw [hsw, hc24]; rfl) (by decide) ?_
      refine lv_sipush (v := iI 3264) hx hb d_Mod_found_64 (by decide) ?_
      refine lv_aload_n hx hb d_Mod_found_67 rfl (lv_at hl 1 rfl) ?_
      refine va_get (ci := 6) (C := R_Mod) (T := F_Mod) (N := 23) hx hb hT in_Mod hown hK.1 hP 0 rfl rfl 13 (by decide) (hT _ tw_430) (fun _ h => h) rfl d_Mod_found_68 ?_
      refine lv_iload_n hx hb d_Mod_found_71 rfl (lv_at hl 0 rfl) ?_
      refine bk_iald hx hb hK.1 hP 11 0 rfl rfl ((Fd k.toNat).toNat) (by omega) (by decide) d_Mod_found_72 ?_
      refine lv_bipush (v := iI 40) hx hb d_Mod_found_73 (by decide) ?_
      refine bk_div hx hb d_Mod_found_75 (by omega) (by omega) ?_
      refine bk_mul hx hb d_Mod_found_76 ?_
      refine lv_aload_n hx hb d_Mod_found_77 rfl (lv_at hl 1 rfl) ?_
      refine va_get (ci := 6) (C := R_Mod) (T := F_Mod) (N := 23) hx hb hT in_Mod hown hK.1 hP 0 rfl rfl 13 (by decide) (hT _ tw_430) (fun _ h => h) rfl d_Mod_found_78 ?_
      refine lv_iload_n hx hb d_Mod_found_81 rfl (lv_at hl 0 rfl) ?_
      refine bk_iald hx hb hK.1 hP 11 0 rfl rfl ((Fd k.toNat).toNat) (by omega) (by decide) d_Mod_found_82 ?_
      refine lv_bipush (v := iI 40) hx hb d_Mod_found_83 (by decide) ?_
      refine bk_rem hx hb d_Mod_found_85 (by omega) (by omega) ?_
      refine bk_add hx hb d_Mod_found_86 ?_
      exact bk_reti (r := 3264 * ((Bg ((Fd k.toNat).toNat)) / 40) + ((Bg ((Fd k.toNat).toNat)) % 40)) hx hb hr rfl hlk hAe hQ hS () (Or.inl ⟨by omega, by omega, by unfold fndN; first | rw [if_pos (by omega)] | rw [if_neg (by omega), if_pos (by omega)] | rw [if_neg (by omega), if_neg (by omega), if_pos (by omega)] | rw [if_neg (by omega), if_neg (by omega), if_neg (by omega), if_pos (by omega)] | rw [if_neg (by omega), if_neg (by omega), if_neg (by omega), if_neg (by omega), if_pos (by omega)] | rw [if_neg (by omega), if_neg (by omega), if_neg (by omega), if_neg (by omega), if_neg (by omega), if_pos (by omega)] | rw [if_neg (by omega), if_neg (by omega), if_neg (by omega), if_neg (by omega), if_neg (by omega), if_neg (by omega)]⟩) hP hD d_Mod_found_87
    · refine lv_tableIn (tgt := 88) (off := 64) hx hb d_Mod_found_24 (by rw [hsw]; omega) (by rw [hsw]; omega) (by rw [hsw, hc24]; rfl) (by decide) ?_
      refine lv_aload_n hx hb d_Mod_found_88 rfl (lv_at hl 1 rfl) ?_
      refine va_get (ci := 6) (C := R_Mod) (T := F_Mod) (N := 23) hx hb hT in_Mod hown hK.1 hP 0 rfl rfl 7 (by decide) (hT _ tw_424) (fun _ h => h) rfl d_Mod_found_89 ?_
      refine lv_iload_n hx hb d_Mod_found_92 rfl (lv_at hl 0 rfl) ?_
      refine bk_iald hx hb hK.1 hP 5 0 rfl rfl ((Fd k.toNat).toNat) (by omega) (by decide) d_Mod_found_93 ?_
      exact bk_reti (r := Ps ((Fd k.toNat).toNat)) hx hb hr rfl hlk hAe hQ hS () (Or.inl ⟨by omega, by omega, by unfold fndN; first | rw [if_pos (by omega)] | rw [if_neg (by omega), if_pos (by omega)] | rw [if_neg (by omega), if_neg (by omega), if_pos (by omega)] | rw [if_neg (by omega), if_neg (by omega), if_neg (by omega), if_pos (by omega)] | rw [if_neg (by omega), if_neg (by omega), if_neg (by omega), if_neg (by omega), if_pos (by omega)] | rw [if_neg (by omega), if_neg (by omega), if_neg (by omega), if_neg (by omega), if_neg (by omega), if_pos (by omega)] | rw [if_neg (by omega), if_neg (by omega), if_neg (by omega), if_neg (by omega), if_neg (by omega), if_neg (by omega)]⟩) hP hD d_Mod_found_94
    · refine lv_tableIn (tgt := 95) (off := 71) hx hb d_Mod_found_24 (by rw [hsw]; omega) (by rw [hsw]; omega) (by rw [hsw, hc24]; rfl) (by decide) ?_
      refine lv_aload_n hx hb d_Mod_found_95 rfl (lv_at hl 1 rfl) ?_
      refine lv_iload_n hx hb d_Mod_found_96 rfl (lv_at hl 0 rfl) ?_
      refine bk_fR (ws := [(hM, .inr (6, [.int (iI (mo : Int)), .ref a1, .ref a2, .int (iI (mb : Int)), .ref a3, .int (iI (mr : Int)), .ref a4, .ref a5, .ref a6, .ref a7, .ref a8, .ref a9, .ref a10, .ref a11, .int (iI mw), .ref a12, .int (iI (mt : Int)), .ref a13, .int (iI (mz : Int)), .int (iI mu), .int (iI (mf : Int)), .int (iI (ml : Int)), .ref a14])), (a1, ar cI 3 K), (a2, ar cI 3 Ln), (a3, ar cI 24 Cd), (a4, ar cI 24 Rf), (a5, ar cI 24 Ps), (a6, ar cI 24 En), (a7, ar cI 24 Oc), (a8, ar cI 72 Ob), (a9, ar cI 24 Bc), (a10, ar cI 576 Bd), (a11, ar cI 25 Bg), (a12, ar cI 528 Sm), (a13, ar cI 700 Dk), (a14, ar cI 24 Fd)]) (Wc := [(hM, .inr (6, [.int (iI (mo : Int)), .ref a1, .ref a2, .int (iI (mb : Int)), .ref a3, .int (iI (mr : Int)), .ref a4, .ref a5, .ref a6, .ref a7, .ref a8, .ref a9, .ref a10, .ref a11, .int (iI mw), .ref a12, .int (iI (mt : Int)), .ref a13, .int (iI (mz : Int)), .int (iI mu), .int (iI (mf : Int)), .int (iI (ml : Int)), .ref a14])), (a1, ar cI 3 K), (a2, ar cI 3 Ln), (a3, ar cI 24 Cd), (a4, ar cI 24 Rf), (a5, ar cI 24 Ps), (a6, ar cI 24 En), (a7, ar cI 24 Oc), (a8, ar cI 72 Ob), (a9, ar cI 24 Bc), (a10, ar cI 576 Bd), (a11, ar cI 25 Bg), (a12, ar cI 528 Sm), (a13, ar cI 700 Dk), (a14, ar cI 24 Fd)]) (fun _ => rfl) (bk_hs (X := [(hM, .inr (6, [.int (iI (mo : Int)), .ref a1, .ref a2, .int (iI (mb : Int)), .ref a3, .int (iI (mr : Int)), .ref a4, .ref a5, .ref a6, .ref a7, .ref a8, .ref a9, .ref a10, .ref a11, .int (iI mw), .ref a12, .int (iI (mt : Int)), .ref a13, .int (iI (mz : Int)), .int (iI mu), .int (iI (mf : Int)), .int (iI (ml : Int)), .ref a14])), (a1, ar cI 3 K), (a2, ar cI 3 Ln), (a3, ar cI 24 Cd), (a4, ar cI 24 Rf), (a5, ar cI 24 Ps), (a6, ar cI 24 En), (a7, ar cI 24 Oc), (a8, ar cI 72 Ob), (a9, ar cI 24 Bc), (a10, ar cI 576 Bd), (a11, ar cI 25 Bg), (a12, ar cI 528 Sm), (a13, ar cI 700 Dk), (a14, ar cI 24 Fd)]) (pl := []) (Wc := [(hM, .inr (6, [.int (iI (mo : Int)), .ref a1, .ref a2, .int (iI (mb : Int)), .ref a3, .int (iI (mr : Int)), .ref a4, .ref a5, .ref a6, .ref a7, .ref a8, .ref a9, .ref a10, .ref a11, .int (iI mw), .ref a12, .int (iI (mt : Int)), .ref a13, .int (iI (mz : Int)), .int (iI mu), .int (iI (mf : Int)), .int (iI (ml : Int)), .ref a14])), (a1, ar cI 3 K), (a2, ar cI 3 Ln), (a3, ar cI 24 Cd), (a4, ar cI 24 Rf), (a5, ar cI 24 Ps), (a6, ar cI 24 En), (a7, ar cI 24 Oc), (a8, ar cI 72 Ob), (a9, ar cI 24 Bc), (a10, ar cI 576 Bd), (a11, ar cI 25 Bg), (a12, ar cI 528 Sm), (a13, ar cI 700 Dk), (a14, ar cI 24 Fd)]) [0, 1, 2, 3, 4, 5, 6, 7, 8, 9, 10, 11, 12, 13, 14] rfl) hP hD hS hA (bk_rV (rest := []) hx hb hml hown hT hK (c_Mod_binOf l D cI cO hM a1 a2 a3 a4 a5 a6 a7 a8 a9 a10 a11 a12 a13 a14 K Ln Cd Rf Ps En Oc Ob Bc Bd Bg Sm Dk Fd mo mb mr mw mt mz mu mf ml ((Fd k.toNat).toNat) hmf.2 hRf hPs (by omega)) (bk_subP (X := [(hM, .inr (6, [.int (iI (mo : Int)), .ref a1, .ref a2, .int (iI (mb : Int)), .ref a3, .int (iI (mr : Int)), .ref a4, .ref a5, .ref a6, .ref a7, .ref a8, .ref a9, .ref a10, .ref a11, .int (iI mw), .ref a12, .int (iI (mt : Int)), .ref a13, .int (iI (mz : Int)), .int (iI mu), .int (iI (mf : Int)), .int (iI (ml : Int)), .ref a14])), (a1, ar cI 3 K), (a2, ar cI 3 Ln), (a3, ar cI 24 Cd), (a4, ar cI 24 Rf), (a5, ar cI 24 Ps), (a6, ar cI 24 En), (a7, ar cI 24 Oc), (a8, ar cI 72 Ob), (a9, ar cI 24 Bc), (a10, ar cI 576 Bd), (a11, ar cI 25 Bg), (a12, ar cI 528 Sm), (a13, ar cI 700 Dk), (a14, ar cI 24 Fd)]) (pl := []) (Wc := [(hM, .inr (6, [.int (iI (mo : Int)), .ref a1, .ref a2, .int (iI (mb : Int)), .ref a3, .int (iI (mr : Int)), .ref a4, .ref a5, .ref a6, .ref a7, .ref a8, .ref a9, .ref a10, .ref a11, .int (iI mw), .ref a12, .int (iI (mt : Int)), .ref a13, .int (iI (mz : Int)), .int (iI mu), .int (iI (mf : Int)), .int (iI (ml : Int)), .ref a14])), (a1, ar cI 3 K), (a2, ar cI 3 Ln), (a3, ar cI 24 Cd), (a4, ar cI 24 Rf), (a5, ar cI 24 Ps), (a6, ar cI 24 En), (a7, ar cI 24 Oc), (a8, ar cI 72 Ob), (a9, ar cI 24 Bc), (a10, ar cI 576 Bd), (a11, ar cI 25 Bg), (a12, ar cI 528 Sm), (a13, ar cI 700 Dk), (a14, ar cI 24 Fd)]) hP [0, 1, 2, 3, 4, 5, 6, 7, 8, 9, 10, 11, 12, 13, 14] rfl) (bk_subD (X := [(hM, .inr (6, [.int (iI (mo : Int)), .ref a1, .ref a2, .int (iI (mb : Int)), .ref a3, .int (iI (mr : Int)), .ref a4, .ref a5, .ref a6, .ref a7, .ref a8, .ref a9, .ref a10, .ref a11, .int (iI mw), .ref a12, .int (iI (mt : Int)), .ref a13, .int (iI (mz : Int)), .int (iI mu), .int (iI (mf : Int)), .int (iI (ml : Int)), .ref a14])), (a1, ar cI 3 K), (a2, ar cI 3 Ln), (a3, ar cI 24 Cd), (a4, ar cI 24 Rf), (a5, ar cI 24 Ps), (a6, ar cI 24 En), (a7, ar cI 24 Oc), (a8, ar cI 72 Ob), (a9, ar cI 24 Bc), (a10, ar cI 576 Bd), (a11, ar cI 25 Bg), (a12, ar cI 528 Sm), (a13, ar cI 700 Dk), (a14, ar cI 24 Fd)]) (pl := []) (Wc := [(hM, .inr (6, [.int (iI (mo : Int)), .ref a1, .ref a2, .int (iI (mb : Int)), .ref a3, .int (iI (mr : Int)), .ref a4, .ref a5, .ref a6, .ref a7, .ref a8, .ref a9, .ref a10, .ref a11, .int (iI mw), .ref a12, .int (iI (mt : Int)), .ref a13, .int (iI (mz : Int)), .int (iI mu), .int (iI (mf : Int)), .int (iI (ml : Int)), .ref a14])), (a1, ar cI 3 K), (a2, ar cI 3 Ln), (a3, ar cI 24 Cd), (a4, ar cI 24 Rf), (a5, ar cI 24 Ps), (a6, ar cI 24 En), (a7, ar cI 24 Oc), (a8, ar cI 72 Ob), (a9, ar cI 24 Bc), (a10, ar cI 576 Bd), (a11, ar cI 25 Bg), (a12, ar cI 528 Sm), (a13, ar cI 700 Dk), (a14, ar cI 24 Fd)]) hD [0, 1, 2, 3, 4, 5, 6, 7, 8, 9, 10, 11, 12, 13, 14] (by decide) rfl) 0 6 rfl rfl rfl tw_523 tw_525 ts_12 tw_7 tw_526 hd_Mod_binOf ⟨rfl, rfl⟩ (by decide) hl.1 rfl (ble_le rfl) d_Mod_found_97 (by decide)) (fun r97 u H locs hq hP hS => ?_)
      have hq : r97 = binI (Ps ((Fd k.toNat).toNat)) (En ((Fd k.toNat).toNat)) := hq
      obtain rfl := hq
      exact bk_reti (r := binI (Ps (Fd k.toNat).toNat) (En (Fd k.toNat).toNat)) hx hb hr rfl hlk hAe hQ hS () (Or.inl ⟨by omega, by omega, by unfold fndN; first | rw [if_pos (by omega)] | rw [if_neg (by omega), if_pos (by omega)] | rw [if_neg (by omega), if_neg (by omega), if_pos (by omega)] | rw [if_neg (by omega), if_neg (by omega), if_neg (by omega), if_pos (by omega)] | rw [if_neg (by omega), if_neg (by omega), if_neg (by omega), if_neg (by omega), if_pos (by omega)] | rw [if_neg (by omega), if_neg (by omega), if_neg (by omega), if_neg (by omega), if_neg (by omega), if_pos (by omega)] | rw [if_neg (by omega), if_neg (by omega), if_neg (by omega), if_neg (by omega), if_neg (by omega), if_neg (by omega)]⟩) hP hD d_Mod_found_100
    · refine lv_tableIn (tgt := 101) (off := 77) hx hb d_Mod_found_24 (by rw [hsw]; omega) (by rw [hsw]; omega) (by rw [hsw, hc24]; rfl) (by decide) ?_
      refine lv_aload_n hx hb d_Mod_found_101 rfl (lv_at hl 1 rfl) ?_
      refine va_get (ci := 6) (C := R_Mod) (T := F_Mod) (N := 23) hx hb hT in_Mod hown hK.1 hP 0 rfl rfl 8 (by decide) (hT _ tw_425) (fun _ h => h) rfl d_Mod_found_102 ?_
      refine lv_iload_n hx hb d_Mod_found_105 rfl (lv_at hl 0 rfl) ?_
      refine bk_iald hx hb hK.1 hP 6 0 rfl rfl ((Fd k.toNat).toNat) (by omega) (by decide) d_Mod_found_106 ?_
      exact bk_reti (r := En ((Fd k.toNat).toNat)) hx hb hr rfl hlk hAe hQ hS () (Or.inl ⟨by omega, by omega, by unfold fndN; first | rw [if_pos (by omega)] | rw [if_neg (by omega), if_pos (by omega)] | rw [if_neg (by omega), if_neg (by omega), if_pos (by omega)] | rw [if_neg (by omega), if_neg (by omega), if_neg (by omega), if_pos (by omega)] | rw [if_neg (by omega), if_neg (by omega), if_neg (by omega), if_neg (by omega), if_pos (by omega)] | rw [if_neg (by omega), if_neg (by omega), if_neg (by omega), if_neg (by omega), if_neg (by omega), if_pos (by omega)] | rw [if_neg (by omega), if_neg (by omega), if_neg (by omega), if_neg (by omega), if_neg (by omega), if_neg (by omega)]⟩) hP hD d_Mod_found_107
    · refine lv_tableIn (tgt := 108) (off := 84) hx hb d_Mod_found_24 (by rw [hsw]; omega) (by rw [hsw]; omega) (by rw [hsw, hc24]; rfl) (by decide) ?_
      refine lv_aload_n hx hb d_Mod_found_108 rfl (lv_at hl 1 rfl) ?_
      refine va_get (ci := 6) (C := R_Mod) (T := F_Mod) (N := 23) hx hb hT in_Mod hown hK.1 hP 0 rfl rfl 9 (by decide) (hT _ tw_426) (fun _ h => h) rfl d_Mod_found_109 ?_
      refine lv_iload_n hx hb d_Mod_found_112 rfl (lv_at hl 0 rfl) ?_
      refine bk_iald hx hb hK.1 hP 7 0 rfl rfl ((Fd k.toNat).toNat) (by omega) (by decide) d_Mod_found_113 ?_
      exact bk_reti (r := Oc ((Fd k.toNat).toNat)) hx hb hr rfl hlk hAe hQ hS () (Or.inl ⟨by omega, by omega, by unfold fndN; first | rw [if_pos (by omega)] | rw [if_neg (by omega), if_pos (by omega)] | rw [if_neg (by omega), if_neg (by omega), if_pos (by omega)] | rw [if_neg (by omega), if_neg (by omega), if_neg (by omega), if_pos (by omega)] | rw [if_neg (by omega), if_neg (by omega), if_neg (by omega), if_neg (by omega), if_pos (by omega)] | rw [if_neg (by omega), if_neg (by omega), if_neg (by omega), if_neg (by omega), if_neg (by omega), if_pos (by omega)] | rw [if_neg (by omega), if_neg (by omega), if_neg (by omega), if_neg (by omega), if_neg (by omega), if_neg (by omega)]⟩) hP hD d_Mod_found_114
    · refine lv_tableIn (tgt := 115) (off := 91) hx hb d_Mod_found_24 (by rw [hsw]; omega) (by rw [hsw]; omega) (by rw [hsw, hc24]; rfl) (by decide) ?_
      refine lv_aload_n hx hb d_Mod_found_115 rfl (lv_at hl 1 rfl) ?_
      refine va_get (ci := 6) (C := R_Mod) (T := F_Mod) (N := 23) hx hb hT in_Mod hown hK.1 hP 0 rfl rfl 11 (by decide) (hT _ tw_428) (fun _ h => h) rfl d_Mod_found_116 ?_
      refine lv_iload_n hx hb d_Mod_found_119 rfl (lv_at hl 0 rfl) ?_
      refine bk_iald hx hb hK.1 hP 9 0 rfl rfl ((Fd k.toNat).toNat) (by omega) (by decide) d_Mod_found_120 ?_
      exact bk_reti (r := Bc ((Fd k.toNat).toNat)) hx hb hr rfl hlk hAe hQ hS () (Or.inl ⟨by omega, by omega, by unfold fndN; first | rw [if_pos (by omega)] | rw [if_neg (by omega), if_pos (by omega)] | rw [if_neg (by omega), if_neg (by omega), if_pos (by omega)] | rw [if_neg (by omega), if_neg (by omega), if_neg (by omega), if_pos (by omega)] | rw [if_neg (by omega), if_neg (by omega), if_neg (by omega), if_neg (by omega), if_pos (by omega)] | rw [if_neg (by omega), if_neg (by omega), if_neg (by omega), if_neg (by omega), if_neg (by omega), if_pos (by omega)] | rw [if_neg (by omega), if_neg (by omega), if_neg (by omega), if_neg (by omega), if_neg (by omega), if_neg (by omega)]⟩) hP hD d_Mod_found_121
  · skip
    refine lv_iconst (v := iI (-1)) hx hb d_Mod_found_14 rfl ?_
    exact bk_reti (r := (-1)) hx hb hr rfl hlk hAe hQ hS () (Or.inr ⟨by omega, rfl⟩) hP hD d_Mod_found_15
abbrev rm_Mod_foundOp : Room := { frames := 1, cells := 0, slots := 0, locals := 22 }
set_option maxRecDepth 100000 in
set_option maxHeartbeats 4000000 in
theorem c_Mod_foundOp (l : Launch) (D : va_G) (cI cO : ClassId) (hM a1 a2 a3 a4 a5 a6 a7 a8 a9 a10 a11 a12 a13 a14 : Nat) (K Ln Cd Rf Ps En Oc Ob Bc Bd Bg Sm Dk Fd : Nat → Int) (mo mb mr : Nat) (mw : Int) (mt mz : Nat) (mu : Int) (mf ml : Nat) (k v : Int) (hmf : mf ≤ 24 ∧ mr ≤ 24) (hFd : ∀ i, i < mf → 0 ≤ Fd i ∧ Fd i < (mr : Int)) (hOc : ∀ i, i < mr → 0 ≤ Oc i ∧ Oc i ≤ 3) (hk1 : -2147483648 ≤ k ∧ k < 2147483648) (hv1 : -2147483648 ≤ v ∧ v < 2147483648) : Mi l y_Mod_foundOp b_Mod_foundOp 3 .int rm_Mod_foundOp D cI cO [.ref hM, .int (iI k), .int (iI v)] ([(hM, .inr (6, [.int (iI (mo : Int)), .ref a1, .ref a2, .int (iI (mb : Int)), .ref a3, .int (iI (mr : Int)), .ref a4, .ref a5, .ref a6, .ref a7, .ref a8, .ref a9, .ref a10, .ref a11, .int (iI mw), .ref a12, .int (iI (mt : Int)), .ref a13, .int (iI (mz : Int)), .int (iI mu), .int (iI (mf : Int)), .int (iI (ml : Int)), .ref a14])), (a1, ar cI 3 K), (a2, ar cI 3 Ln), (a3, ar cI 24 Cd), (a4, ar cI 24 Rf), (a5, ar cI 24 Ps), (a6, ar cI 24 En), (a7, ar cI 24 Oc), (a8, ar cI 72 Ob), (a9, ar cI 24 Bc), (a10, ar cI 576 Bd), (a11, ar cI 25 Bg), (a12, ar cI 528 Sm), (a13, ar cI 700 Dk), (a14, ar cI 24 Fd)]) (fun (r : Int) (_ : Unit) => ((0 ≤ k ∧ k < (mf : Int) ∧ 0 ≤ v ∧ v < Oc (Fd k.toNat).toNat) ∧ r = Ob (3 * (Fd k.toNat).toNat + v.toNat)) ∨ (¬ (0 ≤ k ∧ k < (mf : Int) ∧ 0 ≤ v ∧ v < Oc (Fd k.toNat).toNat) ∧ r = -1)) (fun (_ : Unit) => [(hM, .inr (6, [.int (iI (mo : Int)), .ref a1, .ref a2, .int (iI (mb : Int)), .ref a3, .int (iI (mr : Int)), .ref a4, .ref a5, .ref a6, .ref a7, .ref a8, .ref a9, .ref a10, .ref a11, .int (iI mw), .ref a12, .int (iI (mt : Int)), .ref a13, .int (iI (mz : Int)), .int (iI mu), .int (iI (mf : Int)), .int (iI (ml : Int)), .ref a14])), (a1, ar cI 3 K), (a2, ar cI 3 Ln), (a3, ar cI 24 Cd), (a4, ar cI 24 Rf), (a5, ar cI 24 Ps), (a6, ar cI 24 En), (a7, ar cI 24 Oc), (a8, ar cI 72 Ob), (a9, ar cI 24 Bc), (a10, ar cI 576 Bd), (a11, ar cI 25 Bg), (a12, ar cI 528 Sm), (a13, ar cI 700 Dk), (a14, ar cI 24 Fd)]) 0 0 := by
  refine bk_start (by decide) (ble_le rfl) ?_
  intro p e s m args below meth c A ls Q hx hb hr hml hlk hown hnm hT hK hA hAe hQ hP hD hS hl
  have hown : s.vm.findClass "BinnedReadsModel" = some m.cls := hown
  have hl : lv_has ls 3 [(0, .ref hM), (1, .int (iI k)), (2, .int (iI v))] := hl
  refine lv_iload_n hx hb d_Mod_foundOp_0 rfl (lv_at hl 1 rfl) ?_
  refine lv_iconst (v := iI 0) hx hb d_Mod_foundOp_1 rfl ?_
  refine lv_aload_n hx hb d_Mod_foundOp_2 rfl (lv_at hl 0 rfl) ?_
  refine va_get (ci := 6) (C := R_Mod) (T := F_Mod) (N := 23) hx hb hT in_Mod hown hK.1 hP 0 rfl rfl 20 (by decide) (hT _ tw_437) (fun _ h => h) rfl d_Mod_foundOp_3 ?_
  refine lv_iconst (v := iI 1) hx hb d_Mod_foundOp_6 rfl ?_
  refine bk_sub hx hb d_Mod_foundOp_7 ?_
  refine bk_fR (ws := [(hM, .inr (6, [.int (iI (mo : Int)), .ref a1, .ref a2, .int (iI (mb : Int)), .ref a3, .int (iI (mr : Int)), .ref a4, .ref a5, .ref a6, .ref a7, .ref a8, .ref a9, .ref a10, .ref a11, .int (iI mw), .ref a12, .int (iI (mt : Int)), .ref a13, .int (iI (mz : Int)), .int (iI mu), .int (iI (mf : Int)), .int (iI (ml : Int)), .ref a14])), (a1, ar cI 3 K), (a2, ar cI 3 Ln), (a3, ar cI 24 Cd), (a4, ar cI 24 Rf), (a5, ar cI 24 Ps), (a6, ar cI 24 En), (a7, ar cI 24 Oc), (a8, ar cI 72 Ob), (a9, ar cI 24 Bc), (a10, ar cI 576 Bd), (a11, ar cI 25 Bg), (a12, ar cI 528 Sm), (a13, ar cI 700 Dk), (a14, ar cI 24 Fd)]) (Wc := []) (fun _ => rfl) (bk_hs (X := [(hM, .inr (6, [.int (iI (mo : Int)), .ref a1, .ref a2, .int (iI (mb : Int)), .ref a3, .int (iI (mr : Int)), .ref a4, .ref a5, .ref a6, .ref a7, .ref a8, .ref a9, .ref a10, .ref a11, .int (iI mw), .ref a12, .int (iI (mt : Int)), .ref a13, .int (iI (mz : Int)), .int (iI mu), .int (iI (mf : Int)), .int (iI (ml : Int)), .ref a14])), (a1, ar cI 3 K), (a2, ar cI 3 Ln), (a3, ar cI 24 Cd), (a4, ar cI 24 Rf), (a5, ar cI 24 Ps), (a6, ar cI 24 En), (a7, ar cI 24 Oc), (a8, ar cI 72 Ob), (a9, ar cI 24 Bc), (a10, ar cI 576 Bd), (a11, ar cI 25 Bg), (a12, ar cI 528 Sm), (a13, ar cI 700 Dk), (a14, ar cI 24 Fd)]) (pl := []) (Wc := []) [] rfl) hP hD hS hA (bk_rS (rest := []) hx hb hml hown hT hK (c_Mod_within l D cI cO k 0 ((mf : Int) - 1) (by omega) (by omega) (by omega)) (bk_subP (X := [(hM, .inr (6, [.int (iI (mo : Int)), .ref a1, .ref a2, .int (iI (mb : Int)), .ref a3, .int (iI (mr : Int)), .ref a4, .ref a5, .ref a6, .ref a7, .ref a8, .ref a9, .ref a10, .ref a11, .int (iI mw), .ref a12, .int (iI (mt : Int)), .ref a13, .int (iI (mz : Int)), .int (iI mu), .int (iI (mf : Int)), .int (iI (ml : Int)), .ref a14])), (a1, ar cI 3 K), (a2, ar cI 3 Ln), (a3, ar cI 24 Cd), (a4, ar cI 24 Rf), (a5, ar cI 24 Ps), (a6, ar cI 24 En), (a7, ar cI 24 Oc), (a8, ar cI 72 Ob), (a9, ar cI 24 Bc), (a10, ar cI 576 Bd), (a11, ar cI 25 Bg), (a12, ar cI 528 Sm), (a13, ar cI 700 Dk), (a14, ar cI 24 Fd)]) (pl := []) (Wc := []) hP [] rfl) (bk_subD (X := [(hM, .inr (6, [.int (iI (mo : Int)), .ref a1, .ref a2, .int (iI (mb : Int)), .ref a3, .int (iI (mr : Int)), .ref a4, .ref a5, .ref a6, .ref a7, .ref a8, .ref a9, .ref a10, .ref a11, .int (iI mw), .ref a12, .int (iI (mt : Int)), .ref a13, .int (iI (mz : Int)), .int (iI mu), .int (iI (mf : Int)), .int (iI (ml : Int)), .ref a14])), (a1, ar cI 3 K), (a2, ar cI 3 Ln), (a3, ar cI 24 Cd), (a4, ar cI 24 Rf), (a5, ar cI 24 Ps), (a6, ar cI 24 En), (a7, ar cI 24 Oc), (a8, ar cI 72 Ob), (a9, ar cI 24 Bc), (a10, ar cI 576 Bd), (a11, ar cI 25 Bg), (a12, ar cI 528 Sm), (a13, ar cI 700 Dk), (a14, ar cI 24 Fd)]) (pl := []) (Wc := []) hD [] (by decide) rfl) tw_491 tw_492 tw_7 tw_493 hd_Mod_within ⟨rfl, rfl⟩ (by decide) hl.1 rfl (ble_le rfl) d_Mod_foundOp_8 (by decide)) (fun r8 u H locs hq hP hS => ?_)
  have hq : ((0 ≤ k ∧ k ≤ ((mf : Int) - 1)) ∧ r8 = 1) ∨ (¬ (0 ≤ k ∧ k ≤ ((mf : Int) - 1)) ∧ r8 = 0) := hq
  refine bk_if_eq (tgt := 35) hx hb d_Mod_foundOp_11 (by decide) (by omega) (fun c11 => ?_) (fun c11 => ?_)
  · skip
    refine lv_iconst (v := iI (-1)) hx hb d_Mod_foundOp_35 rfl ?_
    exact bk_reti (r := (-1)) hx hb hr rfl hlk hAe hQ hS () (Or.inr ⟨by omega, rfl⟩) hP hD d_Mod_foundOp_36
  · skip
    have hf0 := hFd k.toNat (by omega)
    have hc0 := hOc (Fd k.toNat).toNat (by omega)
    refine lv_iload_n hx hb d_Mod_foundOp_14 rfl (lv_at hl 2 rfl) ?_
    refine lv_iconst (v := iI 0) hx hb d_Mod_foundOp_15 rfl ?_
    refine lv_aload_n hx hb d_Mod_foundOp_16 rfl (lv_at hl 0 rfl) ?_
    refine va_get (ci := 6) (C := R_Mod) (T := F_Mod) (N := 23) hx hb hT in_Mod hown hK.1 hP 0 rfl rfl 9 (by decide) (hT _ tw_426) (fun _ h => h) rfl d_Mod_foundOp_17 ?_
    refine lv_aload_n hx hb d_Mod_foundOp_20 rfl (lv_at hl 0 rfl) ?_
    refine va_get (ci := 6) (C := R_Mod) (T := F_Mod) (N := 23) hx hb hT in_Mod hown hK.1 hP 0 rfl rfl 22 (by decide) (hT _ tw_439) (fun _ h => h) rfl d_Mod_foundOp_21 ?_
    refine lv_iload_n hx hb d_Mod_foundOp_24 rfl (lv_at hl 1 rfl) ?_
    refine bk_iald hx hb hK.1 hP 14 0 rfl rfl k.toNat (by omega) (by decide) d_Mod_foundOp_25 ?_
    refine bk_top (y := iI (((Fd k.toNat).toNat : Nat) : Int)) (congrArg iI (by omega)) ?_
    refine bk_iald hx hb hK.1 hP 7 0 rfl rfl ((Fd k.toNat).toNat) (by omega) (by decide) d_Mod_foundOp_26 ?_
    refine lv_iconst (v := iI 1) hx hb d_Mod_foundOp_27 rfl ?_
    refine bk_sub hx hb d_Mod_foundOp_28 ?_
    refine bk_fR (ws := [(hM, .inr (6, [.int (iI (mo : Int)), .ref a1, .ref a2, .int (iI (mb : Int)), .ref a3, .int (iI (mr : Int)), .ref a4, .ref a5, .ref a6, .ref a7, .ref a8, .ref a9, .ref a10, .ref a11, .int (iI mw), .ref a12, .int (iI (mt : Int)), .ref a13, .int (iI (mz : Int)), .int (iI mu), .int (iI (mf : Int)), .int (iI (ml : Int)), .ref a14])), (a1, ar cI 3 K), (a2, ar cI 3 Ln), (a3, ar cI 24 Cd), (a4, ar cI 24 Rf), (a5, ar cI 24 Ps), (a6, ar cI 24 En), (a7, ar cI 24 Oc), (a8, ar cI 72 Ob), (a9, ar cI 24 Bc), (a10, ar cI 576 Bd), (a11, ar cI 25 Bg), (a12, ar cI 528 Sm), (a13, ar cI 700 Dk), (a14, ar cI 24 Fd)]) (Wc := []) (fun _ => rfl) (bk_hs (X := [(hM, .inr (6, [.int (iI (mo : Int)), .ref a1, .ref a2, .int (iI (mb : Int)), .ref a3, .int (iI (mr : Int)), .ref a4, .ref a5, .ref a6, .ref a7, .ref a8, .ref a9, .ref a10, .ref a11, .int (iI mw), .ref a12, .int (iI (mt : Int)), .ref a13, .int (iI (mz : Int)), .int (iI mu), .int (iI (mf : Int)), .int (iI (ml : Int)), .ref a14])), (a1, ar cI 3 K), (a2, ar cI 3 Ln), (a3, ar cI 24 Cd), (a4, ar cI 24 Rf), (a5, ar cI 24 Ps), (a6, ar cI 24 En), (a7, ar cI 24 Oc), (a8, ar cI 72 Ob), (a9, ar cI 24 Bc), (a10, ar cI 576 Bd), (a11, ar cI 25 Bg), (a12, ar cI 528 Sm), (a13, ar cI 700 Dk), (a14, ar cI 24 Fd)]) (pl := []) (Wc := []) [] rfl) hP hD hS hA (bk_rS (rest := []) hx hb hml hown hT hK (c_Mod_within l D cI cO v 0 (Oc (Fd k.toNat).toNat - 1) (by omega) (by omega) (by omega)) (bk_subP (X := [(hM, .inr (6, [.int (iI (mo : Int)), .ref a1, .ref a2, .int (iI (mb : Int)), .ref a3, .int (iI (mr : Int)), .ref a4, .ref a5, .ref a6, .ref a7, .ref a8, .ref a9, .ref a10, .ref a11, .int (iI mw), .ref a12, .int (iI (mt : Int)), .ref a13, .int (iI (mz : Int)), .int (iI mu), .int (iI (mf : Int)), .int (iI (ml : Int)), .ref a14])), (a1, ar cI 3 K), (a2, ar cI 3 Ln), (a3, ar cI 24 Cd), (a4, ar cI 24 Rf), (a5, ar cI 24 Ps), (a6, ar cI 24 En), (a7, ar cI 24 Oc), (a8, ar cI 72 Ob), (a9, ar cI 24 Bc), (a10, ar cI 576 Bd), (a11, ar cI 25 Bg), (a12, ar cI 528 Sm), (a13, ar cI 700 Dk), (a14, ar cI 24 Fd)]) (pl := []) (Wc := []) hP [] rfl) (bk_subD (X := [(hM, .inr (6, [.int (iI (mo : Int)), .ref a1, .ref a2, .int (iI (mb : Int)), .ref a3, .int (iI (mr : Int)), .ref a4, .ref a5, .ref a6, .ref a7, .ref a8, .ref a9, .ref a10, .ref a11, .int (iI mw), .ref a12, .int (iI (mt : Int)), .ref a13, .int (iI (mz : Int)), .int (iI mu), .int (iI (mf : Int)), .int (iI (ml : Int)), .ref a14])), (a1, ar cI 3 K), (a2, ar cI 3 Ln), (a3, ar cI 24 Cd), (a4, ar cI 24 Rf), (a5, ar cI 24 Ps), (a6, ar cI 24 En), (a7, ar cI 24 Oc), (a8, ar cI 72 Ob), (a9, ar cI 24 Bc), (a10, ar cI 576 Bd), (a11, ar cI 25 Bg), (a12, ar cI 528 Sm), (a13, ar cI 700 Dk), (a14, ar cI 24 Fd)]) (pl := []) (Wc := []) hD [] (by decide) rfl) tw_491 tw_492 tw_7 tw_493 hd_Mod_within ⟨rfl, rfl⟩ (by decide) hl.1 rfl (ble_le rfl) d_Mod_foundOp_29 (by decide)) (fun r29 u H locs hq hP hS => ?_)
    have hq : ((0 ≤ v ∧ v ≤ (Oc (Fd k.toNat).toNat - 1)) ∧ r29 = 1) ∨ (¬ (0 ≤ v ∧ v ≤ (Oc (Fd k.toNat).toNat - 1)) ∧ r29 = 0) := hq
    refine bk_if_ne (tgt := 37) hx hb d_Mod_foundOp_32 (by decide) (by omega) (fun c32 => ?_) (fun c32 => ?_)
    · skip
      refine lv_aload_n hx hb d_Mod_foundOp_37 rfl (lv_at hl 0 rfl) ?_
      refine va_get (ci := 6) (C := R_Mod) (T := F_Mod) (N := 23) hx hb hT in_Mod hown hK.1 hP 0 rfl rfl 10 (by decide) (hT _ tw_427) (fun _ h => h) rfl d_Mod_foundOp_38 ?_
      refine lv_iconst (v := iI 3) hx hb d_Mod_foundOp_41 rfl ?_
      refine lv_aload_n hx hb d_Mod_foundOp_42 rfl (lv_at hl 0 rfl) ?_
      refine va_get (ci := 6) (C := R_Mod) (T := F_Mod) (N := 23) hx hb hT in_Mod hown hK.1 hP 0 rfl rfl 22 (by decide) (hT _ tw_439) (fun _ h => h) rfl d_Mod_foundOp_43 ?_
      refine lv_iload_n hx hb d_Mod_foundOp_46 rfl (lv_at hl 1 rfl) ?_
      refine bk_iald hx hb hK.1 hP 14 0 rfl rfl k.toNat (by omega) (by decide) d_Mod_foundOp_47 ?_
      refine bk_top (y := iI (((Fd k.toNat).toNat : Nat) : Int)) (congrArg iI (by omega)) ?_
      refine bk_mul hx hb d_Mod_foundOp_48 ?_
      refine bk_top (y := iI ((3 * ((Fd k.toNat).toNat) : Nat) : Int)) (congrArg iI (by omega)) ?_
      refine lv_iload_n hx hb d_Mod_foundOp_49 rfl (lv_at hl 2 rfl) ?_
      refine bk_add hx hb d_Mod_foundOp_50 ?_
      refine bk_iald hx hb hK.1 hP 8 0 rfl rfl (3 * (Fd k.toNat).toNat + v.toNat) (by omega) (by decide) d_Mod_foundOp_51 ?_
      exact bk_reti (r := Ob (3 * (Fd k.toNat).toNat + v.toNat)) hx hb hr rfl hlk hAe hQ hS () (Or.inl ⟨by omega, rfl⟩) hP hD d_Mod_foundOp_52
    · skip
      refine lv_iconst (v := iI (-1)) hx hb d_Mod_foundOp_35 rfl ?_
      exact bk_reti (r := (-1)) hx hb hr rfl hlk hAe hQ hS () (Or.inr ⟨by omega, rfl⟩) hP hD d_Mod_foundOp_36
abbrev rm_Mod_foundBase : Room := { frames := 1, cells := 0, slots := 0, locals := 22 }
set_option maxRecDepth 100000 in
set_option maxHeartbeats 4000000 in
theorem c_Mod_foundBase (l : Launch) (D : va_G) (cI cO : ClassId) (hM a1 a2 a3 a4 a5 a6 a7 a8 a9 a10 a11 a12 a13 a14 : Nat) (K Ln Cd Rf Ps En Oc Ob Bc Bd Bg Sm Dk Fd : Nat → Int) (mo mb mr : Nat) (mw : Int) (mt mz : Nat) (mu : Int) (mf ml : Nat) (k v : Int) (hmf : mf ≤ 24 ∧ mr ≤ 24) (hFd : ∀ i, i < mf → 0 ≤ Fd i ∧ Fd i < (mr : Int)) (hBc : ∀ i, i < mr → 0 ≤ Bc i ∧ Bc i ≤ 24) (hk1 : -2147483648 ≤ k ∧ k < 2147483648) (hv1 : -2147483648 ≤ v ∧ v < 2147483648) : Mi l y_Mod_foundBase b_Mod_foundBase 3 .int rm_Mod_foundBase D cI cO [.ref hM, .int (iI k), .int (iI v)] ([(hM, .inr (6, [.int (iI (mo : Int)), .ref a1, .ref a2, .int (iI (mb : Int)), .ref a3, .int (iI (mr : Int)), .ref a4, .ref a5, .ref a6, .ref a7, .ref a8, .ref a9, .ref a10, .ref a11, .int (iI mw), .ref a12, .int (iI (mt : Int)), .ref a13, .int (iI (mz : Int)), .int (iI mu), .int (iI (mf : Int)), .int (iI (ml : Int)), .ref a14])), (a1, ar cI 3 K), (a2, ar cI 3 Ln), (a3, ar cI 24 Cd), (a4, ar cI 24 Rf), (a5, ar cI 24 Ps), (a6, ar cI 24 En), (a7, ar cI 24 Oc), (a8, ar cI 72 Ob), (a9, ar cI 24 Bc), (a10, ar cI 576 Bd), (a11, ar cI 25 Bg), (a12, ar cI 528 Sm), (a13, ar cI 700 Dk), (a14, ar cI 24 Fd)]) (fun (r : Int) (_ : Unit) => ((0 ≤ k ∧ k < (mf : Int) ∧ 0 ≤ v ∧ v < Bc (Fd k.toNat).toNat) ∧ r = Bd (24 * (Fd k.toNat).toNat + v.toNat)) ∨ (¬ (0 ≤ k ∧ k < (mf : Int) ∧ 0 ≤ v ∧ v < Bc (Fd k.toNat).toNat) ∧ r = -1)) (fun (_ : Unit) => [(hM, .inr (6, [.int (iI (mo : Int)), .ref a1, .ref a2, .int (iI (mb : Int)), .ref a3, .int (iI (mr : Int)), .ref a4, .ref a5, .ref a6, .ref a7, .ref a8, .ref a9, .ref a10, .ref a11, .int (iI mw), .ref a12, .int (iI (mt : Int)), .ref a13, .int (iI (mz : Int)), .int (iI mu), .int (iI (mf : Int)), .int (iI (ml : Int)), .ref a14])), (a1, ar cI 3 K), (a2, ar cI 3 Ln), (a3, ar cI 24 Cd), (a4, ar cI 24 Rf), (a5, ar cI 24 Ps), (a6, ar cI 24 En), (a7, ar cI 24 Oc), (a8, ar cI 72 Ob), (a9, ar cI 24 Bc), (a10, ar cI 576 Bd), (a11, ar cI 25 Bg), (a12, ar cI 528 Sm), (a13, ar cI 700 Dk), (a14, ar cI 24 Fd)]) 0 0 := by
  refine bk_start (by decide) (ble_le rfl) ?_
  intro p e s m args below meth c A ls Q hx hb hr hml hlk hown hnm hT hK hA hAe hQ hP hD hS hl
  have hown : s.vm.findClass "BinnedReadsModel" = some m.cls := hown
  have hl : lv_has ls 3 [(0, .ref hM), (1, .int (iI k)), (2, .int (iI v))] := hl
  refine lv_iload_n hx hb d_Mod_foundBase_0 rfl (lv_at hl 1 rfl) ?_
  refine lv_iconst (v := iI 0) hx hb d_Mod_foundBase_1 rfl ?_
  refine lv_aload_n hx hb d_Mod_foundBase_2 rfl (lv_at hl 0 rfl) ?_
  refine va_get (ci := 6) (C := R_Mod) (T := F_Mod) (N := 23) hx hb hT in_Mod hown hK.1 hP 0 rfl rfl 20 (by decide) (hT _ tw_437) (fun _ h => h) rfl d_Mod_foundBase_3 ?_
  refine lv_iconst (v := iI 1) hx hb d_Mod_foundBase_6 rfl ?_
  refine bk_sub hx hb d_Mod_foundBase_7 ?_
  refine bk_fR (ws := [(hM, .inr (6, [.int (iI (mo : Int)), .ref a1, .ref a2, .int (iI (mb : Int)), .ref a3, .int (iI (mr : Int)), .ref a4, .ref a5, .ref a6, .ref a7, .ref a8, .ref a9, .ref a10, .ref a11, .int (iI mw), .ref a12, .int (iI (mt : Int)), .ref a13, .int (iI (mz : Int)), .int (iI mu), .int (iI (mf : Int)), .int (iI (ml : Int)), .ref a14])), (a1, ar cI 3 K), (a2, ar cI 3 Ln), (a3, ar cI 24 Cd), (a4, ar cI 24 Rf), (a5, ar cI 24 Ps), (a6, ar cI 24 En), (a7, ar cI 24 Oc), (a8, ar cI 72 Ob), (a9, ar cI 24 Bc), (a10, ar cI 576 Bd), (a11, ar cI 25 Bg), (a12, ar cI 528 Sm), (a13, ar cI 700 Dk), (a14, ar cI 24 Fd)]) (Wc := []) (fun _ => rfl) (bk_hs (X := [(hM, .inr (6, [.int (iI (mo : Int)), .ref a1, .ref a2, .int (iI (mb : Int)), .ref a3, .int (iI (mr : Int)), .ref a4, .ref a5, .ref a6, .ref a7, .ref a8, .ref a9, .ref a10, .ref a11, .int (iI mw), .ref a12, .int (iI (mt : Int)), .ref a13, .int (iI (mz : Int)), .int (iI mu), .int (iI (mf : Int)), .int (iI (ml : Int)), .ref a14])), (a1, ar cI 3 K), (a2, ar cI 3 Ln), (a3, ar cI 24 Cd), (a4, ar cI 24 Rf), (a5, ar cI 24 Ps), (a6, ar cI 24 En), (a7, ar cI 24 Oc), (a8, ar cI 72 Ob), (a9, ar cI 24 Bc), (a10, ar cI 576 Bd), (a11, ar cI 25 Bg), (a12, ar cI 528 Sm), (a13, ar cI 700 Dk), (a14, ar cI 24 Fd)]) (pl := []) (Wc := []) [] rfl) hP hD hS hA (bk_rS (rest := []) hx hb hml hown hT hK (c_Mod_within l D cI cO k 0 ((mf : Int) - 1) (by omega) (by omega) (by omega)) (bk_subP (X := [(hM, .inr (6, [.int (iI (mo : Int)), .ref a1, .ref a2, .int (iI (mb : Int)), .ref a3, .int (iI (mr : Int)), .ref a4, .ref a5, .ref a6, .ref a7, .ref a8, .ref a9, .ref a10, .ref a11, .int (iI mw), .ref a12, .int (iI (mt : Int)), .ref a13, .int (iI (mz : Int)), .int (iI mu), .int (iI (mf : Int)), .int (iI (ml : Int)), .ref a14])), (a1, ar cI 3 K), (a2, ar cI 3 Ln), (a3, ar cI 24 Cd), (a4, ar cI 24 Rf), (a5, ar cI 24 Ps), (a6, ar cI 24 En), (a7, ar cI 24 Oc), (a8, ar cI 72 Ob), (a9, ar cI 24 Bc), (a10, ar cI 576 Bd), (a11, ar cI 25 Bg), (a12, ar cI 528 Sm), (a13, ar cI 700 Dk), (a14, ar cI 24 Fd)]) (pl := []) (Wc := []) hP [] rfl) (bk_subD (X := [(hM, .inr (6, [.int (iI (mo : Int)), .ref a1, .ref a2, .int (iI (mb : Int)), .ref a3, .int (iI (mr : Int)), .ref a4, .ref a5, .ref a6, .ref a7, .ref a8, .ref a9, .ref a10, .ref a11, .int (iI mw), .ref a12, .int (iI (mt : Int)), .ref a13, .int (iI (mz : Int)), .int (iI mu), .int (iI (mf : Int)), .int (iI (ml : Int)), .ref a14])), (a1, ar cI 3 K), (a2, ar cI 3 Ln), (a3, ar cI 24 Cd), (a4, ar cI 24 Rf), (a5, ar cI 24 Ps), (a6, ar cI 24 En), (a7, ar cI 24 Oc), (a8, ar cI 72 Ob), (a9, ar cI 24 Bc), (a10, ar cI 576 Bd), (a11, ar cI 25 Bg), (a12, ar cI 528 Sm), (a13, ar cI 700 Dk), (a14, ar cI 24 Fd)]) (pl := []) (Wc := []) hD [] (by decide) rfl) tw_491 tw_492 tw_7 tw_493 hd_Mod_within ⟨rfl, rfl⟩ (by decide) hl.1 rfl (ble_le rfl) d_Mod_foundBase_8 (by decide)) (fun r8 u H locs hq hP hS => ?_)
  have hq : ((0 ≤ k ∧ k ≤ ((mf : Int) - 1)) ∧ r8 = 1) ∨ (¬ (0 ≤ k ∧ k ≤ ((mf : Int) - 1)) ∧ r8 = 0) := hq
  refine bk_if_eq (tgt := 35) hx hb d_Mod_foundBase_11 (by decide) (by omega) (fun c11 => ?_) (fun c11 => ?_)
  · skip
    refine lv_iconst (v := iI (-1)) hx hb d_Mod_foundBase_35 rfl ?_
    exact bk_reti (r := (-1)) hx hb hr rfl hlk hAe hQ hS () (Or.inr ⟨by omega, rfl⟩) hP hD d_Mod_foundBase_36
  · skip
    have hf0 := hFd k.toNat (by omega)
    have hc0 := hBc (Fd k.toNat).toNat (by omega)
    refine lv_iload_n hx hb d_Mod_foundBase_14 rfl (lv_at hl 2 rfl) ?_
    refine lv_iconst (v := iI 0) hx hb d_Mod_foundBase_15 rfl ?_
    refine lv_aload_n hx hb d_Mod_foundBase_16 rfl (lv_at hl 0 rfl) ?_
    refine va_get (ci := 6) (C := R_Mod) (T := F_Mod) (N := 23) hx hb hT in_Mod hown hK.1 hP 0 rfl rfl 11 (by decide) (hT _ tw_428) (fun _ h => h) rfl d_Mod_foundBase_17 ?_
    refine lv_aload_n hx hb d_Mod_foundBase_20 rfl (lv_at hl 0 rfl) ?_
    refine va_get (ci := 6) (C := R_Mod) (T := F_Mod) (N := 23) hx hb hT in_Mod hown hK.1 hP 0 rfl rfl 22 (by decide) (hT _ tw_439) (fun _ h => h) rfl d_Mod_foundBase_21 ?_
    refine lv_iload_n hx hb d_Mod_foundBase_24 rfl (lv_at hl 1 rfl) ?_
    refine bk_iald hx hb hK.1 hP 14 0 rfl rfl k.toNat (by omega) (by decide) d_Mod_foundBase_25 ?_
    refine bk_top (y := iI (((Fd k.toNat).toNat : Nat) : Int)) (congrArg iI (by omega)) ?_
    refine bk_iald hx hb hK.1 hP 9 0 rfl rfl ((Fd k.toNat).toNat) (by omega) (by decide) d_Mod_foundBase_26 ?_
    refine lv_iconst (v := iI 1) hx hb d_Mod_foundBase_27 rfl ?_
    refine bk_sub hx hb d_Mod_foundBase_28 ?_
    refine bk_fR (ws := [(hM, .inr (6, [.int (iI (mo : Int)), .ref a1, .ref a2, .int (iI (mb : Int)), .ref a3, .int (iI (mr : Int)), .ref a4, .ref a5, .ref a6, .ref a7, .ref a8, .ref a9, .ref a10, .ref a11, .int (iI mw), .ref a12, .int (iI (mt : Int)), .ref a13, .int (iI (mz : Int)), .int (iI mu), .int (iI (mf : Int)), .int (iI (ml : Int)), .ref a14])), (a1, ar cI 3 K), (a2, ar cI 3 Ln), (a3, ar cI 24 Cd), (a4, ar cI 24 Rf), (a5, ar cI 24 Ps), (a6, ar cI 24 En), (a7, ar cI 24 Oc), (a8, ar cI 72 Ob), (a9, ar cI 24 Bc), (a10, ar cI 576 Bd), (a11, ar cI 25 Bg), (a12, ar cI 528 Sm), (a13, ar cI 700 Dk), (a14, ar cI 24 Fd)]) (Wc := []) (fun _ => rfl) (bk_hs (X := [(hM, .inr (6, [.int (iI (mo : Int)), .ref a1, .ref a2, .int (iI (mb : Int)), .ref a3, .int (iI (mr : Int)), .ref a4, .ref a5, .ref a6, .ref a7, .ref a8, .ref a9, .ref a10, .ref a11, .int (iI mw), .ref a12, .int (iI (mt : Int)), .ref a13, .int (iI (mz : Int)), .int (iI mu), .int (iI (mf : Int)), .int (iI (ml : Int)), .ref a14])), (a1, ar cI 3 K), (a2, ar cI 3 Ln), (a3, ar cI 24 Cd), (a4, ar cI 24 Rf), (a5, ar cI 24 Ps), (a6, ar cI 24 En), (a7, ar cI 24 Oc), (a8, ar cI 72 Ob), (a9, ar cI 24 Bc), (a10, ar cI 576 Bd), (a11, ar cI 25 Bg), (a12, ar cI 528 Sm), (a13, ar cI 700 Dk), (a14, ar cI 24 Fd)]) (pl := []) (Wc := []) [] rfl) hP hD hS hA (bk_rS (rest := []) hx hb hml hown hT hK (c_Mod_within l D cI cO v 0 (Bc (Fd k.toNat).toNat - 1) (by omega) (by omega) (by omega)) (bk_subP (X := [(hM, .inr (6, [.int (iI (mo : Int)), .ref a1, .ref a2, .int (iI (mb : Int)), .ref a3, .int (iI (mr : Int)), .ref a4, .ref a5, .ref a6, .ref a7, .ref a8, .ref a9, .ref a10, .ref a11, .int (iI mw), .ref a12, .int (iI (mt : Int)), .ref a13, .int (iI (mz : Int)), .int (iI mu), .int (iI (mf : Int)), .int (iI (ml : Int)), .ref a14])), (a1, ar cI 3 K), (a2, ar cI 3 Ln), (a3, ar cI 24 Cd), (a4, ar cI 24 Rf), (a5, ar cI 24 Ps), (a6, ar cI 24 En), (a7, ar cI 24 Oc), (a8, ar cI 72 Ob), (a9, ar cI 24 Bc), (a10, ar cI 576 Bd), (a11, ar cI 25 Bg), (a12, ar cI 528 Sm), (a13, ar cI 700 Dk), (a14, ar cI 24 Fd)]) (pl := []) (Wc := []) hP [] rfl) (bk_subD (X := [(hM, .inr (6, [.int (iI (mo : Int)), .ref a1, .ref a2, .int (iI (mb : Int)), .ref a3, .int (iI (mr : Int)), .ref a4, .ref a5, .ref a6, .ref a7, .ref a8, .ref a9, .ref a10, .ref a11, .int (iI mw), .ref a12, .int (iI (mt : Int)), .ref a13, .int (iI (mz : Int)), .int (iI mu), .int (iI (mf : Int)), .int (iI (ml : Int)), .ref a14])), (a1, ar cI 3 K), (a2, ar cI 3 Ln), (a3, ar cI 24 Cd), (a4, ar cI 24 Rf), (a5, ar cI 24 Ps), (a6, ar cI 24 En), (a7, ar cI 24 Oc), (a8, ar cI 72 Ob), (a9, ar cI 24 Bc), (a10, ar cI 576 Bd), (a11, ar cI 25 Bg), (a12, ar cI 528 Sm), (a13, ar cI 700 Dk), (a14, ar cI 24 Fd)]) (pl := []) (Wc := []) hD [] (by decide) rfl) tw_491 tw_492 tw_7 tw_493 hd_Mod_within ⟨rfl, rfl⟩ (by decide) hl.1 rfl (ble_le rfl) d_Mod_foundBase_29 (by decide)) (fun r29 u H locs hq hP hS => ?_)
    have hq : ((0 ≤ v ∧ v ≤ (Bc (Fd k.toNat).toNat - 1)) ∧ r29 = 1) ∨ (¬ (0 ≤ v ∧ v ≤ (Bc (Fd k.toNat).toNat - 1)) ∧ r29 = 0) := hq
    refine bk_if_ne (tgt := 37) hx hb d_Mod_foundBase_32 (by decide) (by omega) (fun c32 => ?_) (fun c32 => ?_)
    · skip
      refine lv_aload_n hx hb d_Mod_foundBase_37 rfl (lv_at hl 0 rfl) ?_
      refine va_get (ci := 6) (C := R_Mod) (T := F_Mod) (N := 23) hx hb hT in_Mod hown hK.1 hP 0 rfl rfl 12 (by decide) (hT _ tw_429) (fun _ h => h) rfl d_Mod_foundBase_38 ?_
      refine lv_bipush (v := iI 24) hx hb d_Mod_foundBase_41 (by decide) ?_
      refine lv_aload_n hx hb d_Mod_foundBase_43 rfl (lv_at hl 0 rfl) ?_
      refine va_get (ci := 6) (C := R_Mod) (T := F_Mod) (N := 23) hx hb hT in_Mod hown hK.1 hP 0 rfl rfl 22 (by decide) (hT _ tw_439) (fun _ h => h) rfl d_Mod_foundBase_44 ?_
      refine lv_iload_n hx hb d_Mod_foundBase_47 rfl (lv_at hl 1 rfl) ?_
      refine bk_iald hx hb hK.1 hP 14 0 rfl rfl k.toNat (by omega) (by decide) d_Mod_foundBase_48 ?_
      refine bk_top (y := iI (((Fd k.toNat).toNat : Nat) : Int)) (congrArg iI (by omega)) ?_
      refine bk_mul hx hb d_Mod_foundBase_49 ?_
      refine bk_top (y := iI ((24 * ((Fd k.toNat).toNat) : Nat) : Int)) (congrArg iI (by omega)) ?_
      refine lv_iload_n hx hb d_Mod_foundBase_50 rfl (lv_at hl 2 rfl) ?_
      refine bk_add hx hb d_Mod_foundBase_51 ?_
      refine bk_iald hx hb hK.1 hP 10 0 rfl rfl (24 * (Fd k.toNat).toNat + v.toNat) (by omega) (by decide) d_Mod_foundBase_52 ?_
      exact bk_reti (r := Bd (24 * (Fd k.toNat).toNat + v.toNat)) hx hb hr rfl hlk hAe hQ hS () (Or.inl ⟨by omega, rfl⟩) hP hD d_Mod_foundBase_53
    · skip
      refine lv_iconst (v := iI (-1)) hx hb d_Mod_foundBase_35 rfl ?_
      exact bk_reti (r := (-1)) hx hb hr rfl hlk hAe hQ hS () (Or.inr ⟨by omega, rfl⟩) hP hD d_Mod_foundBase_36
