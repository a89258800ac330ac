abbrev rm_BR_kindOf : Room := { frames := 0, cells := 0, slots := 0, locals := 0 }
set_option maxRecDepth 100000 in
set_option maxHeartbeats 4000000 in
theorem c_BR_kindOf (l : Launch) (D : va_G) (cI cO : ClassId) (a : Int) (ha : 0 ≤ a ∧ a < 2147483648) : Mi l y_BR_kindOf b_BR_kindOf 1 .int rm_BR_kindOf D cI cO [.int (iI a)] ([]) (fun (r : Int) (_ : Unit) => r = a % 4) (fun (_ : Unit) => []) 0 0 := by
  refine bk_start (by decide) (ble_le rfl) ?_
  intro p e s m args below meth c A ls Q hx hb hr hml hlk hown hnm hT hK hA hAe hQ hP hD hS hl
  have hown : s.vm.findClass "BinnedReads" = some m.cls := hown
  have hl : lv_has ls 1 [(0, .int (iI a))] := hl
  refine lv_iload_n hx hb d_BR_kindOf_0 rfl (lv_at hl 0 rfl) ?_
  refine lv_iconst (v := iI 4) hx hb d_BR_kindOf_1 rfl ?_
  refine bk_rem hx hb d_BR_kindOf_2 (by omega) (by omega) ?_
  exact bk_reti (r := a % 4) hx hb hr rfl hlk hAe hQ hS () rfl hP hD d_BR_kindOf_3
abbrev rm_BR_lengthOf : Room := { frames := 0, cells := 0, slots := 0, locals := 0 }
set_option maxRecDepth 100000 in
set_option maxHeartbeats 4000000 in
theorem c_BR_lengthOf (l : Launch) (D : va_G) (cI cO : ClassId) (a : Int) (ha : 0 ≤ a ∧ a < 2147483648) : Mi l y_BR_lengthOf b_BR_lengthOf 1 .int rm_BR_lengthOf D cI cO [.int (iI a)] ([]) (fun (r : Int) (_ : Unit) => r = a / 4) (fun (_ : Unit) => []) 0 0 := by
  refine bk_start (by decide) (ble_le rfl) ?_
  intro p e s m args below meth c A ls Q hx hb hr hml hlk hown hnm hT hK hA hAe hQ hP hD hS hl
  have hown : s.vm.findClass "BinnedReads" = some m.cls := hown
  have hl : lv_has ls 1 [(0, .int (iI a))] := hl
  refine lv_iload_n hx hb d_BR_lengthOf_0 rfl (lv_at hl 0 rfl) ?_
  refine lv_iconst (v := iI 4) hx hb d_BR_lengthOf_1 rfl ?_
  refine bk_div hx hb d_BR_lengthOf_2 (by omega) (by omega) ?_
  exact bk_reti (r := a / 4) hx hb hr rfl hlk hAe hQ hS () rfl hP hD d_BR_lengthOf_3
abbrev rm_BR_spanOf : Room := { frames := 1, cells := 0, slots := 0, locals := 20 }
set_option maxRecDepth 100000 in
set_option maxHeartbeats 4000000 in
theorem c_BR_spanOf (l : Launch) (D : va_G) (cI cO : ClassId) (q n : Nat) (F : Nat → Int) (f k : Nat) (hf : f + k ≤ n ∧ n ≤ 1000) (hF : ∀ i, i < k → 0 ≤ F (f + i) ∧ F (f + i) ≤ 255) : Mi l y_BR_spanOf b_BR_spanOf 6 .int rm_BR_spanOf D cI cO [.ref q, .int (iI (f : Int)), .int (iI (k : Int))] ([(q, ar cI n F)]) (fun (r : Int) (_ : Unit) => r = spanN (fun z => F (f + z)) k) (fun (_ : Unit) => [(q, ar cI n F)]) 0 0 := by
  refine bk_start (by decide) (ble_le rfl) ?_
  intro p e s m args below meth c A ls Q hx hb hr hml hlk hown hnm hT hK hA hAe hQ hP hD hS hl
  have hown : s.vm.findClass "BinnedReads" = some m.cls := hown
  have hl : lv_has ls 6 [(0, .ref q), (1, .int (iI (f : Int))), (2, .int (iI (k : Int)))] := hl
  refine lv_iconst (v := iI 0) hx hb d_BR_spanOf_0 rfl ?_
  refine lv_istore_n hx hb d_BR_spanOf_1 rfl hl (by decide) rfl (fun ls hl => ?_)
  have hl : lv_has ls 6 [(3, .int (iI 0)), (0, .ref q), (1, .int (iI (f : Int))), (2, .int (iI (k : Int)))] := hl
  refine lv_iconst (v := iI 0) hx hb d_BR_spanOf_2 rfl ?_
  refine lv_istore hx hb d_BR_spanOf_3 hl (by decide) rfl (fun ls hl => ?_)
  have hl : lv_has ls 6 [(4, .int (iI 0)), (3, .int (iI 0)), (0, .ref q), (1, .int (iI (f : Int))), (2, .int (iI (k : Int)))] := hl
  have cut5 : ∀ (N0 : Nat) (i : Nat) (H : Heap) (locs : List Loc) (ls : Array Slot), k - i = N0 → (i ≤ k) → lv_has ls 6 [(0, .ref q), (1, .int (iI (f : Int))), (2, .int (iI (k : Int))), (3, .int (iI (spanN (fun z => F (f + z)) i))), (4, .int (iI (i : Int)))] → va_P D classes ([(q, ar cI n F)]) H → va_D A ([(q, ar cI n F)]) → va_S A s.heap H locs → W p l e rm_BR_spanOf s m args below meth c H locs 0 0 Q (F0 m 5 ls []) := by
    intro N0
    induction N0 using Nat.strongRecOn with
    | _ N0 ih5 =>
      intro i H locs ls hN5 hi hl hP hD hS
      have hsp := spanN_rg (G := fun z => F (f + z)) (k := i) (fun z hz => hF z (by omega))
      refine lv_iload hx hb d_BR_spanOf_5 (lv_at hl 4 rfl) ?_
      refine lv_iload_n hx hb d_BR_spanOf_7 rfl (lv_at hl 2 rfl) ?_
      refine bk_icmp_ge (tgt := 51) hx hb d_BR_spanOf_8 (by decide) (by omega) (by omega) (fun c8 => ?_) (fun c8 => ?_)
      · skip
        refine lv_iload_n hx hb d_BR_spanOf_51 rfl (lv_at hl 3 rfl) ?_
        exact bk_reti (r := spanN (fun z => F (f + z)) i) hx hb hr rfl hlk hAe hQ hS () (by rw [show k = i by omega]) hP hD d_BR_spanOf_52
      · skip
        have hFi := hF i (by omega)
        refine lv_iload_n hx hb d_BR_spanOf_11 rfl (lv_at hl 1 rfl) ?_
        refine lv_iload hx hb d_BR_spanOf_12 (lv_at hl 4 rfl) ?_
        refine bk_add hx hb d_BR_spanOf_14 ?_
        refine bk_top (y := iI ((f + i : Nat) : Int)) (congrArg iI (by omega)) ?_
        refine lv_aload_n hx hb d_BR_spanOf_15 rfl (lv_at hl 0 rfl) ?_
        refine va_alen (v := iI (n : Int)) hx hb hK.1 hP 0 0 rfl rfl Int32.ofInt_eq_ofNat.symm d_BR_spanOf_16 ?_
        refine bk_icmp_ge (tgt := 51) hx hb d_BR_spanOf_17 (by decide) (by omega) (by omega) (fun c17 => ?_) (fun c17 => ?_)
        · skip
          exact absurd c17 (by omega)
        · skip
          refine lv_aload_n hx hb d_BR_spanOf_20 rfl (lv_at hl 0 rfl) ?_
          refine lv_iload_n hx hb d_BR_spanOf_21 rfl (lv_at hl 1 rfl) ?_
          refine lv_iload hx hb d_BR_spanOf_22 (lv_at hl 4 rfl) ?_
          refine bk_add hx hb d_BR_spanOf_24 ?_
          refine bk_top (y := iI ((f + i : Nat) : Int)) (congrArg iI (by omega)) ?_
          refine bk_iald hx hb hK.1 hP 0 0 rfl rfl (f + i) (by omega) (by omega) d_BR_spanOf_25 ?_
          refine lv_istore hx hb d_BR_spanOf_26 hl (by decide) rfl (fun ls hl => ?_)
          have hl : lv_has ls 6 [(5, .int (iI (F (f + i)))), (0, .ref q), (1, .int (iI (f : Int))), (2, .int (iI (k : Int))), (3, .int (iI (spanN (fun z => F (f + z)) i))), (4, .int (iI (i : Int)))] := hl
          refine lv_iload hx hb d_BR_spanOf_28 (lv_at hl 0 rfl) ?_
          refine bk_fR (ws := [(q, ar cI n F)]) (Wc := []) (fun _ => rfl) (bk_hs (X := [(q, ar cI n F)]) (pl := []) (Wc := []) [] rfl) hP hD hS hA (bk_rS (rest := []) hx hb hml hown hT hK (c_BR_kindOf l D cI cO (F (f + i)) (by omega)) (bk_subP (X := [(q, ar cI n F)]) (pl := []) (Wc := []) hP [] rfl) (bk_subD (X := [(q, ar cI n F)]) (pl := []) (Wc := []) hD [] (by decide) rfl) tw_203 tw_204 tw_1 tw_205 hd_BR_kindOf ⟨rfl, rfl⟩ (by decide) hl.1 rfl (ble_le rfl) d_BR_spanOf_30 (by decide)) (fun r30 u H locs hq hP hS => ?_)
          have hq : r30 = (F (f + i)) % 4 := hq
          obtain rfl := hq
          refine lv_iconst (v := iI 1) hx hb d_BR_spanOf_33 rfl ?_
          refine bk_icmp_eq (tgt := 45) hx hb d_BR_spanOf_34 (by decide) (by omega) (by omega) (fun c34 => ?_) (fun c34 => ?_)
          · skip
            have hl : lv_has ls 6 [(5, .int (iI (F (f + i)))), (0, .ref q), (1, .int (iI (f : Int))), (2, .int (iI (k : Int))), (3, .int (iI (spanN (fun z => F (f + z)) (i + 1)))), (4, .int (iI (i : Int)))] := by
              rw [show spanN (fun z => F (f + z)) (i + 1) = spanN (fun z => F (f + z)) i from spanN_skip (by omega)]
              exact hl
            refine lv_iinc (k := 5) (v := iI ((i + 1 : Nat) : Int)) hx hb d_BR_spanOf_45 hl rfl ((iI_add _ _).trans (congrArg iI (by omega))) (by decide) rfl (fun ls hl => ?_)
            have hl : lv_has ls 6 [(4, .int (iI ((i + 1 : Nat) : Int))), (5, .int (iI (F (f + i)))), (0, .ref q), (1, .int (iI (f : Int))), (2, .int (iI (k : Int))), (3, .int (iI (spanN (fun z => F (f + z)) (i + 1))))] := hl
            refine lv_goto (tgt := 5) hx hb d_BR_spanOf_48 (by decide) ?_
            exact ih5 (k - (i + 1)) (by omega) (i + 1) _ _ _ rfl (by omega) (lv_sub hl [2, 3, 4, 5, 0] rfl) hP hD hS
          · skip
            refine lv_iload_n hx hb d_BR_spanOf_37 rfl (lv_at hl 4 rfl) ?_
            refine lv_iload hx hb d_BR_spanOf_38 (lv_at hl 0 rfl) ?_
            refine bk_fR (ws := [(q, ar cI n F)]) (Wc := []) (fun _ => rfl) (bk_hs (X := [(q, ar cI n F)]) (pl := []) (Wc := []) [] rfl) hP hD hS hA (bk_rS (rest := [.int (iI (spanN (fun z => F (f + z)) i))]) hx hb hml hown hT hK (c_BR_lengthOf l D cI cO (F (f + i)) (by omega)) (bk_subP (X := [(q, ar cI n F)]) (pl := []) (Wc := []) hP [] rfl) (bk_subD (X := [(q, ar cI n F)]) (pl := []) (Wc := []) hD [] (by decide) rfl) tw_206 tw_207 tw_1 tw_208 hd_BR_lengthOf ⟨rfl, rfl⟩ (by decide) hl.1 rfl (ble_le rfl) d_BR_spanOf_40 (by decide)) (fun r40 u H locs hq hP hS => ?_)
            have hq : r40 = (F (f + i)) / 4 := hq
            obtain rfl := hq
            refine bk_add hx hb d_BR_spanOf_43 ?_
            refine bk_top (y := iI (spanN (fun z => F (f + z)) (i + 1))) (congrArg iI (spanN_step (by omega)).symm) ?_
            refine lv_istore_n hx hb d_BR_spanOf_44 rfl hl (by decide) rfl (fun ls hl => ?_)
            have hl : lv_has ls 6 [(3, .int (iI (spanN (fun z => F (f + z)) (i + 1)))), (5, .int (iI (F (f + i)))), (0, .ref q), (1, .int (iI (f : Int))), (2, .int (iI (k : Int))), (4, .int (iI (i : Int)))] := hl
            refine lv_iinc (k := 5) (v := iI ((i + 1 : Nat) : Int)) hx hb d_BR_spanOf_45 hl rfl ((iI_add _ _).trans (congrArg iI (by omega))) (by decide) rfl (fun ls hl => ?_)
            have hl : lv_has ls 6 [(4, .int (iI ((i + 1 : Nat) : Int))), (3, .int (iI (spanN (fun z => F (f + z)) (i + 1)))), (5, .int (iI (F (f + i)))), (0, .ref q), (1, .int (iI (f : Int))), (2, .int (iI (k : Int)))] := hl
            refine lv_goto (tgt := 5) hx hb d_BR_spanOf_48 (by decide) ?_
            exact ih5 (k - (i + 1)) (by omega) (i + 1) _ _ _ rfl (by omega) (lv_sub hl [3, 4, 5, 1, 0] rfl) hP hD hS
  exact cut5 _ 0 _ _ _ rfl (by omega) (lv_sub hl [2, 3, 4, 1, 0] rfl) hP hD hS
abbrev rm_BR_isReference : Room := { frames := 0, cells := 0, slots := 0, locals := 0 }
set_option maxRecDepth 100000 in
set_option maxHeartbeats 4000000 in
theorem c_BR_isReference (l : Launch) (D : va_G) (cI cO : ClassId) (a : Int) (ha : -2147483648 ≤ a ∧ a < 2147483648) : Mi l y_BR_isReference b_BR_isReference 1 .boolean rm_BR_isReference D cI cO [.int (iI a)] ([]) (fun (r : Int) (_ : Unit) => (0 ≤ a ∧ a < 2 ∧ r = 1) ∨ (¬ (0 ≤ a ∧ a < 2) ∧ r = 0)) (fun (_ : Unit) => []) 0 0 := by
  refine bk_start (by decide) (ble_le rfl) ?_
  intro p e s m args below meth c A ls Q hx hb hr hml hlk hown hnm hT hK hA hAe hQ hP hD hS hl
  have hown : s.vm.findClass "BinnedReads" = some m.cls := hown
  have hl : lv_has ls 1 [(0, .int (iI a))] := hl
  refine lv_iload_n hx hb d_BR_isReference_0 rfl (lv_at hl 0 rfl) ?_
  refine bk_if_lt (tgt := 13) hx hb d_BR_isReference_1 (by decide) (by omega) (fun c1 => ?_) (fun c1 => ?_)
  · skip
    refine lv_iconst (v := iI 0) hx hb d_BR_isReference_13 rfl ?_
    exact bk_reti (r := 0) hx hb hr iI_nar0 hlk hAe hQ hS () (by omega) hP hD d_BR_isReference_14
  · skip
    refine lv_iload_n hx hb d_BR_isReference_4 rfl (lv_at hl 0 rfl) ?_
    refine lv_iconst (v := iI 2) hx hb d_BR_isReference_5 rfl ?_
    refine bk_icmp_ge (tgt := 13) hx hb d_BR_isReference_6 (by decide) (by omega) (by omega) (fun c6 => ?_) (fun c6 => ?_)
    · skip
      refine lv_iconst (v := iI 0) hx hb d_BR_isReference_13 rfl ?_
      exact bk_reti (r := 0) hx hb hr iI_nar0 hlk hAe hQ hS () (by omega) hP hD d_BR_isReference_14
    · skip
      refine lv_iconst (v := iI 1) hx hb d_BR_isReference_9 rfl ?_
      refine lv_goto (tgt := 14) hx hb d_BR_isReference_10 (by decide) ?_
      exact bk_reti (r := 1) hx hb hr iI_nar1 hlk hAe hQ hS () (by omega) hP hD d_BR_isReference_14
abbrev rm_BR_isRegion : Room := { frames := 1, cells := 0, slots := 0, locals := 20 }
set_option maxRecDepth 100000 in
set_option maxHeartbeats 4000000 in
theorem c_BR_isRegion (l : Launch) (D : va_G) (cI cO : ClassId) (a b d : Int) (ha : -2147483648 ≤ a ∧ a < 2147483648) (hb1 : -2147483648 ≤ b ∧ b < 2147483648) (hd1 : -2147483648 ≤ d ∧ d < 2147483648) : Mi l y_BR_isRegion b_BR_isRegion 3 .boolean rm_BR_isRegion D cI cO [.int (iI a), .int (iI b), .int (iI d)] ([]) (fun (r : Int) (_ : Unit) => ((0 ≤ a ∧ a < 2 ∧ 0 ≤ b ∧ d ≤ 4096 ∧ b < d) ∧ r = 1) ∨ (¬ (0 ≤ a ∧ a < 2 ∧ 0 ≤ b ∧ d ≤ 4096 ∧ b < d) ∧ r = 0)) (fun (_ : Unit) => []) 0 0 := by
  refine bk_start (by decide) (ble_le rfl) ?_
  intro p e s m args below meth c A ls Q hx hb hr hml hlk hown hnm hT hK hA hAe hQ hP hD hS hl
  have hown : s.vm.findClass "BinnedReads" = some m.cls := hown
  have hl : lv_has ls 3 [(0, .int (iI a)), (1, .int (iI b)), (2, .int (iI d))] := hl
  refine lv_iload_n hx hb d_BR_isRegion_0 rfl (lv_at hl 0 rfl) ?_
  refine bk_fR (ws := []) (Wc := []) (fun _ => rfl) (bk_hs (X := []) (pl := []) (Wc := []) [] rfl) hP hD hS hA (bk_rS (rest := []) hx hb hml hown hT hK (c_BR_isReference l D cI cO a ha) (bk_subP (X := []) (pl := []) (Wc := []) hP [] rfl) (bk_subD (X := []) (pl := []) (Wc := []) hD [] (by decide) rfl) tw_215 tw_216 tw_1 tw_217 hd_BR_isReference ⟨rfl, rfl⟩ (by decide) hl.1 rfl (ble_le rfl) d_BR_isRegion_1 (by decide)) (fun r1 u H locs hq hP hS => ?_)
  have hq : (0 ≤ a ∧ a < 2 ∧ r1 = 1) ∨ (¬ (0 ≤ a ∧ a < 2) ∧ r1 = 0) := hq
  refine bk_if_eq (tgt := 27) hx hb d_BR_isRegion_4 (by decide) (by omega) (fun c4 => ?_) (fun c4 => ?_)
  · skip
    refine lv_iconst (v := iI 0) hx hb d_BR_isRegion_27 rfl ?_
    exact bk_reti (r := 0) hx hb hr iI_nar0 hlk hAe hQ hS () (by omega) hP hD d_BR_isRegion_28
  · skip
    refine lv_iload_n hx hb d_BR_isRegion_7 rfl (lv_at hl 1 rfl) ?_
    refine bk_if_lt (tgt := 27) hx hb d_BR_isRegion_8 (by decide) (by omega) (fun c8 => ?_) (fun c8 => ?_)
    · skip
      refine lv_iconst (v := iI 0) hx hb d_BR_isRegion_27 rfl ?_
      exact bk_reti (r := 0) hx hb hr iI_nar0 hlk hAe hQ hS () (by omega) hP hD d_BR_isRegion_28
    · skip
      refine lv_iload_n hx hb d_BR_isRegion_11 rfl (lv_at hl 2 rfl) ?_
      refine lv_sipush (v := iI 4096) hx hb d_BR_isRegion_12 (by decide) ?_
      refine bk_icmp_gt (tgt := 27) hx hb d_BR_isRegion_15 (by decide) (by omega) (by omega) (fun c15 => ?_) (fun c15 => ?_)
      · skip
        refine lv_iconst (v := iI 0) hx hb d_BR_isRegion_27 rfl ?_
        exact bk_reti (r := 0) hx hb hr iI_nar0 hlk hAe hQ hS () (by omega) hP hD d_BR_isRegion_28
      · skip
        refine lv_iload_n hx hb d_BR_isRegion_18 rfl (lv_at hl 1 rfl) ?_
        refine lv_iload_n hx hb d_BR_isRegion_19 rfl (lv_at hl 2 rfl) ?_
        refine bk_icmp_ge (tgt := 27) hx hb d_BR_isRegion_20 (by decide) (by omega) (by omega) (fun c20 => ?_) (fun c20 => ?_)
        · skip
          refine lv_iconst (v := iI 0) hx hb d_BR_isRegion_27 rfl ?_
          exact bk_reti (r := 0) hx hb hr iI_nar0 hlk hAe hQ hS () (by omega) hP hD d_BR_isRegion_28
        · skip
          refine lv_iconst (v := iI 1) hx hb d_BR_isRegion_23 rfl ?_
          refine lv_goto (tgt := 28) hx hb d_BR_isRegion_24 (by decide) ?_
          exact bk_reti (r := 1) hx hb hr iI_nar1 hlk hAe hQ hS () (by omega) hP hD d_BR_isRegion_28
abbrev rm_BR_binOf : Room := { frames := 0, cells := 0, slots := 0, locals := 0 }
set_option maxRecDepth 100000 in
set_option maxHeartbeats 4000000 in
theorem c_BR_binOf (l : Launch) (D : va_G) (cI cO : ClassId) (a b : Int) (ha : 0 ≤ a ∧ a < b ∧ b ≤ 4096) : Mi l y_BR_binOf b_BR_binOf 3 .int rm_BR_binOf D cI cO [.int (iI a), .int (iI b)] ([]) (fun (r : Int) (_ : Unit) => r = binI a b) (fun (_ : Unit) => []) 0 0 := by
  refine bk_start (by decide) (ble_le rfl) ?_
  intro p e s m args below meth c A ls Q hx hb hr hml hlk hown hnm hT hK hA hAe hQ hP hD hS hl
  have hown : s.vm.findClass "BinnedReads" = some m.cls := hown
  have hl : lv_has ls 3 [(0, .int (iI a)), (1, .int (iI b))] := hl
  refine lv_iload_n hx hb d_BR_binOf_0 rfl (lv_at hl 1 rfl) ?_
  refine lv_iconst (v := iI 1) hx hb d_BR_binOf_1 rfl ?_
  refine bk_sub hx hb d_BR_binOf_2 ?_
  refine lv_istore_n hx hb d_BR_binOf_3 rfl hl (by decide) rfl (fun ls hl => ?_)
  have hl : lv_has ls 3 [(2, .int (iI (b - 1))), (0, .int (iI a)), (1, .int (iI b))] := hl
  refine lv_iload_n hx hb d_BR_binOf_4 rfl (lv_at hl 1 rfl) ?_
  refine lv_bipush (v := iI 64) hx hb d_BR_binOf_5 (by decide) ?_
  refine bk_div hx hb d_BR_binOf_7 (by omega) (by omega) ?_
  refine lv_iload_n hx hb d_BR_binOf_8 rfl (lv_at hl 0 rfl) ?_
  refine lv_bipush (v := iI 64) hx hb d_BR_binOf_9 (by decide) ?_
  refine bk_div hx hb d_BR_binOf_11 (by omega) (by omega) ?_
  refine bk_icmp_ne (tgt := 23) hx hb d_BR_binOf_12 (by decide) (by omega) (by omega) (fun c12 => ?_) (fun c12 => ?_)
  · skip
    refine lv_iload_n hx hb d_BR_binOf_23 rfl (lv_at hl 1 rfl) ?_
    refine lv_sipush (v := iI 512) hx hb d_BR_binOf_24 (by decide) ?_
    refine bk_div hx hb d_BR_binOf_27 (by omega) (by omega) ?_
    refine lv_iload_n hx hb d_BR_binOf_28 rfl (lv_at hl 0 rfl) ?_
    refine lv_sipush (v := iI 512) hx hb d_BR_binOf_29 (by decide) ?_
    refine bk_div hx hb d_BR_binOf_32 (by omega) (by omega) ?_
    refine bk_icmp_ne (tgt := 44) hx hb d_BR_binOf_33 (by decide) (by omega) (by omega) (fun c33 => ?_) (fun c33 => ?_)
    · skip
      refine lv_iconst (v := iI 0) hx hb d_BR_binOf_44 rfl ?_
      exact bk_reti (r := 0) hx hb hr rfl hlk hAe hQ hS () (by unfold binI; rw [if_neg (by omega), if_neg (by omega)]) hP hD d_BR_binOf_45
    · skip
      refine lv_iconst (v := iI 1) hx hb d_BR_binOf_36 rfl ?_
      refine lv_iload_n hx hb d_BR_binOf_37 rfl (lv_at hl 1 rfl) ?_
      refine lv_sipush (v := iI 512) hx hb d_BR_binOf_38 (by decide) ?_
      refine bk_div hx hb d_BR_binOf_41 (by omega) (by omega) ?_
      refine bk_add hx hb d_BR_binOf_42 ?_
      exact bk_reti (r := 1 + (a / 512)) hx hb hr rfl hlk hAe hQ hS () (by unfold binI; rw [if_neg (by omega), if_pos (by omega)]) hP hD d_BR_binOf_43
  · skip
    refine lv_bipush (v := iI 9) hx hb d_BR_binOf_15 (by decide) ?_
    refine lv_iload_n hx hb d_BR_binOf_17 rfl (lv_at hl 1 rfl) ?_
    refine lv_bipush (v := iI 64) hx hb d_BR_binOf_18 (by decide) ?_
    refine bk_div hx hb d_BR_binOf_20 (by omega) (by omega) ?_
    refine bk_add hx hb d_BR_binOf_21 ?_
    exact bk_reti (r := 9 + (a / 64)) hx hb hr rfl hlk hAe hQ hS () (by unfold binI; rw [if_pos (by omega)]) hP hD d_BR_binOf_22
abbrev rm_BR_binMeets : Room := { frames := 0, cells := 0, slots := 0, locals := 0 }
set_option maxRecDepth 100000 in
set_option maxHeartbeats 4000000 in
theorem c_BR_binMeets (l : Launch) (D : va_G) (cI cO : ClassId) (a b d : Int) (ha : 0 ≤ a ∧ a ≤ 72) (hb1 : 0 ≤ b ∧ b ≤ 4096) (hd1 : 0 ≤ d ∧ d ≤ 4096) : Mi l y_BR_binMeets b_BR_binMeets 5 .boolean rm_BR_binMeets D cI cO [.int (iI a), .int (iI b), .int (iI d)] ([]) (fun (r : Int) (_ : Unit) => ((binB a < d ∧ b < binE a) ∧ r = 1) ∨ (¬ (binB a < d ∧ b < binE a) ∧ r = 0)) (fun (_ : Unit) => []) 0 0 := by
  refine bk_start (by decide) (ble_le rfl) ?_
  intro p e s m args below meth c A ls Q hx hb hr hml hlk hown hnm hT hK hA hAe hQ hP hD hS hl
  have hown : s.vm.findClass "BinnedReads" = some m.cls := hown
  have hl : lv_has ls 5 [(0, .int (iI a)), (1, .int (iI b)), (2, .int (iI d))] := hl
  refine lv_iconst (v := iI 0) hx hb d_BR_binMeets_0 rfl ?_
  refine lv_istore_n hx hb d_BR_binMeets_1 rfl hl (by decide) rfl (fun ls hl => ?_)
  have hl : lv_has ls 5 [(3, .int (iI 0)), (0, .int (iI a)), (1, .int (iI b)), (2, .int (iI d))] := hl
  refine lv_sipush (v := iI 4096) hx hb d_BR_binMeets_2 (by decide) ?_
  refine lv_istore hx hb d_BR_binMeets_5 hl (by decide) rfl (fun ls hl => ?_)
  have hl : lv_has ls 5 [(4, .int (iI 4096)), (3, .int (iI 0)), (0, .int (iI a)), (1, .int (iI b)), (2, .int (iI d))] := hl
  refine lv_iload_n hx hb d_BR_binMeets_7 rfl (lv_at hl 2 rfl) ?_
  refine lv_bipush (v := iI 9) hx hb d_BR_binMeets_8 (by decide) ?_
  have cut50 : ∀ (x : Int) (y : Int) (H : Heap) (locs : List Loc) (ls : Array Slot), (x = binB a) → (y = binE a) → lv_has ls 5 [(0, .int (iI a)), (1, .int (iI b)), (2, .int (iI d)), (3, .int (iI x)), (4, .int (iI y))] → va_P D classes ([]) H → va_D A ([]) → va_S A s.heap H locs → W p l e rm_BR_binMeets s m args below meth c H locs 0 0 Q (F0 m 50 ls []) := by
    intro x y H locs ls hx1 hy1 hl hP hD hS
    have hbx := binB_rg ha
    have hby := binE_rg ha
    refine lv_iload_n hx hb d_BR_binMeets_50 rfl (lv_at hl 3 rfl) ?_
    refine lv_iload_n hx hb d_BR_binMeets_51 rfl (lv_at hl 2 rfl) ?_
    refine bk_icmp_ge (tgt := 65) hx hb d_BR_binMeets_52 (by decide) (by omega) (by omega) (fun c52 => ?_) (fun c52 => ?_)
    · skip
      refine lv_iconst (v := iI 0) hx hb d_BR_binMeets_65 rfl ?_
      exact bk_reti (r := 0) hx hb hr iI_nar0 hlk hAe hQ hS () (by omega) hP hD d_BR_binMeets_66
    · skip
      refine lv_iload_n hx hb d_BR_binMeets_55 rfl (lv_at hl 1 rfl) ?_
      refine lv_iload hx hb d_BR_binMeets_56 (lv_at hl 4 rfl) ?_
      refine bk_icmp_ge (tgt := 65) hx hb d_BR_binMeets_58 (by decide) (by omega) (by omega) (fun c58 => ?_) (fun c58 => ?_)
      · skip
        refine lv_iconst (v := iI 0) hx hb d_BR_binMeets_65 rfl ?_
        exact bk_reti (r := 0) hx hb hr iI_nar0 hlk hAe hQ hS () (by omega) hP hD d_BR_binMeets_66
      · skip
        refine lv_iconst (v := iI 1) hx hb d_BR_binMeets_61 rfl ?_
        refine lv_goto (tgt := 66) hx hb d_BR_binMeets_62 (by decide) ?_
        exact bk_reti (r := 1) hx hb hr iI_nar1 hlk hAe hQ hS () (by omega) hP hD d_BR_binMeets_66
  refine bk_icmp_lt (tgt := 30) hx hb d_BR_binMeets_10 (by decide) (by omega) (by omega) (fun c10 => ?_) (fun c10 => ?_)
  · skip
    refine lv_iload_n hx hb d_BR_binMeets_30 rfl (lv_at hl 2 rfl) ?_
    refine lv_iconst (v := iI 1) hx hb d_BR_binMeets_31 rfl ?_
    refine bk_icmp_lt (tgt := 50) hx hb d_BR_binMeets_32 (by decide) (by omega) (by omega) (fun c32 => ?_) (fun c32 => ?_)
    · skip
      exact cut50 0 4096 _ _ _ (by unfold binB; rw [if_neg (by omega), if_neg (by omega)]) (by unfold binE; rw [if_neg (by omega), if_neg (by omega)]) (lv_sub hl [2, 3, 4, 1, 0] rfl) hP hD hS
    · skip
      refine lv_sipush (v := iI 512) hx hb d_BR_binMeets_35 (by decide) ?_
      refine lv_iload_n hx hb d_BR_binMeets_38 rfl (lv_at hl 2 rfl) ?_
      refine lv_iconst (v := iI 1) hx hb d_BR_binMeets_39 rfl ?_
      refine bk_sub hx hb d_BR_binMeets_40 ?_
      refine bk_mul hx hb d_BR_binMeets_41 ?_
      refine lv_istore_n hx hb d_BR_binMeets_42 rfl hl (by decide) rfl (fun ls hl => ?_)
      have hl : lv_has ls 5 [(3, .int (iI (512 * (a - 1)))), (4, .int (iI 4096)), (0, .int (iI a)), (1, .int (iI b)), (2, .int (iI d))] := hl
      refine lv_iload_n hx hb d_BR_binMeets_43 rfl (lv_at hl 0 rfl) ?_
      refine lv_sipush (v := iI 512) hx hb d_BR_binMeets_44 (by decide) ?_
      refine bk_add hx hb d_BR_binMeets_47 ?_
      refine lv_istore hx hb d_BR_binMeets_48 hl (by decide) rfl (fun ls hl => ?_)
      have hl : lv_has ls 5 [(4, .int (iI (512 * (a - 1) + 512))), (3, .int (iI (512 * (a - 1)))), (0, .int (iI a)), (1, .int (iI b)), (2, .int (iI d))] := hl
      exact cut50 (512 * (a - 1)) (512 * (a - 1) + 512) _ _ _ (by unfold binB; rw [if_neg (by omega), if_pos (by omega)]) (by unfold binE; rw [if_neg (by omega), if_pos (by omega)]) (lv_sub hl [2, 3, 4, 1, 0] rfl) hP hD hS
  · skip
    refine lv_bipush (v := iI 64) hx hb d_BR_binMeets_13 (by decide) ?_
    refine lv_iload_n hx hb d_BR_binMeets_15 rfl (lv_at hl 2 rfl) ?_
    refine lv_bipush (v := iI 9) hx hb d_BR_binMeets_16 (by decide) ?_
    refine bk_sub hx hb d_BR_binMeets_18 ?_
    refine bk_mul hx hb d_BR_binMeets_19 ?_
    refine lv_istore_n hx hb d_BR_binMeets_20 rfl hl (by decide) rfl (fun ls hl => ?_)
    have hl : lv_has ls 5 [(3, .int (iI (64 * (a - 9)))), (4, .int (iI 4096)), (0, .int (iI a)), (1, .int (iI b)), (2, .int (iI d))] := hl
    refine lv_iload_n hx hb d_BR_binMeets_21 rfl (lv_at hl 0 rfl) ?_
    refine lv_bipush (v := iI 64) hx hb d_BR_binMeets_22 (by decide) ?_
    refine bk_add hx hb d_BR_binMeets_24 ?_
    refine lv_istore hx hb d_BR_binMeets_25 hl (by decide) rfl (fun ls hl => ?_)
    have hl : lv_has ls 5 [(4, .int (iI (64 * (a - 9) + 64))), (3, .int (iI (64 * (a - 9)))), (0, .int (iI a)), (1, .int (iI b)), (2, .int (iI d))] := hl
    refine lv_goto (tgt := 50) hx hb d_BR_binMeets_27 (by decide) ?_
    exact cut50 (64 * (a - 9)) (64 * (a - 9) + 64) _ _ _ (by unfold binB; rw [if_pos (by omega)]) (by unfold binE; rw [if_pos (by omega)]) (lv_sub hl [2, 3, 4, 1, 0] rfl) hP hD hS
abbrev rm_Draft_appendOp : Room := { frames := 0, cells := 0, slots := 0, locals := 0 }
set_option maxRecDepth 100000 in
set_option maxHeartbeats 4000000 in
theorem c_Draft_appendOp (l : Launch) (D : va_G) (cI cO : ClassId) (h qo qb : Nat) (O B : Nat → Int) (no nb : Nat) (k n : Int) (hno : no ≤ 3) (hnb : nb ≤ 24) (hk1 : -2147483648 ≤ k ∧ k < 2147483648) (hn1 : -2147483648 ≤ n ∧ n < 2147483648) : Mi l y_Draft_appendOp b_Draft_appendOp 3 .boolean rm_Draft_appendOp D cI cO [.ref h, .int (iI k), .int (iI n)] ([(h, .inr (1, [.ref qo, .ref qb, .int (iI (no : Int)), .int (iI (nb : Int))])), (qo, ar cI 3 O), (qb, ar cI 24 B)]) (fun (r : Int) (u : (Nat → Int) × Nat) => ((0 ≤ k ∧ k < 4 ∧ 1 ≤ n ∧ n ≤ 63 ∧ no < 3) ∧ r = 1 ∧ u.1 = bU O no (4 * n + k) ∧ u.2 = no + 1) ∨ (¬ (0 ≤ k ∧ k < 4 ∧ 1 ≤ n ∧ n ≤ 63 ∧ no < 3) ∧ r = 0 ∧ u.1 = O ∧ u.2 = no)) (fun (u : (Nat → Int) × Nat) => [(h, .inr (1, [.ref qo, .ref qb, .int (iI (u.2 : Int)), .int (iI (nb : Int))])), (qo, ar cI 3 u.1), (qb, ar cI 24 B)]) 0 0 := by
  refine bk_start (by decide) (ble_le rfl) ?_
  intro p e s m args below meth c A ls Q hx hb hr hml hlk hown hnm hT hK hA hAe hQ hP hD hS hl
  have hown : s.vm.findClass "BinnedReads$Draft" = some m.cls := hown
  have hl : lv_has ls 3 [(0, .ref h), (1, .int (iI k)), (2, .int (iI n))] := hl
  refine lv_iload_n hx hb d_Draft_appendOp_0 rfl (lv_at hl 1 rfl) ?_
  refine bk_if_lt (tgt := 28) hx hb d_Draft_appendOp_1 (by decide) (by omega) (fun c1 => ?_) (fun c1 => ?_)
  · skip
    refine lv_iconst (v := iI 0) hx hb d_Draft_appendOp_28 rfl ?_
    exact bk_reti (r := 0) hx hb hr iI_nar0 hlk hAe hQ hS (O, no) (Or.inr ⟨by omega, rfl, rfl, rfl⟩) hP hD d_Draft_appendOp_29
  · skip
    refine lv_iload_n hx hb d_Draft_appendOp_4 rfl (lv_at hl 1 rfl) ?_
    refine lv_iconst (v := iI 4) hx hb d_Draft_appendOp_5 rfl ?_
    refine bk_icmp_ge (tgt := 28) hx hb d_Draft_appendOp_6 (by decide) (by omega) (by omega) (fun c6 => ?_) (fun c6 => ?_)
    · skip
      refine lv_iconst (v := iI 0) hx hb d_Draft_appendOp_28 rfl ?_
      exact bk_reti (r := 0) hx hb hr iI_nar0 hlk hAe hQ hS (O, no) (Or.inr ⟨by omega, rfl, rfl, rfl⟩) hP hD d_Draft_appendOp_29
    · skip
      refine lv_iload_n hx hb d_Draft_appendOp_9 rfl (lv_at hl 2 rfl) ?_
      refine lv_iconst (v := iI 1) hx hb d_Draft_appendOp_10 rfl ?_
      refine bk_icmp_lt (tgt := 28) hx hb d_Draft_appendOp_11 (by decide) (by omega) (by omega) (fun c11 => ?_) (fun c11 => ?_)
      · skip
        refine lv_iconst (v := iI 0) hx hb d_Draft_appendOp_28 rfl ?_
        exact bk_reti (r := 0) hx hb hr iI_nar0 hlk hAe hQ hS (O, no) (Or.inr ⟨by omega, rfl, rfl, rfl⟩) hP hD d_Draft_appendOp_29
      · skip
        refine lv_iload_n hx hb d_Draft_appendOp_14 rfl (lv_at hl 2 rfl) ?_
        refine lv_bipush (v := iI 63) hx hb d_Draft_appendOp_15 (by decide) ?_
        refine bk_icmp_gt (tgt := 28) hx hb d_Draft_appendOp_17 (by decide) (by omega) (by omega) (fun c17 => ?_) (fun c17 => ?_)
        · skip
          refine lv_iconst (v := iI 0) hx hb d_Draft_appendOp_28 rfl ?_
          exact bk_reti (r := 0) hx hb hr iI_nar0 hlk hAe hQ hS (O, no) (Or.inr ⟨by omega, rfl, rfl, rfl⟩) hP hD d_Draft_appendOp_29
        · skip
          refine lv_aload_n hx hb d_Draft_appendOp_20 rfl (lv_at hl 0 rfl) ?_
          refine va_get (ci := 1) (C := R_Draft) (T := F_Draft) (N := 4) hx hb hT in_Draft hown hK.1 hP 0 rfl rfl 2 (by decide) (hT _ tw_26) (fun _ h => h) rfl d_Draft_appendOp_21 ?_
          refine lv_iconst (v := iI 3) hx hb d_Draft_appendOp_24 rfl ?_
          refine bk_icmp_lt (tgt := 30) hx hb d_Draft_appendOp_25 (by decide) (by omega) (by omega) (fun c25 => ?_) (fun c25 => ?_)
          · skip
            refine lv_aload_n hx hb d_Draft_appendOp_30 rfl (lv_at hl 0 rfl) ?_
            refine va_get (ci := 1) (C := R_Draft) (T := F_Draft) (N := 4) hx hb hT in_Draft hown hK.1 hP 0 rfl rfl 0 (by decide) (hT _ tw_23) (fun _ h => h) rfl d_Draft_appendOp_31 ?_
            refine lv_aload_n hx hb d_Draft_appendOp_34 rfl (lv_at hl 0 rfl) ?_
            refine lv_dup hx hb d_Draft_appendOp_35 rfl ?_
            refine va_get (ci := 1) (C := R_Draft) (T := F_Draft) (N := 4) hx hb hT in_Draft hown hK.1 hP 0 rfl rfl 2 (by decide) (hT _ tw_26) (fun _ h => h) rfl d_Draft_appendOp_36 ?_
            refine lv_dup_x1 hx hb d_Draft_appendOp_39 rfl rfl ?_
            refine lv_iconst (v := iI 1) hx hb d_Draft_appendOp_40 rfl ?_
            refine bk_add hx hb d_Draft_appendOp_41 ?_
            refine bk_top (y := iI ((no + 1 : Nat) : Int)) (congrArg iI (by omega)) ?_
            refine va_put (ci := 1) (v := .int (iI ((no + 1 : Nat) : Int))) (ty := .int) (C := R_Draft) (T := F_Draft) (N := 4) hx hb hT in_Draft t_Draft to_Draft n_Draft hown hK.1 hP hD hS 0 rfl rfl 2 (by decide) (hT _ tw_26) (fun _ h => h) rfl (by decide +kernel) rfl rfl (ble_lt rfl) d_Draft_appendOp_42 (fun H locs hP hD hS => ?_)
            have hP : va_P D classes ([(h, .inr (1, [.ref qo, .ref qb, .int (iI ((no + 1 : Nat) : Int)), .int (iI (nb : Int))])), (qo, ar cI 3 O), (qb, ar cI 24 B)]) H := hP
            have hD : va_D A ([(h, .inr (1, [.ref qo, .ref qb, .int (iI ((no + 1 : Nat) : Int)), .int (iI (nb : Int))])), (qo, ar cI 3 O), (qb, ar cI 24 B)]) := hD
            refine lv_iconst (v := iI 4) hx hb d_Draft_appendOp_45 rfl ?_
            refine lv_iload_n hx hb d_Draft_appendOp_46 rfl (lv_at hl 2 rfl) ?_
            refine bk_mul hx hb d_Draft_appendOp_47 ?_
            refine lv_iload_n hx hb d_Draft_appendOp_48 rfl (lv_at hl 1 rfl) ?_
            refine bk_add hx hb d_Draft_appendOp_49 ?_
            refine bk_iast hx hb hK.1 hP hD hS 1 0 rfl rfl no (by omega) (by decide) d_Draft_appendOp_50 (fun H locs hP hD hS => ?_)
            have hP : va_P D classes ([(h, .inr (1, [.ref qo, .ref qb, .int (iI ((no + 1 : Nat) : Int)), .int (iI (nb : Int))])), (qo, ar cI 3 (bU O no (4 * n + k))), (qb, ar cI 24 B)]) H := hP
            have hD : va_D A ([(h, .inr (1, [.ref qo, .ref qb, .int (iI ((no + 1 : Nat) : Int)), .int (iI (nb : Int))])), (qo, ar cI 3 (bU O no (4 * n + k))), (qb, ar cI 24 B)]) := hD
            refine lv_iconst (v := iI 1) hx hb d_Draft_appendOp_51 rfl ?_
            exact bk_reti (r := 1) hx hb hr iI_nar1 hlk hAe hQ hS (bU O no (4 * n + k), no + 1) (Or.inl ⟨by omega, rfl, rfl, rfl⟩) hP hD d_Draft_appendOp_52
          · skip
            refine lv_iconst (v := iI 0) hx hb d_Draft_appendOp_28 rfl ?_
            exact bk_reti (r := 0) hx hb hr iI_nar0 hlk hAe hQ hS (O, no) (Or.inr ⟨by omega, rfl, rfl, rfl⟩) hP hD d_Draft_appendOp_29
abbrev rm_Draft_appendBase : Room := { frames := 0, cells := 0, slots := 0, locals := 0 }
set_option maxRecDepth 100000 in
set_option maxHeartbeats 4000000 in
theorem c_Draft_appendBase (l : Launch) (D : va_G) (cI cO : ClassId) (h qo qb : Nat) (O B : Nat → Int) (no nb : Nat) (k : Int) (hno : no ≤ 3) (hnb : nb ≤ 24) (hk1 : -2147483648 ≤ k ∧ k < 2147483648) : Mi l y_Draft_appendBase b_Draft_appendBase 2 .boolean rm_Draft_appendBase D cI cO [.ref h, .int (iI k)] ([(h, .inr (1, [.ref qo, .ref qb, .int (iI (no : Int)), .int (iI (nb : Int))])), (qo, ar cI 3 O), (qb, ar cI 24 B)]) (fun (r : Int) (u : (Nat → Int) × Nat) => ((0 ≤ k ∧ k ≤ 15 ∧ nb < 24) ∧ r = 1 ∧ u.1 = bU B nb k ∧ u.2 = nb + 1) ∨ (¬ (0 ≤ k ∧ k ≤ 15 ∧ nb < 24) ∧ r = 0 ∧ u.1 = B ∧ u.2 = nb)) (fun (u : (Nat → Int) × Nat) => [(h, .inr (1, [.ref qo, .ref qb, .int (iI (no : Int)), .int (iI (u.2 : Int))])), (qo, ar cI 3 O), (qb, ar cI 24 u.1)]) 0 0 := by
  refine bk_start (by decide) (ble_le rfl) ?_
  intro p e s m args below meth c A ls Q hx hb hr hml hlk hown hnm hT hK hA hAe hQ hP hD hS hl
  have hown : s.vm.findClass "BinnedReads$Draft" = some m.cls := hown
  have hl : lv_has ls 2 [(0, .ref h), (1, .int (iI k))] := hl
  refine lv_iload_n hx hb d_Draft_appendBase_0 rfl (lv_at hl 1 rfl) ?_
  refine bk_if_lt (tgt := 19) hx hb d_Draft_appendBase_1 (by decide) (by omega) (fun c1 => ?_) (fun c1 => ?_)
  · skip
    refine lv_iconst (v := iI 0) hx hb d_Draft_appendBase_19 rfl ?_
    exact bk_reti (r := 0) hx hb hr iI_nar0 hlk hAe hQ hS (B, nb) (Or.inr ⟨by omega, rfl, rfl, rfl⟩) hP hD d_Draft_appendBase_20
  · skip
    refine lv_iload_n hx hb d_Draft_appendBase_4 rfl (lv_at hl 1 rfl) ?_
    refine lv_bipush (v := iI 15) hx hb d_Draft_appendBase_5 (by decide) ?_
    refine bk_icmp_gt (tgt := 19) hx hb d_Draft_appendBase_7 (by decide) (by omega) (by omega) (fun c7 => ?_) (fun c7 => ?_)
    · skip
      refine lv_iconst (v := iI 0) hx hb d_Draft_appendBase_19 rfl ?_
      exact bk_reti (r := 0) hx hb hr iI_nar0 hlk hAe hQ hS (B, nb) (Or.inr ⟨by omega, rfl, rfl, rfl⟩) hP hD d_Draft_appendBase_20
    · skip
      refine lv_aload_n hx hb d_Draft_appendBase_10 rfl (lv_at hl 0 rfl) ?_
      refine va_get (ci := 1) (C := R_Draft) (T := F_Draft) (N := 4) hx hb hT in_Draft hown hK.1 hP 0 rfl rfl 3 (by decide) (hT _ tw_28) (fun _ h => h) rfl d_Draft_appendBase_11 ?_
      refine lv_bipush (v := iI 24) hx hb d_Draft_appendBase_14 (by decide) ?_
      refine bk_icmp_lt (tgt := 21) hx hb d_Draft_appendBase_16 (by decide) (by omega) (by omega) (fun c16 => ?_) (fun c16 => ?_)
      · skip
        refine lv_aload_n hx hb d_Draft_appendBase_21 rfl (lv_at hl 0 rfl) ?_
        refine va_get (ci := 1) (C := R_Draft) (T := F_Draft) (N := 4) hx hb hT in_Draft hown hK.1 hP 0 rfl rfl 1 (by decide) (hT _ tw_25) (fun _ h => h) rfl d_Draft_appendBase_22 ?_
        refine lv_aload_n hx hb d_Draft_appendBase_25 rfl (lv_at hl 0 rfl) ?_
        refine lv_dup hx hb d_Draft_appendBase_26 rfl ?_
        refine va_get (ci := 1) (C := R_Draft) (T := F_Draft) (N := 4) hx hb hT in_Draft hown hK.1 hP 0 rfl rfl 3 (by decide) (hT _ tw_28) (fun _ h => h) rfl d_Draft_appendBase_27 ?_
        refine lv_dup_x1 hx hb d_Draft_appendBase_30 rfl rfl ?_
        refine lv_iconst (v := iI 1) hx hb d_Draft_appendBase_31 rfl ?_
        refine bk_add hx hb d_Draft_appendBase_32 ?_
        refine bk_top (y := iI ((nb + 1 : Nat) : Int)) (congrArg iI (by omega)) ?_
        refine va_put (ci := 1) (v := .int (iI ((nb + 1 : Nat) : Int))) (ty := .int) (C := R_Draft) (T := F_Draft) (N := 4) hx hb hT in_Draft t_Draft to_Draft n_Draft hown hK.1 hP hD hS 0 rfl rfl 3 (by decide) (hT _ tw_28) (fun _ h => h) rfl (by decide +kernel) rfl rfl (ble_lt rfl) d_Draft_appendBase_33 (fun H locs hP hD hS => ?_)
        have hP : va_P D classes ([(h, .inr (1, [.ref qo, .ref qb, .int (iI (no : Int)), .int (iI ((nb + 1 : Nat) : Int))])), (qo, ar cI 3 O), (qb, ar cI 24 B)]) H := hP
        have hD : va_D A ([(h, .inr (1, [.ref qo, .ref qb, .int (iI (no : Int)), .int (iI ((nb + 1 : Nat) : Int))])), (qo, ar cI 3 O), (qb, ar cI 24 B)]) := hD
        refine lv_iload_n hx hb d_Draft_appendBase_36 rfl (lv_at hl 1 rfl) ?_
        refine bk_iast hx hb hK.1 hP hD hS 2 0 rfl rfl nb (by omega) (by decide) d_Draft_appendBase_37 (fun H locs hP hD hS => ?_)
        have hP : va_P D classes ([(h, .inr (1, [.ref qo, .ref qb, .int (iI (no : Int)), .int (iI ((nb + 1 : Nat) : Int))])), (qo, ar cI 3 O), (qb, ar cI 24 (bU B nb k))]) H := hP
        have hD : va_D A ([(h, .inr (1, [.ref qo, .ref qb, .int (iI (no : Int)), .int (iI ((nb + 1 : Nat) : Int))])), (qo, ar cI 3 O), (qb, ar cI 24 (bU B nb k))]) := hD
        refine lv_iconst (v := iI 1) hx hb d_Draft_appendBase_38 rfl ?_
        exact bk_reti (r := 1) hx hb hr iI_nar1 hlk hAe hQ hS (bU B nb k, nb + 1) (Or.inl ⟨by omega, rfl, rfl, rfl⟩) hP hD d_Draft_appendBase_39
      · skip
        refine lv_iconst (v := iI 0) hx hb d_Draft_appendBase_19 rfl ?_
        exact bk_reti (r := 0) hx hb hr iI_nar0 hlk hAe hQ hS (B, nb) (Or.inr ⟨by omega, rfl, rfl, rfl⟩) hP hD d_Draft_appendBase_20
abbrev rm_Draft_empty : Room := { frames := 0, cells := 0, slots := 0, locals := 0 }
set_option maxRecDepth 100000 in
set_option maxHeartbeats 4000000 in
theorem c_Draft_empty (l : Launch) (D : va_G) (cI cO : ClassId) (h qo qb : Nat) (O B : Nat → Int) (no nb : Nat) : Mv l y_Draft_empty b_Draft_empty 1 rm_Draft_empty D cI cO [.ref h] ([(h, .inr (1, [.ref qo, .ref qb, .int (iI (no : Int)), .int (iI (nb : Int))])), (qo, ar cI 3 O), (qb, ar cI 24 B)]) (fun (_ : Unit) => True) (fun (_ : Unit) => [(h, .inr (1, [.ref qo, .ref qb, .int (iI 0), .int (iI 0)])), (qo, ar cI 3 O), (qb, ar cI 24 B)]) 0 0 := by
  refine bk_start (by decide) (ble_le rfl) ?_
  intro p e s m args below meth c A ls Q hx hb hr hml hlk hown hnm hT hK hA hAe hQ hP hD hS hl
  have hown : s.vm.findClass "BinnedReads$Draft" = some m.cls := hown
  have hl : lv_has ls 1 [(0, .ref h)] := hl
  refine lv_aload_n hx hb d_Draft_empty_0 rfl (lv_at hl 0 rfl) ?_
  refine lv_iconst (v := iI 0) hx hb d_Draft_empty_1 rfl ?_
  refine va_put (ci := 1) (v := .int (iI 0)) (ty := .int) (C := R_Draft) (T := F_Draft) (N := 4) hx hb hT in_Draft t_Draft to_Draft n_Draft hown hK.1 hP hD hS 0 rfl rfl 2 (by decide) (hT _ tw_26) (fun _ h => h) rfl (by decide +kernel) rfl rfl (ble_lt rfl) d_Draft_empty_2 (fun H locs hP hD hS => ?_)
  have hP : va_P D classes ([(h, .inr (1, [.ref qo, .ref qb, .int (iI 0), .int (iI (nb : Int))])), (qo, ar cI 3 O), (qb, ar cI 24 B)]) H := hP
  have hD : va_D A ([(h, .inr (1, [.ref qo, .ref qb, .int (iI 0), .int (iI (nb : Int))])), (qo, ar cI 3 O), (qb, ar cI 24 B)]) := hD
  refine lv_aload_n hx hb d_Draft_empty_5 rfl (lv_at hl 0 rfl) ?_
  refine lv_iconst (v := iI 0) hx hb d_Draft_empty_6 rfl ?_
  refine va_put (ci := 1) (v := .int (iI 0)) (ty := .int) (C := R_Draft) (T := F_Draft) (N := 4) hx hb hT in_Draft t_Draft to_Draft n_Draft hown hK.1 hP hD hS 0 rfl rfl 3 (by decide) (hT _ tw_28) (fun _ h => h) rfl (by decide +kernel) rfl rfl (ble_lt rfl) d_Draft_empty_7 (fun H locs hP hD hS => ?_)
  have hP : va_P D classes ([(h, .inr (1, [.ref qo, .ref qb, .int (iI 0), .int (iI 0)])), (qo, ar cI 3 O), (qb, ar cI 24 B)]) H := hP
  have hD : va_D A ([(h, .inr (1, [.ref qo, .ref qb, .int (iI 0), .int (iI 0)])), (qo, ar cI 3 O), (qb, ar cI 24 B)]) := hD
  exact bk_retv hx hb hr hlk hAe hQ hS () trivial hP hD d_Draft_empty_10
abbrev rm_Draft_span : Room := { frames := 2, cells := 0, slots := 0, locals := 45 }
set_option maxRecDepth 100000 in
set_option maxHeartbeats 4000000 in
theorem c_Draft_span (l : Launch) (D : va_G) (cI cO : ClassId) (h qo qb : Nat) (O B : Nat → Int) (no nb : Nat) (hno : no ≤ 3) (hnb : nb ≤ 24) (hO : ∀ i, i < no → 0 ≤ O i ∧ O i ≤ 255) : Mi l y_Draft_span b_Draft_span 1 .int rm_Draft_span D cI cO [.ref h] ([(h, .inr (1, [.ref qo, .ref qb, .int (iI (no : Int)), .int (iI (nb : Int))])), (qo, ar cI 3 O), (qb, ar cI 24 B)]) (fun (r : Int) (_ : Unit) => r = spanN (fun z => O (0 + z)) no) (fun (_ : Unit) => [(h, .inr (1, [.ref qo, .ref qb, .int (iI (no : Int)), .int (iI (nb : Int))])), (qo, ar cI 3 O), (qb, ar cI 24 B)]) 0 0 := by
  refine bk_start (by decide) (ble_le rfl) ?_
  intro p e s m args below meth c A ls Q hx hb hr hml hlk hown hnm hT hK hA hAe hQ hP hD hS hl
  have hown : s.vm.findClass "BinnedReads$Draft" = some m.cls := hown
  have hl : lv_has ls 1 [(0, .ref h)] := hl
  refine lv_aload_n hx hb d_Draft_span_0 rfl (lv_at hl 0 rfl) ?_
  refine va_get (ci := 1) (C := R_Draft) (T := F_Draft) (N := 4) hx hb hT in_Draft hown hK.1 hP 0 rfl rfl 0 (by decide) (hT _ tw_23) (fun _ h => h) rfl d_Draft_span_1 ?_
  refine lv_iconst (v := iI 0) hx hb d_Draft_span_4 rfl ?_
  refine lv_aload_n hx hb d_Draft_span_5 rfl (lv_at hl 0 rfl) ?_
  refine va_get (ci := 1) (C := R_Draft) (T := F_Draft) (N := 4) hx hb hT in_Draft hown hK.1 hP 0 rfl rfl 2 (by decide) (hT _ tw_26) (fun _ h => h) rfl d_Draft_span_6 ?_
  refine bk_fR (ws := [(h, .inr (1, [.ref qo, .ref qb, .int (iI (no : Int)), .int (iI (nb : Int))])), (qo, ar cI 3 O), (qb, ar cI 24 B)]) (Wc := [(qo, ar cI 3 O)]) (fun _ => rfl) (bk_hs (X := [(h, .inr (1, [.ref qo, .ref qb, .int (iI (no : Int)), .int (iI (nb : Int))])), (qo, ar cI 3 O), (qb, ar cI 24 B)]) (pl := []) (Wc := [(qo, ar cI 3 O)]) [1] rfl) hP hD hS hA (bk_rSN (rest := []) (host := "BinnedReads") hx hb hml hown hT hK (c_BR_spanOf l D cI cO qo 3 O 0 no (by omega) (fun i hi => by rw [Nat.zero_add]; exact hO i hi)) (bk_subP (X := [(h, .inr (1, [.ref qo, .ref qb, .int (iI (no : Int)), .int (iI (nb : Int))])), (qo, ar cI 3 O), (qb, ar cI 24 B)]) (pl := []) (Wc := [(qo, ar cI 3 O)]) hP [1] rfl) (bk_subD (X := [(h, .inr (1, [.ref qo, .ref qb, .int (iI (no : Int)), .int (iI (nb : Int))])), (qo, ar cI 3 O), (qb, ar cI 24 B)]) (pl := []) (Wc := [(qo, ar cI 3 O)]) hD [1] (by decide) rfl) (by decide) tw_201 tw_1 tw_202 hd_BR_spanOf.2 ⟨rfl, rfl⟩ (by decide) hl.1 rfl (ble_le rfl) d_Draft_span_9 (by decide)) (fun r9 u H locs hq hP hS => ?_)
  have hq : r9 = spanN (fun z => O (0 + z)) no := hq
  obtain rfl := hq
  exact bk_reti (r := spanN (fun z => O (0 + z)) no) hx hb hr rfl hlk hAe hQ hS () rfl hP hD d_Draft_span_12
abbrev rm_Draft_width : Room := { frames := 1, cells := 0, slots := 0, locals := 20 }
set_option maxRecDepth 100000 in
set_option maxHeartbeats 4000000 in
theorem c_Draft_width (l : Launch) (D : va_G) (cI cO : ClassId) (h qo qb : Nat) (O B : Nat → Int) (no nb : Nat) (hno : no ≤ 3) (hnb : nb ≤ 24) (hO : ∀ i, i < no → 0 ≤ O i ∧ O i ≤ 255) : Mi l y_Draft_width b_Draft_width 3 .int rm_Draft_width D cI cO [.ref h] ([(h, .inr (1, [.ref qo, .ref qb, .int (iI (no : Int)), .int (iI (nb : Int))])), (qo, ar cI 3 O), (qb, ar cI 24 B)]) (fun (r : Int) (_ : Unit) => r = widthN O no) (fun (_ : Unit) => [(h, .inr (1, [.ref qo, .ref qb, .int (iI (no : Int)), .int (iI (nb : Int))])), (qo, ar cI 3 O), (qb, ar cI 24 B)]) 0 0 := by
  refine bk_start (by decide) (ble_le rfl) ?_
  intro p e s m args below meth c A ls Q hx hb hr hml hlk hown hnm hT hK hA hAe hQ hP hD hS hl
  have hown : s.vm.findClass "BinnedReads$Draft" = some m.cls := hown
  have hl : lv_has ls 3 [(0, .ref h)] := hl
  refine lv_iconst (v := iI 0) hx hb d_Draft_width_0 rfl ?_
  refine lv_istore_n hx hb d_Draft_width_1 rfl hl (by decide) rfl (fun ls hl => ?_)
  have hl : lv_has ls 3 [(1, .int (iI 0)), (0, .ref h)] := hl
  refine lv_iconst (v := iI 0) hx hb d_Draft_width_2 rfl ?_
  refine lv_istore_n hx hb d_Draft_width_3 rfl hl (by decide) rfl (fun ls hl => ?_)
  have hl : lv_has ls 3 [(2, .int (iI 0)), (1, .int (iI 0)), (0, .ref h)] := hl
  have cut4 : ∀ (N0 : Nat) (i : Nat) (H : Heap) (locs : List Loc) (ls : Array Slot), no - i = N0 → (i ≤ no) → lv_has ls 3 [(0, .ref h), (1, .int (iI (widthN O i))), (2, .int (iI (i : Int)))] → va_P D classes ([(h, .inr (1, [.ref qo, .ref qb, .int (iI (no : Int)), .int (iI (nb : Int))])), (qo, ar cI 3 O), (qb, ar cI 24 B)]) H → va_D A ([(h, .inr (1, [.ref qo, .ref qb, .int (iI (no : Int)), .int (iI (nb : Int))])), (qo, ar cI 3 O), (qb, ar cI 24 B)]) → va_S A s.heap H locs → W p l e rm_Draft_width s m args below meth c H locs 0 0 Q (F0 m 4 ls []) := by
    intro N0
    induction N0 using Nat.strongRecOn with
    | _ N0 ih4 =>
      intro i H locs ls hN4 hi hl hP hD hS
      have hwd := widthN_rg (G := O) (k := i) (fun z hz => hO z (by omega))
      refine lv_iload_n hx hb d_Draft_width_4 rfl (lv_at hl 2 rfl) ?_
      refine lv_aload_n hx hb d_Draft_width_5 rfl (lv_at hl 0 rfl) ?_
      refine va_get (ci := 1) (C := R_Draft) (T := F_Draft) (N := 4) hx hb hT in_Draft hown hK.1 hP 0 rfl rfl 2 (by decide) (hT _ tw_26) (fun _ h => h) rfl d_Draft_width_6 ?_
      refine bk_icmp_ge (tgt := 55) hx hb d_Draft_width_9 (by decide) (by omega) (by omega) (fun c9 => ?_) (fun c9 => ?_)
      · skip
        refine lv_iload_n hx hb d_Draft_width_55 rfl (lv_at hl 1 rfl) ?_
        exact bk_reti (r := widthN O i) hx hb hr rfl hlk hAe hQ hS () (by rw [show no = i by omega]) hP hD d_Draft_width_56
      · skip
        have hOi := hO i (by omega)
        refine lv_aload_n hx hb d_Draft_width_12 rfl (lv_at hl 0 rfl) ?_
        refine va_get (ci := 1) (C := R_Draft) (T := F_Draft) (N := 4) hx hb hT in_Draft hown hK.1 hP 0 rfl rfl 0 (by decide) (hT _ tw_23) (fun _ h => h) rfl d_Draft_width_13 ?_
        refine lv_iload_n hx hb d_Draft_width_16 rfl (lv_at hl 2 rfl) ?_
        refine bk_iald hx hb hK.1 hP 1 0 rfl rfl i (by omega) (by decide) d_Draft_width_17 ?_
        refine bk_fR (ws := [(h, .inr (1, [.ref qo, .ref qb, .int (iI (no : Int)), .int (iI (nb : Int))])), (qo, ar cI 3 O), (qb, ar cI 24 B)]) (Wc := []) (fun _ => rfl) (bk_hs (X := [(h, .inr (1, [.ref qo, .ref qb, .int (iI (no : Int)), .int (iI (nb : Int))])), (qo, ar cI 3 O), (qb, ar cI 24 B)]) (pl := []) (Wc := []) [] rfl) hP hD hS hA (bk_rSN (rest := []) (host := "BinnedReads") hx hb hml hown hT hK (c_BR_kindOf l D cI cO (O i) (by omega)) (bk_subP (X := [(h, .inr (1, [.ref qo, .ref qb, .int (iI (no : Int)), .int (iI (nb : Int))])), (qo, ar cI 3 O), (qb, ar cI 24 B)]) (pl := []) (Wc := []) hP [] rfl) (bk_subD (X := [(h, .inr (1, [.ref qo, .ref qb, .int (iI (no : Int)), .int (iI (nb : Int))])), (qo, ar cI 3 O), (qb, ar cI 24 B)]) (pl := []) (Wc := []) hD [] (by decide) rfl) (by decide) tw_204 tw_1 tw_205 hd_BR_kindOf.2 ⟨rfl, rfl⟩ (by decide) hl.1 rfl (ble_le rfl) d_Draft_width_18 (by decide)) (fun r18 u H locs hq hP hS => ?_)
        have hq : r18 = (O i) % 4 := hq
        obtain rfl := hq
        refine bk_if_eq (tgt := 37) hx hb d_Draft_width_21 (by decide) (by omega) (fun c21 => ?_) (fun c21 => ?_)
        · skip
          refine lv_iload_n hx hb d_Draft_width_37 rfl (lv_at hl 1 rfl) ?_
          refine lv_aload_n hx hb d_Draft_width_38 rfl (lv_at hl 0 rfl) ?_
          refine va_get (ci := 1) (C := R_Draft) (T := F_Draft) (N := 4) hx hb hT in_Draft hown hK.1 hP 0 rfl rfl 0 (by decide) (hT _ tw_23) (fun _ h => h) rfl d_Draft_width_39 ?_
          refine lv_iload_n hx hb d_Draft_width_42 rfl (lv_at hl 2 rfl) ?_
          refine bk_iald hx hb hK.1 hP 1 0 rfl rfl i (by omega) (by decide) d_Draft_width_43 ?_
          refine bk_fR (ws := [(h, .inr (1, [.ref qo, .ref qb, .int (iI (no : Int)), .int (iI (nb : Int))])), (qo, ar cI 3 O), (qb, ar cI 24 B)]) (Wc := []) (fun _ => rfl) (bk_hs (X := [(h, .inr (1, [.ref qo, .ref qb, .int (iI (no : Int)), .int (iI (nb : Int))])), (qo, ar cI 3 O), (qb, ar cI 24 B)]) (pl := []) (Wc := []) [] rfl) hP hD hS hA (bk_rSN (rest := [.int (iI (widthN O i))]) (host := "BinnedReads") hx hb hml hown hT hK (c_BR_lengthOf l D cI cO (O i) (by omega)) (bk_subP (X := [(h, .inr (1, [.ref qo, .ref qb, .int (iI (no : Int)), .int (iI (nb : Int))])), (qo, ar cI 3 O), (qb, ar cI 24 B)]) (pl := []) (Wc := []) hP [] rfl) (bk_subD (X := [(h, .inr (1, [.ref qo, .ref qb, .int (iI (no : Int)), .int (iI (nb : Int))])), (qo, ar cI 3 O), (qb, ar cI 24 B)]) (pl := []) (Wc := []) hD [] (by decide) rfl) (by decide) tw_207 tw_1 tw_208 hd_BR_lengthOf.2 ⟨rfl, rfl⟩ (by decide) hl.1 rfl (ble_le rfl) d_Draft_width_44 (by decide)) (fun r44 u H locs hq hP hS => ?_)
          have hq : r44 = (O i) / 4 := hq
          obtain rfl := hq
          refine bk_add hx hb d_Draft_width_47 ?_
          refine bk_top (y := iI (widthN O (i + 1))) (congrArg iI (widthN_step (by omega)).symm) ?_
          refine lv_istore_n hx hb d_Draft_width_48 rfl hl (by decide) rfl (fun ls hl => ?_)
          have hl : lv_has ls 3 [(1, .int (iI (widthN O (i + 1)))), (0, .ref h), (2, .int (iI (i : Int)))] := hl
          refine lv_iinc (k := 2) (v := iI ((i + 1 : Nat) : Int)) hx hb d_Draft_width_49 hl rfl ((iI_add _ _).trans (congrArg iI (by omega))) (by decide) rfl (fun ls hl => ?_)
          have hl : lv_has ls 3 [(2, .int (iI ((i + 1 : Nat) : Int))), (1, .int (iI (widthN O (i + 1)))), (0, .ref h)] := hl
          refine lv_goto (tgt := 4) hx hb d_Draft_width_52 (by decide) ?_
          exact ih4 (no - (i + 1)) (by omega) (i + 1) _ _ _ rfl (by omega) (lv_sub hl [2, 1, 0] rfl) hP hD hS
        · skip
          refine lv_aload_n hx hb d_Draft_width_24 rfl (lv_at hl 0 rfl) ?_
          refine va_get (ci := 1) (C := R_Draft) (T := F_Draft) (N := 4) hx hb hT in_Draft hown hK.1 hP 0 rfl rfl 0 (by decide) (hT _ tw_23) (fun _ h => h) rfl d_Draft_width_25 ?_
          refine lv_iload_n hx hb d_Draft_width_28 rfl (lv_at hl 2 rfl) ?_
          refine bk_iald hx hb hK.1 hP 1 0 rfl rfl i (by omega) (by decide) d_Draft_width_29 ?_
          refine bk_fR (ws := [(h, .inr (1, [.ref qo, .ref qb, .int (iI (no : Int)), .int (iI (nb : Int))])), (qo, ar cI 3 O), (qb, ar cI 24 B)]) (Wc := []) (fun _ => rfl) (bk_hs (X := [(h, .inr (1, [.ref qo, .ref qb, .int (iI (no : Int)), .int (iI (nb : Int))])), (qo, ar cI 3 O), (qb, ar cI 24 B)]) (pl := []) (Wc := []) [] rfl) hP hD hS hA (bk_rSN (rest := []) (host := "BinnedReads") hx hb hml hown hT hK (c_BR_kindOf l D cI cO (O i) (by omega)) (bk_subP (X := [(h, .inr (1, [.ref qo, .ref qb, .int (iI (no : Int)), .int (iI (nb : Int))])), (qo, ar cI 3 O), (qb, ar cI 24 B)]) (pl := []) (Wc := []) hP [] rfl) (bk_subD (X := [(h, .inr (1, [.ref qo, .ref qb, .int (iI (no : Int)), .int (iI (nb : Int))])), (qo, ar cI 3 O), (qb, ar cI 24 B)]) (pl := []) (Wc := []) hD [] (by decide) rfl) (by decide) tw_204 tw_1 tw_205 hd_BR_kindOf.2 ⟨rfl, rfl⟩ (by decide) hl.1 rfl (ble_le rfl) d_Draft_width_30 (by decide)) (fun r30 u H locs hq hP hS => ?_)
          have hq : r30 = (O i) % 4 := hq
          obtain rfl := hq
          refine lv_iconst (v := iI 1) hx hb d_Draft_width_33 rfl ?_
          refine bk_icmp_ne (tgt := 49) hx hb d_Draft_width_34 (by decide) (by omega) (by omega) (fun c34 => ?_) (fun c34 => ?_)
          · skip
            have hl : lv_has ls 3 [(0, .ref h), (1, .int (iI (widthN O (i + 1)))), (2, .int (iI (i : Int)))] := by
              rw [show widthN O (i + 1) = widthN O i from widthN_skip (by omega) (by omega)]
              exact hl
            refine lv_iinc (k := 2) (v := iI ((i + 1 : Nat) : Int)) hx hb d_Draft_width_49 hl rfl ((iI_add _ _).trans (congrArg iI (by omega))) (by decide) rfl (fun ls hl => ?_)
            have hl : lv_has ls 3 [(2, .int (iI ((i + 1 : Nat) : Int))), (0, .ref h), (1, .int (iI (widthN O (i + 1))))] := hl
            refine lv_goto (tgt := 4) hx hb d_Draft_width_52 (by decide) ?_
            exact ih4 (no - (i + 1)) (by omega) (i + 1) _ _ _ rfl (by omega) (lv_sub hl [1, 2, 0] rfl) hP hD hS
          · skip
            refine lv_iload_n hx hb d_Draft_width_37 rfl (lv_at hl 1 rfl) ?_
            refine lv_aload_n hx hb d_Draft_width_38 rfl (lv_at hl 0 rfl) ?_
            refine va_get (ci := 1) (C := R_Draft) (T := F_Draft) (N := 4) hx hb hT in_Draft hown hK.1 hP 0 rfl rfl 0 (by decide) (hT _ tw_23) (fun _ h => h) rfl d_Draft_width_39 ?_
            refine lv_iload_n hx hb d_Draft_width_42 rfl (lv_at hl 2 rfl) ?_
            refine bk_iald hx hb hK.1 hP 1 0 rfl rfl i (by omega) (by decide) d_Draft_width_43 ?_
            refine bk_fR (ws := [(h, .inr (1, [.ref qo, .ref qb, .int (iI (no : Int)), .int (iI (nb : Int))])), (qo, ar cI 3 O), (qb, ar cI 24 B)]) (Wc := []) (fun _ => rfl) (bk_hs (X := [(h, .inr (1, [.ref qo, .ref qb, .int (iI (no : Int)), .int (iI (nb : Int))])), (qo, ar cI 3 O), (qb, ar cI 24 B)]) (pl := []) (Wc := []) [] rfl) hP hD hS hA (bk_rSN (rest := [.int (iI (widthN O i))]) (host := "BinnedReads") hx hb hml hown hT hK (c_BR_lengthOf l D cI cO (O i) (by omega)) (bk_subP (X := [(h, .inr (1, [.ref qo, .ref qb, .int (iI (no : Int)), .int (iI (nb : Int))])), (qo, ar cI 3 O), (qb, ar cI 24 B)]) (pl := []) (Wc := []) hP [] rfl) (bk_subD (X := [(h, .inr (1, [.ref qo, .ref qb, .int (iI (no : Int)), .int (iI (nb : Int))])), (qo, ar cI 3 O), (qb, ar cI 24 B)]) (pl := []) (Wc := []) hD [] (by decide) rfl) (by decide) tw_207 tw_1 tw_208 hd_BR_lengthOf.2 ⟨rfl, rfl⟩ (by decide) hl.1 rfl (ble_le rfl) d_Draft_width_44 (by decide)) (fun r44 u H locs hq hP hS => ?_)
            have hq : r44 = (O i) / 4 := hq
            obtain rfl := hq
            refine bk_add hx hb d_Draft_width_47 ?_
            refine bk_top (y := iI (widthN O (i + 1))) (congrArg iI (widthN_step (by omega)).symm) ?_
            refine lv_istore_n hx hb d_Draft_width_48 rfl hl (by decide) rfl (fun ls hl => ?_)
            have hl : lv_has ls 3 [(1, .int (iI (widthN O (i + 1)))), (0, .ref h), (2, .int (iI (i : Int)))] := hl
            refine lv_iinc (k := 2) (v := iI ((i + 1 : Nat) : Int)) hx hb d_Draft_width_49 hl rfl ((iI_add _ _).trans (congrArg iI (by omega))) (by decide) rfl (fun ls hl => ?_)
            have hl : lv_has ls 3 [(2, .int (iI ((i + 1 : Nat) : Int))), (1, .int (iI (widthN O (i + 1)))), (0, .ref h)] := hl
            refine lv_goto (tgt := 4) hx hb d_Draft_width_52 (by decide) ?_
            exact ih4 (no - (i + 1)) (by omega) (i + 1) _ _ _ rfl (by omega) (lv_sub hl [2, 1, 0] rfl) hP hD hS
  exact cut4 _ 0 _ _ _ rfl (by omega) (lv_sub hl [2, 1, 0] rfl) hP hD hS
abbrev rm_Draft_isRead : Room := { frames := 3, cells := 0, slots := 0, locals := 65 }
set_option maxRecDepth 100000 in
set_option maxHeartbeats 4000000 in
theorem c_Draft_isRead (l : Launch) (D : va_G) (cI cO : ClassId) (h qo qb : Nat) (O B : Nat → Int) (no nb : Nat) (hno : no ≤ 3) (hnb : nb ≤ 24) (hO : ∀ i, i < no → 0 ≤ O i ∧ O i ≤ 255) : Mi l y_Draft_isRead b_Draft_isRead 1 .boolean rm_Draft_isRead D cI cO [.ref h] ([(h, .inr (1, [.ref qo, .ref qb, .int (iI (no : Int)), .int (iI (nb : Int))])), (qo, ar cI 3 O), (qb, ar cI 24 B)]) (fun (r : Int) (_ : Unit) => ((0 < no ∧ 0 < spanN (fun z => O (0 + z)) no ∧ widthN O no = (nb : Int)) ∧ r = 1) ∨ (¬ (0 < no ∧ 0 < spanN (fun z => O (0 + z)) no ∧ widthN O no = (nb : Int)) ∧ r = 0)) (fun (_ : Unit) => [(h, .inr (1, [.ref qo, .ref qb, .int (iI (no : Int)), .int (iI (nb : Int))])), (qo, ar cI 3 O), (qb, ar cI 24 B)]) 0 0 := by
  refine bk_start (by decide) (ble_le rfl) ?_
  intro p e s m args below meth c A ls Q hx hb hr hml hlk hown hnm hT hK hA hAe hQ hP hD hS hl
  have hown : s.vm.findClass "BinnedReads$Draft" = some m.cls := hown
  have hl : lv_has ls 1 [(0, .ref h)] := hl
  have hsp := spanN_rg (G := fun z => O (0 + z)) (k := no) (fun z hz => by simpa using hO z hz)
  have hwd := widthN_rg (G := O) (k := no) hO
  refine lv_aload_n hx hb d_Draft_isRead_0 rfl (lv_at hl 0 rfl) ?_
  refine va_get (ci := 1) (C := R_Draft) (T := F_Draft) (N := 4) hx hb hT in_Draft hown hK.1 hP 0 rfl rfl 2 (by decide) (hT _ tw_26) (fun _ h => h) rfl d_Draft_isRead_1 ?_
  refine bk_if_le (tgt := 29) hx hb d_Draft_isRead_4 (by decide) (by omega) (fun c4 => ?_) (fun c4 => ?_)
  · skip
    refine lv_iconst (v := iI 0) hx hb d_Draft_isRead_29 rfl ?_
    exact bk_reti (r := 0) hx hb hr iI_nar0 hlk hAe hQ hS () (by omega) hP hD d_Draft_isRead_30
  · skip
    refine lv_aload_n hx hb d_Draft_isRead_7 rfl (lv_at hl 0 rfl) ?_
    refine bk_fR (ws := [(h, .inr (1, [.ref qo, .ref qb, .int (iI (no : Int)), .int (iI (nb : Int))])), (qo, ar cI 3 O), (qb, ar cI 24 B)]) (Wc := [(h, .inr (1, [.ref qo, .ref qb, .int (iI (no : Int)), .int (iI (nb : Int))])), (qo, ar cI 3 O), (qb, ar cI 24 B)]) (fun _ => rfl) (bk_hs (X := [(h, .inr (1, [.ref qo, .ref qb, .int (iI (no : Int)), .int (iI (nb : Int))])), (qo, ar cI 3 O), (qb, ar cI 24 B)]) (pl := []) (Wc := [(h, .inr (1, [.ref qo, .ref qb, .int (iI (no : Int)), .int (iI (nb : Int))])), (qo, ar cI 3 O), (qb, ar cI 24 B)]) [0, 1, 2] rfl) hP hD hS hA (bk_rV (rest := []) hx hb hml hown hT hK (c_Draft_span l D cI cO h qo qb O B no nb hno hnb hO) (bk_subP (X := [(h, .inr (1, [.ref qo, .ref qb, .int (iI (no : Int)), .int (iI (nb : Int))])), (qo, ar cI 3 O), (qb, ar cI 24 B)]) (pl := []) (Wc := [(h, .inr (1, [.ref qo, .ref qb, .int (iI (no : Int)), .int (iI (nb : Int))])), (qo, ar cI 3 O), (qb, ar cI 24 B)]) hP [0, 1, 2] rfl) (bk_subD (X := [(h, .inr (1, [.ref qo, .ref qb, .int (iI (no : Int)), .int (iI (nb : Int))])), (qo, ar cI 3 O), (qb, ar cI 24 B)]) (pl := []) (Wc := [(h, .inr (1, [.ref qo, .ref qb, .int (iI (no : Int)), .int (iI (nb : Int))])), (qo, ar cI 3 O), (qb, ar cI 24 B)]) hD [0, 1, 2] (by decide) rfl) 0 1 rfl rfl rfl tw_196 tw_197 tw_198 tw_2 tw_199 hd_Draft_span ⟨rfl, rfl⟩ (by decide) hl.1 rfl (ble_le rfl) d_Draft_isRead_8 (by decide)) (fun r8 u H locs hq hP hS => ?_)
    have hq : r8 = spanN (fun z => O (0 + z)) no := hq
    obtain rfl := hq
    refine bk_if_le (tgt := 29) hx hb d_Draft_isRead_11 (by decide) (by omega) (fun c11 => ?_) (fun c11 => ?_)
    · skip
      refine lv_iconst (v := iI 0) hx hb d_Draft_isRead_29 rfl ?_
      exact bk_reti (r := 0) hx hb hr iI_nar0 hlk hAe hQ hS () (by omega) hP hD d_Draft_isRead_30
    · skip
      refine lv_aload_n hx hb d_Draft_isRead_14 rfl (lv_at hl 0 rfl) ?_
      refine bk_fR (ws := [(h, .inr (1, [.ref qo, .ref qb, .int (iI (no : Int)), .int (iI (nb : Int))])), (qo, ar cI 3 O), (qb, ar cI 24 B)]) (Wc := [(h, .inr (1, [.ref qo, .ref qb, .int (iI (no : Int)), .int (iI (nb : Int))])), (qo, ar cI 3 O), (qb, ar cI 24 B)]) (fun _ => rfl) (bk_hs (X := [(h, .inr (1, [.ref qo, .ref qb, .int (iI (no : Int)), .int (iI (nb : Int))])), (qo, ar cI 3 O), (qb, ar cI 24 B)]) (pl := []) (Wc := [(h, .inr (1, [.ref qo, .ref qb, .int (iI (no : Int)), .int (iI (nb : Int))])), (qo, ar cI 3 O), (qb, ar cI 24 B)]) [0, 1, 2] rfl) hP hD hS hA (bk_rV (rest := []) hx hb hml hown hT hK (c_Draft_width l D cI cO h qo qb O B no nb hno hnb hO) (bk_subP (X := [(h, .inr (1, [.ref qo, .ref qb, .int (iI (no : Int)), .int (iI (nb : Int))])), (qo, ar cI 3 O), (qb, ar cI 24 B)]) (pl := []) (Wc := [(h, .inr (1, [.ref qo, .ref qb, .int (iI (no : Int)), .int (iI (nb : Int))])), (qo, ar cI 3 O), (qb, ar cI 24 B)]) hP [0, 1, 2] rfl) (bk_subD (X := [(h, .inr (1, [.ref qo, .ref qb, .int (iI (no : Int)), .int (iI (nb : Int))])), (qo, ar cI 3 O), (qb, ar cI 24 B)]) (pl := []) (Wc := [(h, .inr (1, [.ref qo, .ref qb, .int (iI (no : Int)), .int (iI (nb : Int))])), (qo, ar cI 3 O), (qb, ar cI 24 B)]) hD [0, 1, 2] (by decide) rfl) 0 1 rfl rfl rfl tw_209 tw_210 tw_211 tw_2 tw_212 hd_Draft_width ⟨rfl, rfl⟩ (by decide) hl.1 rfl (ble_le rfl) d_Draft_isRead_15 (by decide)) (fun r15 u H locs hq hP hS => ?_)
      have hq : r15 = widthN O no := hq
      obtain rfl := hq
      refine lv_aload_n hx hb d_Draft_isRead_18 rfl (lv_at hl 0 rfl) ?_
      refine va_get (ci := 1) (C := R_Draft) (T := F_Draft) (N := 4) hx hb hT in_Draft hown hK.1 hP 0 rfl rfl 3 (by decide) (hT _ tw_28) (fun _ h => h) rfl d_Draft_isRead_19 ?_
      refine bk_icmp_ne (tgt := 29) hx hb d_Draft_isRead_22 (by decide) (by omega) (by omega) (fun c22 => ?_) (fun c22 => ?_)
      · skip
        refine lv_iconst (v := iI 0) hx hb d_Draft_isRead_29 rfl ?_
        exact bk_reti (r := 0) hx hb hr iI_nar0 hlk hAe hQ hS () (by omega) hP hD d_Draft_isRead_30
      · skip
        refine lv_iconst (v := iI 1) hx hb d_Draft_isRead_25 rfl ?_
        refine lv_goto (tgt := 30) hx hb d_Draft_isRead_26 (by decide) ?_
        exact bk_reti (r := 1) hx hb hr iI_nar1 hlk hAe hQ hS () (by omega) hP hD d_Draft_isRead_30
abbrev rm_Draft_basePair : Room := { frames := 0, cells := 0, slots := 0, locals := 0 }
set_option maxRecDepth 100000 in
set_option maxHeartbeats 4000000 in
theorem c_Draft_basePair (l : Launch) (D : va_G) (cI cO : ClassId) (h qo qb : Nat) (O B : Nat → Int) (no nb : Nat) (i : Nat) (hno : no ≤ 3) (hnb : nb ≤ 24) (hi : i < nb) (hB : ∀ j, j < nb → 0 ≤ B j ∧ B j ≤ 15) : Mi l y_Draft_basePair b_Draft_basePair 3 .int rm_Draft_basePair D cI cO [.ref h, .int (iI (i : Int))] ([(h, .inr (1, [.ref qo, .ref qb, .int (iI (no : Int)), .int (iI (nb : Int))])), (qo, ar cI 3 O), (qb, ar cI 24 B)]) (fun (r : Int) (_ : Unit) => r = 16 * B i + (if i + 1 < nb then B (i + 1) else 0)) (fun (_ : Unit) => [(h, .inr (1, [.ref qo, .ref qb, .int (iI (no : Int)), .int (iI (nb : Int))])), (qo, ar cI 3 O), (qb, ar cI 24 B)]) 0 0 := by
  refine bk_start (by decide) (ble_le rfl) ?_
  intro p e s m args below meth c A ls Q hx hb hr hml hlk hown hnm hT hK hA hAe hQ hP hD hS hl
  have hown : s.vm.findClass "BinnedReads$Draft" = some m.cls := hown
  have hl : lv_has ls 3 [(0, .ref h), (1, .int (iI (i : Int)))] := hl
  refine lv_iload_n hx hb d_Draft_basePair_0 rfl (lv_at hl 1 rfl) ?_
  refine lv_iconst (v := iI 1) hx hb d_Draft_basePair_1 rfl ?_
  refine bk_add hx hb d_Draft_basePair_2 ?_
  refine bk_top (y := iI ((i + 1 : Nat) : Int)) (congrArg iI (by omega)) ?_
  refine lv_aload_n hx hb d_Draft_basePair_3 rfl (lv_at hl 0 rfl) ?_
  refine va_get (ci := 1) (C := R_Draft) (T := F_Draft) (N := 4) hx hb hT in_Draft hown hK.1 hP 0 rfl rfl 3 (by decide) (hT _ tw_28) (fun _ h => h) rfl d_Draft_basePair_4 ?_
  have cut22 : ∀ (x : Int) (H : Heap) (locs : List Loc) (ls : Array Slot), (x = if i + 1 < nb then B (i + 1) else 0) → (0 ≤ x ∧ x ≤ 15) → lv_has ls 3 [(0, .ref h), (1, .int (iI (i : Int)))] → va_P D classes ([(h, .inr (1, [.ref qo, .ref qb, .int (iI (no : Int)), .int (iI (nb : Int))])), (qo, ar cI 3 O), (qb, ar cI 24 B)]) H → va_D A ([(h, .inr (1, [.ref qo, .ref qb, .int (iI (no : Int)), .int (iI (nb : Int))])), (qo, ar cI 3 O), (qb, ar cI 24 B)]) → va_S A s.heap H locs → W p l e rm_Draft_basePair s m args below meth c H locs 0 0 Q (F0 m 22 ls [.int (iI x)]) := by
    intro x H locs ls hx1 hx2 hl hP hD hS
    refine lv_istore_n hx hb d_Draft_basePair_22 rfl hl (by decide) rfl (fun ls hl => ?_)
    have hl : lv_has ls 3 [(2, .int (iI x)), (0, .ref h), (1, .int (iI (i : Int)))] := hl
    refine lv_bipush (v := iI 16) hx hb d_Draft_basePair_23 (by decide) ?_
    refine lv_aload_n hx hb d_Draft_basePair_25 rfl (lv_at hl 1 rfl) ?_
    refine va_get (ci := 1) (C := R_Draft) (T := F_Draft) (N := 4) hx hb hT in_Draft hown hK.1 hP 0 rfl rfl 1 (by decide) (hT _ tw_25) (fun _ h => h) rfl d_Draft_basePair_26 ?_
    refine lv_iload_n hx hb d_Draft_basePair_29 rfl (lv_at hl 2 rfl) ?_
    refine bk_iald hx hb hK.1 hP 2 0 rfl rfl i (by omega) (by decide) d_Draft_basePair_30 ?_
    refine bk_mul hx hb d_Draft_basePair_31 ?_
    refine lv_iload_n hx hb d_Draft_basePair_32 rfl (lv_at hl 0 rfl) ?_
    refine bk_add hx hb d_Draft_basePair_33 ?_
    exact bk_reti (r := 16 * (B i) + x) hx hb hr rfl hlk hAe hQ hS () (by rw [hx1]) hP hD d_Draft_basePair_34
  refine bk_icmp_ge (tgt := 21) hx hb d_Draft_basePair_7 (by decide) (by omega) (by omega) (fun c7 => ?_) (fun c7 => ?_)
  · skip
    refine lv_iconst (v := iI 0) hx hb d_Draft_basePair_21 rfl ?_
    exact cut22 0 _ _ _ (by rw [if_neg (by omega)]) (by omega) (lv_sub hl [0, 1] rfl) hP hD hS
  · skip
    refine lv_aload_n hx hb d_Draft_basePair_10 rfl (lv_at hl 0 rfl) ?_
    refine va_get (ci := 1) (C := R_Draft) (T := F_Draft) (N := 4) hx hb hT in_Draft hown hK.1 hP 0 rfl rfl 1 (by decide) (hT _ tw_25) (fun _ h => h) rfl d_Draft_basePair_11 ?_
    refine lv_iload_n hx hb d_Draft_basePair_14 rfl (lv_at hl 1 rfl) ?_
    refine lv_iconst (v := iI 1) hx hb d_Draft_basePair_15 rfl ?_
    refine bk_add hx hb d_Draft_basePair_16 ?_
    refine bk_top (y := iI ((i + 1 : Nat) : Int)) (congrArg iI (by omega)) ?_
    refine bk_iald hx hb hK.1 hP 2 0 rfl rfl (i + 1) (by omega) (by decide) d_Draft_basePair_17 ?_
    refine lv_goto (tgt := 22) hx hb d_Draft_basePair_18 (by decide) ?_
    exact cut22 (B (i + 1)) _ _ _ (by rw [if_pos (by omega)]) (hB (i + 1) (by omega)) (lv_sub hl [0, 1] rfl) hP hD hS
