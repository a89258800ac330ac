abbrev rm_Find_empty : Room := { frames := 0, cells := 0, slots := 0, locals := 0 }
set_option maxRecDepth 100000 in
set_option maxHeartbeats 4000000 in
theorem c_Find_empty (l : Launch) (D : va_G) (cI cO : ClassId) (hf qR qO : Nat) (R : Nat → Nat) (G : Nat → Nat → Int) (OF : Nat → Int) (nf lk : Nat) : Mv l y_Find_empty b_Find_empty 1 rm_Find_empty D cI cO [.ref hf] ([(hf, .inr (2, [.ref qR, .ref qO, .int (iI (nf : Int)), .int (iI (lk : Int))])), (qR, aq cO 24 (rwF R)), (qO, ar cI 24 OF)] ++ rwP cI R G) (fun (_ : Unit) => True) (fun (_ : Unit) => [(hf, .inr (2, [.ref qR, .ref qO, .int (iI 0), .int (iI 0)])), (qR, aq cO 24 (rwF R)), (qO, ar cI 24 OF)] ++ rwP cI R G) 0 0 := by
  refine bk_start (by decide) (ble_le rfl) ?_
  intro p e s m args below meth c A ls Q hx hb hr hml hlk hown hnm hT hK hA hAe hQ hP hD hS hl
  have hown : s.vm.findClass "BinnedReads$Finding" = some m.cls := hown
  have hl : lv_has ls 1 [(0, .ref hf)] := hl
  refine lv_aload_n hx hb d_Find_empty_0 rfl (lv_at hl 0 rfl) ?_
  refine lv_iconst (v := iI 0) hx hb d_Find_empty_1 rfl ?_
  refine va_put (ci := 2) (v := .int (iI 0)) (ty := .int) (C := R_Find) (T := F_Find) (N := 4) hx hb hT in_Find t_Find to_Find n_Find hown hK.1 hP hD hS 0 rfl rfl 2 (by decide) (hT _ tw_127) (fun _ h => h) rfl (by decide +kernel) rfl rfl (ble_lt rfl) d_Find_empty_2 (fun H locs hP hD hS => ?_)
  have hP : va_P D classes ([(hf, .inr (2, [.ref qR, .ref qO, .int (iI 0), .int (iI (lk : Int))])), (qR, aq cO 24 (rwF R)), (qO, ar cI 24 OF)] ++ rwP cI R G) H := hP
  have hD : va_D A ([(hf, .inr (2, [.ref qR, .ref qO, .int (iI 0), .int (iI (lk : Int))])), (qR, aq cO 24 (rwF R)), (qO, ar cI 24 OF)] ++ rwP cI R G) := hD
  refine lv_aload_n hx hb d_Find_empty_5 rfl (lv_at hl 0 rfl) ?_
  refine lv_iconst (v := iI 0) hx hb d_Find_empty_6 rfl ?_
  refine va_put (ci := 2) (v := .int (iI 0)) (ty := .int) (C := R_Find) (T := F_Find) (N := 4) hx hb hT in_Find t_Find to_Find n_Find hown hK.1 hP hD hS 0 rfl rfl 3 (by decide) (hT _ tw_129) (fun _ h => h) rfl (by decide +kernel) rfl rfl (ble_lt rfl) d_Find_empty_7 (fun H locs hP hD hS => ?_)
  have hP : va_P D classes ([(hf, .inr (2, [.ref qR, .ref qO, .int (iI 0), .int (iI 0)])), (qR, aq cO 24 (rwF R)), (qO, ar cI 24 OF)] ++ rwP cI R G) H := hP
  have hD : va_D A ([(hf, .inr (2, [.ref qR, .ref qO, .int (iI 0), .int (iI 0)])), (qR, aq cO 24 (rwF R)), (qO, ar cI 24 OF)] ++ rwP cI R G) := hD
  exact bk_retv hx hb hr hlk hAe hQ hS () trivial hP hD d_Find_empty_10
abbrev rm_Find_has : Room := { frames := 0, cells := 0, slots := 0, locals := 0 }
set_option maxRecDepth 100000 in
set_option maxHeartbeats 4000000 in
theorem c_Find_has (l : Launch) (D : va_G) (cI cO : ClassId) (hf qR qO : Nat) (R : Nat → Nat) (G : Nat → Nat → Int) (OF : Nat → Int) (nf lk : Nat) (k : Int) (hnf : nf ≤ 24) (hk1 : -2147483648 ≤ k ∧ k < 2147483648) : Mi l y_Find_has b_Find_has 2 .boolean rm_Find_has D cI cO [.ref hf, .int (iI k)] ([(hf, .inr (2, [.ref qR, .ref qO, .int (iI (nf : Int)), .int (iI (lk : Int))])), (qR, aq cO 24 (rwF R)), (qO, ar cI 24 OF)] ++ rwP cI R G) (fun (r : Int) (_ : Unit) => ((0 ≤ k ∧ k < (nf : Int)) ∧ r = 1) ∨ (¬ (0 ≤ k ∧ k < (nf : Int)) ∧ r = 0)) (fun (_ : Unit) => [(hf, .inr (2, [.ref qR, .ref qO, .int (iI (nf : Int)), .int (iI (lk : Int))])), (qR, aq cO 24 (rwF R)), (qO, ar cI 24 OF)] ++ rwP cI R G) 0 0 := by
  refine bk_start (by decide) (ble_le rfl) ?_
  intro p e s m args below meth c A ls Q hx hb hr hml hlk hown hnm hT hK hA hAe hQ hP hD hS hl
  have hown : s.vm.findClass "BinnedReads$Finding" = some m.cls := hown
  have hl : lv_has ls 2 [(0, .ref hf), (1, .int (iI k))] := hl
  refine lv_iload_n hx hb d_Find_has_0 rfl (lv_at hl 1 rfl) ?_
  refine bk_if_lt (tgt := 16) hx hb d_Find_has_1 (by decide) (by omega) (fun c1 => ?_) (fun c1 => ?_)
  · skip
    refine lv_iconst (v := iI 0) hx hb d_Find_has_16 rfl ?_
    exact bk_reti (r := 0) hx hb hr iI_nar0 hlk hAe hQ hS () (by omega) hP hD d_Find_has_17
  · skip
    refine lv_iload_n hx hb d_Find_has_4 rfl (lv_at hl 1 rfl) ?_
    refine lv_aload_n hx hb d_Find_has_5 rfl (lv_at hl 0 rfl) ?_
    refine va_get (ci := 2) (C := R_Find) (T := F_Find) (N := 4) hx hb hT in_Find hown hK.1 hP 0 rfl rfl 2 (by decide) (hT _ tw_127) (fun _ h => h) rfl d_Find_has_6 ?_
    refine bk_icmp_ge (tgt := 16) hx hb d_Find_has_9 (by decide) (by omega) (by omega) (fun c9 => ?_) (fun c9 => ?_)
    · skip
      refine lv_iconst (v := iI 0) hx hb d_Find_has_16 rfl ?_
      exact bk_reti (r := 0) hx hb hr iI_nar0 hlk hAe hQ hS () (by omega) hP hD d_Find_has_17
    · skip
      refine lv_iconst (v := iI 1) hx hb d_Find_has_12 rfl ?_
      refine lv_goto (tgt := 17) hx hb d_Find_has_13 (by decide) ?_
      exact bk_reti (r := 1) hx hb hr iI_nar1 hlk hAe hQ hS () (by omega) hP hD d_Find_has_17
abbrev rm_Find_opCount : Room := { frames := 0, cells := 0, slots := 0, locals := 0 }
set_option maxRecDepth 100000 in
set_option maxHeartbeats 4000000 in
theorem c_Find_opCount (l : Launch) (D : va_G) (cI cO : ClassId) (hf qR qO : Nat) (R : Nat → Nat) (G : Nat → Nat → Int) (OF : Nat → Int) (nf lk : Nat) (k : Nat) (hk1 : k < 24) : Mi l y_Find_opCount b_Find_opCount 2 .int rm_Find_opCount D cI cO [.ref hf, .int (iI (k : Int))] ([(hf, .inr (2, [.ref qR, .ref qO, .int (iI (nf : Int)), .int (iI (lk : Int))])), (qR, aq cO 24 (rwF R)), (qO, ar cI 24 OF)] ++ rwP cI R G) (fun (r : Int) (_ : Unit) => r = G k 5) (fun (_ : Unit) => [(hf, .inr (2, [.ref qR, .ref qO, .int (iI (nf : Int)), .int (iI (lk : Int))])), (qR, aq cO 24 (rwF R)), (qO, ar cI 24 OF)] ++ rwP cI R G) 0 0 := by
  refine bk_start (by decide) (ble_le rfl) ?_
  intro p e s m args below meth c A ls Q hx hb hr hml hlk hown hnm hT hK hA hAe hQ hP hD hS hl
  have hown : s.vm.findClass "BinnedReads$Finding" = some m.cls := hown
  have hl : lv_has ls 2 [(0, .ref hf), (1, .int (iI (k : Int)))] := hl
  refine lv_aload_n hx hb d_Find_opCount_0 rfl (lv_at hl 0 rfl) ?_
  refine va_get (ci := 2) (C := R_Find) (T := F_Find) (N := 4) hx hb hT in_Find hown hK.1 hP 0 rfl rfl 0 (by decide) (hT _ tw_123) (fun _ h => h) rfl d_Find_opCount_1 ?_
  refine lv_iload_n hx hb d_Find_opCount_4 rfl (lv_at hl 1 rfl) ?_
  refine bk_aald hx hb hK.1 hP 1 1 rfl rfl k (by omega) (by decide) (r := (R k)) (rwF_some (by omega)) d_Find_opCount_5 ?_
  refine lv_iconst (v := iI 5) hx hb d_Find_opCount_6 rfl ?_
  refine bk_iald hx hb hK.1 hP (3 + k) 0 (rw_get (X := [(hf, .inr (2, [.ref qR, .ref qO, .int (iI (nf : Int)), .int (iI (lk : Int))])), (qR, aq cO 24 (rwF R)), (qO, ar cI 24 OF)]) rfl (by omega)) rfl 5 (by omega) (by decide) d_Find_opCount_7 ?_
  exact bk_reti (r := G k 5) hx hb hr rfl hlk hAe hQ hS () rfl hP hD d_Find_opCount_8
abbrev rm_Find_baseCount : Room := { frames := 0, cells := 0, slots := 0, locals := 0 }
set_option maxRecDepth 100000 in
set_option maxHeartbeats 4000000 in
theorem c_Find_baseCount (l : Launch) (D : va_G) (cI cO : ClassId) (hf qR qO : Nat) (R : Nat → Nat) (G : Nat → Nat → Int) (OF : Nat → Int) (nf lk : Nat) (k : Nat) (hk1 : k < 24) : Mi l y_Find_baseCount b_Find_baseCount 2 .int rm_Find_baseCount D cI cO [.ref hf, .int (iI (k : Int))] ([(hf, .inr (2, [.ref qR, .ref qO, .int (iI (nf : Int)), .int (iI (lk : Int))])), (qR, aq cO 24 (rwF R)), (qO, ar cI 24 OF)] ++ rwP cI R G) (fun (r : Int) (_ : Unit) => r = G k 6) (fun (_ : Unit) => [(hf, .inr (2, [.ref qR, .ref qO, .int (iI (nf : Int)), .int (iI (lk : Int))])), (qR, aq cO 24 (rwF R)), (qO, ar cI 24 OF)] ++ rwP cI R G) 0 0 := by
  refine bk_start (by decide) (ble_le rfl) ?_
  intro p e s m args below meth c A ls Q hx hb hr hml hlk hown hnm hT hK hA hAe hQ hP hD hS hl
  have hown : s.vm.findClass "BinnedReads$Finding" = some m.cls := hown
  have hl : lv_has ls 2 [(0, .ref hf), (1, .int (iI (k : Int)))] := hl
  refine lv_aload_n hx hb d_Find_baseCount_0 rfl (lv_at hl 0 rfl) ?_
  refine va_get (ci := 2) (C := R_Find) (T := F_Find) (N := 4) hx hb hT in_Find hown hK.1 hP 0 rfl rfl 0 (by decide) (hT _ tw_123) (fun _ h => h) rfl d_Find_baseCount_1 ?_
  refine lv_iload_n hx hb d_Find_baseCount_4 rfl (lv_at hl 1 rfl) ?_
  refine bk_aald hx hb hK.1 hP 1 1 rfl rfl k (by omega) (by decide) (r := (R k)) (rwF_some (by omega)) d_Find_baseCount_5 ?_
  refine lv_bipush (v := iI 6) hx hb d_Find_baseCount_6 (by decide) ?_
  refine bk_iald hx hb hK.1 hP (3 + k) 0 (rw_get (X := [(hf, .inr (2, [.ref qR, .ref qO, .int (iI (nf : Int)), .int (iI (lk : Int))])), (qR, aq cO 24 (rwF R)), (qO, ar cI 24 OF)]) rfl (by omega)) rfl 6 (by omega) (by decide) d_Find_baseCount_8 ?_
  exact bk_reti (r := G k 6) hx hb hr rfl hlk hAe hQ hS () rfl hP hD d_Find_baseCount_9
abbrev rm_Find_position : Room := { frames := 0, cells := 0, slots := 0, locals := 0 }
set_option maxRecDepth 100000 in
set_option maxHeartbeats 4000000 in
theorem c_Find_position (l : Launch) (D : va_G) (cI cO : ClassId) (hf qR qO : Nat) (R : Nat → Nat) (G : Nat → Nat → Int) (OF : Nat → Int) (nf lk : Nat) (k : Nat) (hk1 : k < 24) : Mi l y_Find_position b_Find_position 2 .int rm_Find_position D cI cO [.ref hf, .int (iI (k : Int))] ([(hf, .inr (2, [.ref qR, .ref qO, .int (iI (nf : Int)), .int (iI (lk : Int))])), (qR, aq cO 24 (rwF R)), (qO, ar cI 24 OF)] ++ rwP cI R G) (fun (r : Int) (_ : Unit) => r = G k 2 + 256 * G k 3) (fun (_ : Unit) => [(hf, .inr (2, [.ref qR, .ref qO, .int (iI (nf : Int)), .int (iI (lk : Int))])), (qR, aq cO 24 (rwF R)), (qO, ar cI 24 OF)] ++ rwP cI R G) 0 0 := by
  refine bk_start (by decide) (ble_le rfl) ?_
  intro p e s m args below meth c A ls Q hx hb hr hml hlk hown hnm hT hK hA hAe hQ hP hD hS hl
  have hown : s.vm.findClass "BinnedReads$Finding" = some m.cls := hown
  have hl : lv_has ls 2 [(0, .ref hf), (1, .int (iI (k : Int)))] := hl
  refine lv_aload_n hx hb d_Find_position_0 rfl (lv_at hl 0 rfl) ?_
  refine va_get (ci := 2) (C := R_Find) (T := F_Find) (N := 4) hx hb hT in_Find hown hK.1 hP 0 rfl rfl 0 (by decide) (hT _ tw_123) (fun _ h => h) rfl d_Find_position_1 ?_
  refine lv_iload_n hx hb d_Find_position_4 rfl (lv_at hl 1 rfl) ?_
  refine bk_aald hx hb hK.1 hP 1 1 rfl rfl k (by omega) (by decide) (r := (R k)) (rwF_some (by omega)) d_Find_position_5 ?_
  refine lv_iconst (v := iI 2) hx hb d_Find_position_6 rfl ?_
  refine bk_iald hx hb hK.1 hP (3 + k) 0 (rw_get (X := [(hf, .inr (2, [.ref qR, .ref qO, .int (iI (nf : Int)), .int (iI (lk : Int))])), (qR, aq cO 24 (rwF R)), (qO, ar cI 24 OF)]) rfl (by omega)) rfl 2 (by omega) (by decide) d_Find_position_7 ?_
  refine lv_sipush (v := iI 256) hx hb d_Find_position_8 (by decide) ?_
  refine lv_aload_n hx hb d_Find_position_11 rfl (lv_at hl 0 rfl) ?_
  refine va_get (ci := 2) (C := R_Find) (T := F_Find) (N := 4) hx hb hT in_Find hown hK.1 hP 0 rfl rfl 0 (by decide) (hT _ tw_123) (fun _ h => h) rfl d_Find_position_12 ?_
  refine lv_iload_n hx hb d_Find_position_15 rfl (lv_at hl 1 rfl) ?_
  refine bk_aald hx hb hK.1 hP 1 1 rfl rfl k (by omega) (by decide) (r := (R k)) (rwF_some (by omega)) d_Find_position_16 ?_
  refine lv_iconst (v := iI 3) hx hb d_Find_position_17 rfl ?_
  refine bk_iald hx hb hK.1 hP (3 + k) 0 (rw_get (X := [(hf, .inr (2, [.ref qR, .ref qO, .int (iI (nf : Int)), .int (iI (lk : Int))])), (qR, aq cO 24 (rwF R)), (qO, ar cI 24 OF)]) rfl (by omega)) rfl 3 (by omega) (by decide) d_Find_position_18 ?_
  refine bk_mul hx hb d_Find_position_19 ?_
  refine bk_add hx hb d_Find_position_20 ?_
  exact bk_reti (r := G k 2 + (256 * (G k 3))) hx hb hr rfl hlk hAe hQ hS () rfl hP hD d_Find_position_21
abbrev rm_Find_end : Room := { frames := 2, cells := 0, slots := 0, locals := 45 }
set_option maxRecDepth 100000 in
set_option maxHeartbeats 4000000 in
theorem c_Find_end (l : Launch) (D : va_G) (cI cO : ClassId) (hf qR qO : Nat) (R : Nat → Nat) (G : Nat → Nat → Int) (OF : Nat → Int) (nf lk : Nat) (k oc : Nat) (hk1 : k < 24) (hoc : G k 5 = (oc : Int) ∧ oc ≤ 3) (hop : ∀ i, i < oc → 0 ≤ G k (7 + i) ∧ G k (7 + i) ≤ 255) : Mi l y_Find_end b_Find_end 2 .int rm_Find_end D cI cO [.ref hf, .int (iI (k : Int))] ([(hf, .inr (2, [.ref qR, .ref qO, .int (iI (nf : Int)), .int (iI (lk : Int))])), (qR, aq cO 24 (rwF R)), (qO, ar cI 24 OF)] ++ rwP cI R G) (fun (r : Int) (_ : Unit) => r = G k 2 + 256 * G k 3 + spanN (fun z => G k (7 + z)) oc) (fun (_ : Unit) => [(hf, .inr (2, [.ref qR, .ref qO, .int (iI (nf : Int)), .int (iI (lk : Int))])), (qR, aq cO 24 (rwF R)), (qO, ar cI 24 OF)] ++ rwP cI R G) 0 0 := by
  refine bk_start (by decide) (ble_le rfl) ?_
  intro p e s m args below meth c A ls Q hx hb hr hml hlk hown hnm hT hK hA hAe hQ hP hD hS hl
  have hown : s.vm.findClass "BinnedReads$Finding" = some m.cls := hown
  have hl : lv_has ls 2 [(0, .ref hf), (1, .int (iI (k : Int)))] := hl
  refine lv_aload_n hx hb d_Find_end_0 rfl (lv_at hl 0 rfl) ?_
  refine lv_iload_n hx hb d_Find_end_1 rfl (lv_at hl 1 rfl) ?_
  refine bk_fR (ws := [(hf, .inr (2, [.ref qR, .ref qO, .int (iI (nf : Int)), .int (iI (lk : Int))])), (qR, aq cO 24 (rwF R)), (qO, ar cI 24 OF)] ++ rwP cI R G) (Wc := [(hf, .inr (2, [.ref qR, .ref qO, .int (iI (nf : Int)), .int (iI (lk : Int))])), (qR, aq cO 24 (rwF R)), (qO, ar cI 24 OF)] ++ rwP cI R G) (fun _ => rfl) (bk_hsP (X := [(hf, .inr (2, [.ref qR, .ref qO, .int (iI (nf : Int)), .int (iI (lk : Int))])), (qR, aq cO 24 (rwF R)), (qO, ar cI 24 OF)]) (pl := rwP cI R G) (Wc := [(hf, .inr (2, [.ref qR, .ref qO, .int (iI (nf : Int)), .int (iI (lk : Int))])), (qR, aq cO 24 (rwF R)), (qO, ar cI 24 OF)]) [0, 1, 2] rfl) hP hD hS hA (bk_rV (rest := []) hx hb hml hown hT hK (c_Find_position l D cI cO hf qR qO R G OF nf lk k hk1) (va_P.part (X := [(hf, .inr (2, [.ref qR, .ref qO, .int (iI (nf : Int)), .int (iI (lk : Int))])), (qR, aq cO 24 (rwF R)), (qO, ar cI 24 OF)]) (cx := [(hf, .inr (2, [.ref qR, .ref qO, .int (iI (nf : Int)), .int (iI (lk : Int))])), (qR, aq cO 24 (rwF R)), (qO, ar cI 24 OF)]) (pl := rwP cI R G) hP [0, 1, 2] rfl) (va_D.part (X := [(hf, .inr (2, [.ref qR, .ref qO, .int (iI (nf : Int)), .int (iI (lk : Int))])), (qR, aq cO 24 (rwF R)), (qO, ar cI 24 OF)]) (cx := [(hf, .inr (2, [.ref qR, .ref qO, .int (iI (nf : Int)), .int (iI (lk : Int))])), (qR, aq cO 24 (rwF R)), (qO, ar cI 24 OF)]) (pl := rwP cI R G) hD [0, 1, 2] (by decide) rfl) 0 2 rfl rfl rfl tw_392 tw_385 tw_386 tw_6 tw_387 hd_Find_position ⟨rfl, rfl⟩ (by decide) hl.1 rfl (ble_le rfl) d_Find_end_2 (by decide)) (fun r2 u H locs hq hP hS => ?_)
  have hq : r2 = G k 2 + 256 * G k 3 := hq
  obtain rfl := hq
  refine lv_aload_n hx hb d_Find_end_5 rfl (lv_at hl 0 rfl) ?_
  refine va_get (ci := 2) (C := R_Find) (T := F_Find) (N := 4) hx hb hT in_Find hown hK.1 hP 0 rfl rfl 0 (by decide) (hT _ tw_123) (fun _ h => h) rfl d_Find_end_6 ?_
  refine lv_iload_n hx hb d_Find_end_9 rfl (lv_at hl 1 rfl) ?_
  refine bk_aald hx hb hK.1 hP 1 1 rfl rfl k (by omega) (by decide) (r := (R k)) (rwF_some (by omega)) d_Find_end_10 ?_
  refine lv_bipush (v := iI 7) hx hb d_Find_end_11 (by decide) ?_
  refine lv_aload_n hx hb d_Find_end_13 rfl (lv_at hl 0 rfl) ?_
  refine lv_iload_n hx hb d_Find_end_14 rfl (lv_at hl 1 rfl) ?_
  refine bk_fR (ws := [(hf, .inr (2, [.ref qR, .ref qO, .int (iI (nf : Int)), .int (iI (lk : Int))])), (qR, aq cO 24 (rwF R)), (qO, ar cI 24 OF)] ++ rwP cI R G) (Wc := [(hf, .inr (2, [.ref qR, .ref qO, .int (iI (nf : Int)), .int (iI (lk : Int))])), (qR, aq cO 24 (rwF R)), (qO, ar cI 24 OF)] ++ rwP cI R G) (fun _ => rfl) (bk_hsP (X := [(hf, .inr (2, [.ref qR, .ref qO, .int (iI (nf : Int)), .int (iI (lk : Int))])), (qR, aq cO 24 (rwF R)), (qO, ar cI 24 OF)]) (pl := rwP cI R G) (Wc := [(hf, .inr (2, [.ref qR, .ref qO, .int (iI (nf : Int)), .int (iI (lk : Int))])), (qR, aq cO 24 (rwF R)), (qO, ar cI 24 OF)]) [0, 1, 2] rfl) hP hD hS hA (bk_rV (rest := [.int (iI 7), .ref (R k), .int (iI (G k 2 + 256 * G k 3))]) hx hb hml hown hT hK (c_Find_opCount l D cI cO hf qR qO R G OF nf lk k hk1) (va_P.part (X := [(hf, .inr (2, [.ref qR, .ref qO, .int (iI (nf : Int)), .int (iI (lk : Int))])), (qR, aq cO 24 (rwF R)), (qO, ar cI 24 OF)]) (cx := [(hf, .inr (2, [.ref qR, .ref qO, .int (iI (nf : Int)), .int (iI (lk : Int))])), (qR, aq cO 24 (rwF R)), (qO, ar cI 24 OF)]) (pl := rwP cI R G) hP [0, 1, 2] rfl) (va_D.part (X := [(hf, .inr (2, [.ref qR, .ref qO, .int (iI (nf : Int)), .int (iI (lk : Int))])), (qR, aq cO 24 (rwF R)), (qO, ar cI 24 OF)]) (cx := [(hf, .inr (2, [.ref qR, .ref qO, .int (iI (nf : Int)), .int (iI (lk : Int))])), (qR, aq cO 24 (rwF R)), (qO, ar cI 24 OF)]) (pl := rwP cI R G) hD [0, 1, 2] (by decide) rfl) 0 2 rfl rfl rfl tw_393 tw_394 tw_395 tw_6 tw_396 hd_Find_opCount ⟨rfl, rfl⟩ (by decide) hl.1 rfl (ble_le rfl) d_Find_end_15 (by decide)) (fun r15 u H locs hq hP hS => ?_)
  have hq : r15 = G k 5 := hq
  obtain rfl := hq.trans hoc.1
  refine bk_fR (ws := [(hf, .inr (2, [.ref qR, .ref qO, .int (iI (nf : Int)), .int (iI (lk : Int))])), (qR, aq cO 24 (rwF R)), (qO, ar cI 24 OF)] ++ rwP cI R G) (Wc := [((R k), ar cI 22 (G k))]) (fun _ => rfl) (bk_hs1 (rw_get (X := [(hf, .inr (2, [.ref qR, .ref qO, .int (iI (nf : Int)), .int (iI (lk : Int))])), (qR, aq cO 24 (rwF R)), (qO, ar cI 24 OF)]) (n := 3) (cI := cI) (R := R) (G := G) (k := k) rfl (by omega))) hP hD hS hA (bk_rSN (rest := [.int (iI (G k 2 + 256 * G k 3))]) (host := "BinnedReads") hx hb hml hown hT hK (c_BR_spanOf l D cI cO (R k) 22 (G k) 7 oc (by omega) hop) (bk_P1 hP (rw_get (X := [(hf, .inr (2, [.ref qR, .ref qO, .int (iI (nf : Int)), .int (iI (lk : Int))])), (qR, aq cO 24 (rwF R)), (qO, ar cI 24 OF)]) (n := 3) (cI := cI) (R := R) (G := G) (k := k) rfl (by omega))) (bk_D1 hD (rw_get (X := [(hf, .inr (2, [.ref qR, .ref qO, .int (iI (nf : Int)), .int (iI (lk : Int))])), (qR, aq cO 24 (rwF R)), (qO, ar cI 24 OF)]) (n := 3) (cI := cI) (R := R) (G := G) (k := k) rfl (by omega))) (by decide) tw_201 tw_1 tw_202 hd_BR_spanOf.2 ⟨rfl, rfl⟩ (by decide) hl.1 rfl (ble_le rfl) d_Find_end_18 (by decide)) (fun r18 u H locs hq hP hS => ?_)
  have hq : r18 = spanN (fun z => (G k) (7 + z)) oc := hq
  obtain rfl := hq
  refine bk_add hx hb d_Find_end_21 ?_
  exact bk_reti (r := G k 2 + 256 * G k 3 + (spanN (fun z => G k (7 + z)) oc)) hx hb hr rfl hlk hAe hQ hS () rfl hP hD d_Find_end_22
abbrev rm_Find_append : Room := { frames := 2, cells := 0, slots := 0, locals := 43 }
set_option maxRecDepth 100000 in
set_option maxHeartbeats 4000000 in
theorem c_Find_append (l : Launch) (D : va_G) (cI cO : ClassId) (hf qR qO : Nat) (R : Nat → Nat) (G : Nat → Nat → Int) (OF : Nat → Int) (nf lk : Nat) (hk qd qk : Nat) (DB KS : Nat → Int) (sz bc : Nat) (tn : Int) (j L : Nat) (hnf : nf < 24) (hsz : sz ≤ 693) (hDB : ∀ j, j < sz → 0 ≤ DB j ∧ DB j ≤ 255) (hbc : bc ≤ 15) (hL : 1 ≤ L ∧ L ≤ 22 ∧ sbD DB KS j + 1 = (L : Int)) (hj : j < 600) (hKS : ∀ t, t < L → (j + t) / 40 < bc ∧ 0 ≤ KS ((j + t) / 40) ∧ KS ((j + t) / 40) + 7 + ((j + t) % 40 : Nat) < (sz : Int)) : Mv l y_Find_append b_Find_append 6 rm_Find_append D cI cO [.ref hf, .ref hk, .int (iI (j : Int))] ([(hf, .inr (2, [.ref qR, .ref qO, .int (iI (nf : Int)), .int (iI (lk : Int))])), (qR, aq cO 24 (rwF R)), (qO, ar cI 24 OF), (hk, .inr (0, [.ref qd, .ref qk, .int (iI (sz : Int)), .int (iI (bc : Int)), .int (iI tn)])), (qd, ar cI 693 DB), (qk, ar cI 15 KS)] ++ rwP cI R G) (fun (G2 : Nat → Nat → Int) => (∀ z, z ≠ nf → G2 z = G z) ∧ (∀ t, t < L → G2 nf t = sbD DB KS (j + t))) (fun (G2 : Nat → Nat → Int) => [(hf, .inr (2, [.ref qR, .ref qO, .int (iI ((nf + 1 : Nat) : Int)), .int (iI (lk : Int))])), (qR, aq cO 24 (rwF R)), (qO, ar cI 24 (bU OF nf ((64 * (KS (j / 40)).toNat + j % 40 : Nat) : Int))), (hk, .inr (0, [.ref qd, .ref qk, .int (iI (sz : Int)), .int (iI (bc : Int)), .int (iI tn)])), (qd, ar cI 693 DB), (qk, ar cI 15 KS)] ++ rwP cI R G2) 0 0 := by
  refine bk_start (by decide) (ble_le rfl) ?_
  intro p e s m args below meth c A ls Q hx hb hr hml hlk hown hnm hT hK hA hAe hQ hP hD hS hl
  have hown : s.vm.findClass "BinnedReads$Finding" = some m.cls := hown
  have hl : lv_has ls 6 [(0, .ref hf), (1, .ref hk), (2, .int (iI (j : Int)))] := hl
  have hk0 := hKS 0 (by omega)
  rw [Nat.add_zero] at hk0
  refine lv_aload_n hx hb d_Find_append_0 rfl (lv_at hl 0 rfl) ?_
  refine va_get (ci := 2) (C := R_Find) (T := F_Find) (N := 4) hx hb hT in_Find hown hK.1 hP 0 rfl rfl 2 (by decide) (hT _ tw_127) (fun _ h => h) rfl d_Find_append_1 ?_
  refine lv_bipush (v := iI 24) hx hb d_Find_append_4 (by decide) ?_
  refine bk_icmp_lt (tgt := 10) hx hb d_Find_append_6 (by decide) (by omega) (by omega) (fun c6 => ?_) (fun c6 => ?_)
  · skip
    refine lv_aload_n hx hb d_Find_append_10 rfl (lv_at hl 0 rfl) ?_
    refine va_get (ci := 2) (C := R_Find) (T := F_Find) (N := 4) hx hb hT in_Find hown hK.1 hP 0 rfl rfl 0 (by decide) (hT _ tw_123) (fun _ h => h) rfl d_Find_append_11 ?_
    refine lv_aload_n hx hb d_Find_append_14 rfl (lv_at hl 0 rfl) ?_
    refine va_get (ci := 2) (C := R_Find) (T := F_Find) (N := 4) hx hb hT in_Find hown hK.1 hP 0 rfl rfl 2 (by decide) (hT _ tw_127) (fun _ h => h) rfl d_Find_append_15 ?_
    refine bk_aald hx hb hK.1 hP 1 1 rfl rfl nf (by omega) (by decide) (r := (R nf)) (rwF_some (by omega)) d_Find_append_18 ?_
    refine lv_astore_n hx hb d_Find_append_19 rfl hl (by decide) rfl (fun ls hl => ?_)
    have hl : lv_has ls 6 [(3, .ref (R nf)), (0, .ref hf), (1, .ref hk), (2, .int (iI (j : Int)))] := hl
    refine lv_bipush (v := iI 22) hx hb d_Find_append_20 (by decide) ?_
    refine lv_aload_n hx hb d_Find_append_22 rfl (lv_at hl 2 rfl) ?_
    refine lv_iload_n hx hb d_Find_append_23 rfl (lv_at hl 3 rfl) ?_
    refine bk_fR (ws := [(hf, .inr (2, [.ref qR, .ref qO, .int (iI (nf : Int)), .int (iI (lk : Int))])), (qR, aq cO 24 (rwF R)), (qO, ar cI 24 OF), (hk, .inr (0, [.ref qd, .ref qk, .int (iI (sz : Int)), .int (iI (bc : Int)), .int (iI tn)])), (qd, ar cI 693 DB), (qk, ar cI 15 KS)] ++ rwP cI R G) (Wc := [(hk, .inr (0, [.ref qd, .ref qk, .int (iI (sz : Int)), .int (iI (bc : Int)), .int (iI tn)])), (qd, ar cI 693 DB), (qk, ar cI 15 KS)]) (fun _ => rfl) (bk_hs (X := [(hf, .inr (2, [.ref qR, .ref qO, .int (iI (nf : Int)), .int (iI (lk : Int))])), (qR, aq cO 24 (rwF R)), (qO, ar cI 24 OF), (hk, .inr (0, [.ref qd, .ref qk, .int (iI (sz : Int)), .int (iI (bc : Int)), .int (iI tn)])), (qd, ar cI 693 DB), (qk, ar cI 15 KS)]) (pl := rwP cI R G) (Wc := [(hk, .inr (0, [.ref qd, .ref qk, .int (iI (sz : Int)), .int (iI (bc : Int)), .int (iI tn)])), (qd, ar cI 693 DB), (qk, ar cI 15 KS)]) [3, 4, 5] rfl) hP hD hS hA (bk_rV (rest := [.int (iI 22)]) hx hb hml hown hT hK (c_Disk_streamByte l D cI cO hk qd qk DB KS sz bc tn j ((KS ((j) / 40)).toNat) hsz hDB (by have := hKS (0); omega) (⟨by omega, by omega⟩)) (bk_subP (X := [(hf, .inr (2, [.ref qR, .ref qO, .int (iI (nf : Int)), .int (iI (lk : Int))])), (qR, aq cO 24 (rwF R)), (qO, ar cI 24 OF), (hk, .inr (0, [.ref qd, .ref qk, .int (iI (sz : Int)), .int (iI (bc : Int)), .int (iI tn)])), (qd, ar cI 693 DB), (qk, ar cI 15 KS)]) (pl := rwP cI R G) (Wc := [(hk, .inr (0, [.ref qd, .ref qk, .int (iI (sz : Int)), .int (iI (bc : Int)), .int (iI tn)])), (qd, ar cI 693 DB), (qk, ar cI 15 KS)]) hP [3, 4, 5] rfl) (bk_subD (X := [(hf, .inr (2, [.ref qR, .ref qO, .int (iI (nf : Int)), .int (iI (lk : Int))])), (qR, aq cO 24 (rwF R)), (qO, ar cI 24 OF), (hk, .inr (0, [.ref qd, .ref qk, .int (iI (sz : Int)), .int (iI (bc : Int)), .int (iI tn)])), (qd, ar cI 693 DB), (qk, ar cI 15 KS)]) (pl := rwP cI R G) (Wc := [(hk, .inr (0, [.ref qd, .ref qk, .int (iI (sz : Int)), .int (iI (bc : Int)), .int (iI tn)])), (qd, ar cI 693 DB), (qk, ar cI 15 KS)]) hD [3, 4, 5] (by decide) rfl) 0 0 rfl rfl rfl tw_362 tw_363 tw_364 tw_5 tw_365 hd_Disk_streamByte ⟨rfl, rfl⟩ (by decide) hl.1 rfl (ble_le rfl) d_Find_append_24 (by decide)) (fun r24 u H locs hq hP hS => ?_)
    have hq : r24 = DB (((KS ((j) / 40)).toNat) + 7 + j % 40) := hq
    obtain rfl := hq
    have hsb : DB ((KS (j / 40)).toNat + 7 + j % 40) + 1 = (L : Int) := hL.2.2
    refine lv_iconst (v := iI 1) hx hb d_Find_append_27 rfl ?_
    refine bk_add hx hb d_Find_append_28 ?_
    refine va_mmin hx hb (by rw [hml]; exact hl.1.symm) hown (hT _ tw_367) (hT _ tw_252) (hT _ tw_8) (hT _ tw_253) (by decide) (ble_le rfl) (by decide) (by decide) d_Find_append_29 ?_
    refine bk_top (y := iI (min 22 (sbD DB KS (j) + 1))) (bk_min (by omega) (by omega)) ?_
    refine bk_top (y := iI (L : Int)) (congrArg iI (by omega)) ?_
    refine lv_istore hx hb d_Find_append_32 hl (by decide) rfl (fun ls hl => ?_)
    have hl : lv_has ls 6 [(4, .int (iI (L : Int))), (3, .ref (R nf)), (0, .ref hf), (1, .ref hk), (2, .int (iI (j : Int)))] := hl
    refine lv_iconst (v := iI 0) hx hb d_Find_append_34 rfl ?_
    refine lv_istore hx hb d_Find_append_35 hl (by decide) rfl (fun ls hl => ?_)
    have hl : lv_has ls 6 [(5, .int (iI 0)), (4, .int (iI (L : Int))), (3, .ref (R nf)), (0, .ref hf), (1, .ref hk), (2, .int (iI (j : Int)))] := hl
    have cut37 : ∀ (N0 : Nat) (i : Nat) (G2 : Nat → Nat → Int) (H : Heap) (locs : List Loc) (ls : Array Slot), L - i = N0 → (i ≤ L) → (∀ z, z ≠ nf → G2 z = G z) → (∀ t, t < i → G2 nf t = sbD DB KS (j + t)) → lv_has ls 6 [(0, .ref hf), (1, .ref hk), (2, .int (iI (j : Int))), (3, .ref (R nf)), (4, .int (iI (L : Int))), (5, .int (iI (i : Int)))] → va_P D classes ([(hf, .inr (2, [.ref qR, .ref qO, .int (iI (nf : Int)), .int (iI (lk : Int))])), (qR, aq cO 24 (rwF R)), (qO, ar cI 24 OF), (hk, .inr (0, [.ref qd, .ref qk, .int (iI (sz : Int)), .int (iI (bc : Int)), .int (iI tn)])), (qd, ar cI 693 DB), (qk, ar cI 15 KS)] ++ rwP cI R G2) H → va_D A ([(hf, .inr (2, [.ref qR, .ref qO, .int (iI (nf : Int)), .int (iI (lk : Int))])), (qR, aq cO 24 (rwF R)), (qO, ar cI 24 OF), (hk, .inr (0, [.ref qd, .ref qk, .int (iI (sz : Int)), .int (iI (bc : Int)), .int (iI tn)])), (qd, ar cI 693 DB), (qk, ar cI 15 KS)] ++ rwP cI R G2) → va_S A s.heap H locs → W p l e rm_Find_append s m args below meth c H locs 0 0 Q (F0 m 37 ls []) := by
      intro N0
      induction N0 using Nat.strongRecOn with
      | _ N0 ih37 =>
        intro i G2 H locs ls hN37 hi hg1 hg2 hl hP hD hS
        refine lv_iload hx hb d_Find_append_37 (lv_at hl 5 rfl) ?_
        refine lv_iload hx hb d_Find_append_39 (lv_at hl 4 rfl) ?_
        refine bk_icmp_ge (tgt := 62) hx hb d_Find_append_41 (by decide) (by omega) (by omega) (fun c41 => ?_) (fun c41 => ?_)
        · skip
          refine lv_aload_n hx hb d_Find_append_62 rfl (lv_at hl 0 rfl) ?_
          refine va_get (ci := 2) (C := R_Find) (T := F_Find) (N := 4) hx hb hT in_Find hown hK.1 hP 0 rfl rfl 1 (by decide) (hT _ tw_125) (fun _ h => h) rfl d_Find_append_63 ?_
          refine lv_aload_n hx hb d_Find_append_66 rfl (lv_at hl 0 rfl) ?_
          refine va_get (ci := 2) (C := R_Find) (T := F_Find) (N := 4) hx hb hT in_Find hown hK.1 hP 0 rfl rfl 2 (by decide) (hT _ tw_127) (fun _ h => h) rfl d_Find_append_67 ?_
          refine lv_aload_n hx hb d_Find_append_70 rfl (lv_at hl 1 rfl) ?_
          refine lv_iload_n hx hb d_Find_append_71 rfl (lv_at hl 2 rfl) ?_
          refine bk_fR (ws := [(hf, .inr (2, [.ref qR, .ref qO, .int (iI (nf : Int)), .int (iI (lk : Int))])), (qR, aq cO 24 (rwF R)), (qO, ar cI 24 OF), (hk, .inr (0, [.ref qd, .ref qk, .int (iI (sz : Int)), .int (iI (bc : Int)), .int (iI tn)])), (qd, ar cI 693 DB), (qk, ar cI 15 KS)] ++ rwP cI R G2) (Wc := [(hk, .inr (0, [.ref qd, .ref qk, .int (iI (sz : Int)), .int (iI (bc : Int)), .int (iI tn)])), (qd, ar cI 693 DB), (qk, ar cI 15 KS)]) (fun _ => rfl) (bk_hs (X := [(hf, .inr (2, [.ref qR, .ref qO, .int (iI (nf : Int)), .int (iI (lk : Int))])), (qR, aq cO 24 (rwF R)), (qO, ar cI 24 OF), (hk, .inr (0, [.ref qd, .ref qk, .int (iI (sz : Int)), .int (iI (bc : Int)), .int (iI tn)])), (qd, ar cI 693 DB), (qk, ar cI 15 KS)]) (pl := rwP cI R G2) (Wc := [(hk, .inr (0, [.ref qd, .ref qk, .int (iI (sz : Int)), .int (iI (bc : Int)), .int (iI tn)])), (qd, ar cI 693 DB), (qk, ar cI 15 KS)]) [3, 4, 5] rfl) hP hD hS hA (bk_rV (rest := [.int (iI (nf : Int)), .ref qO]) hx hb hml hown hT hK (c_Disk_offsetOf l D cI cO hk qd qk DB KS sz bc tn j ((KS (j / 40)).toNat) (by omega) (by omega)) (bk_subP (X := [(hf, .inr (2, [.ref qR, .ref qO, .int (iI (nf : Int)), .int (iI (lk : Int))])), (qR, aq cO 24 (rwF R)), (qO, ar cI 24 OF), (hk, .inr (0, [.ref qd, .ref qk, .int (iI (sz : Int)), .int (iI (bc : Int)), .int (iI tn)])), (qd, ar cI 693 DB), (qk, ar cI 15 KS)]) (pl := rwP cI R G2) (Wc := [(hk, .inr (0, [.ref qd, .ref qk, .int (iI (sz : Int)), .int (iI (bc : Int)), .int (iI tn)])), (qd, ar cI 693 DB), (qk, ar cI 15 KS)]) hP [3, 4, 5] rfl) (bk_subD (X := [(hf, .inr (2, [.ref qR, .ref qO, .int (iI (nf : Int)), .int (iI (lk : Int))])), (qR, aq cO 24 (rwF R)), (qO, ar cI 24 OF), (hk, .inr (0, [.ref qd, .ref qk, .int (iI (sz : Int)), .int (iI (bc : Int)), .int (iI tn)])), (qd, ar cI 693 DB), (qk, ar cI 15 KS)]) (pl := rwP cI R G2) (Wc := [(hk, .inr (0, [.ref qd, .ref qk, .int (iI (sz : Int)), .int (iI (bc : Int)), .int (iI tn)])), (qd, ar cI 693 DB), (qk, ar cI 15 KS)]) hD [3, 4, 5] (by decide) rfl) 0 0 rfl rfl rfl tw_368 tw_369 tw_370 tw_5 tw_371 hd_Disk_offsetOf ⟨rfl, rfl⟩ (by decide) hl.1 rfl (ble_le rfl) d_Find_append_72 (by decide)) (fun r72 u H locs hq hP hS => ?_)
          have hq : r72 = ((64 * ((KS (j / 40)).toNat) + j % 40 : Nat) : Int) := hq
          obtain rfl := hq
          refine bk_iast hx hb hK.1 hP hD hS 2 0 rfl rfl nf (by omega) (by decide) d_Find_append_75 (fun H locs hP hD hS => ?_)
          have hP : va_P D classes ([(hf, .inr (2, [.ref qR, .ref qO, .int (iI (nf : Int)), .int (iI (lk : Int))])), (qR, aq cO 24 (rwF R)), (qO, ar cI 24 (bU OF nf ((64 * (KS (j / 40)).toNat + j % 40 : Nat) : Int))), (hk, .inr (0, [.ref qd, .ref qk, .int (iI (sz : Int)), .int (iI (bc : Int)), .int (iI tn)])), (qd, ar cI 693 DB), (qk, ar cI 15 KS)] ++ rwP cI R G2) H := hP
          have hD : va_D A ([(hf, .inr (2, [.ref qR, .ref qO, .int (iI (nf : Int)), .int (iI (lk : Int))])), (qR, aq cO 24 (rwF R)), (qO, ar cI 24 (bU OF nf ((64 * (KS (j / 40)).toNat + j % 40 : Nat) : Int))), (hk, .inr (0, [.ref qd, .ref qk, .int (iI (sz : Int)), .int (iI (bc : Int)), .int (iI tn)])), (qd, ar cI 693 DB), (qk, ar cI 15 KS)] ++ rwP cI R G2) := hD
          refine lv_aload_n hx hb d_Find_append_76 rfl (lv_at hl 0 rfl) ?_
          refine lv_dup hx hb d_Find_append_77 rfl ?_
          refine va_get (ci := 2) (C := R_Find) (T := F_Find) (N := 4) hx hb hT in_Find hown hK.1 hP 0 rfl rfl 2 (by decide) (hT _ tw_127) (fun _ h => h) rfl d_Find_append_78 ?_
          refine lv_iconst (v := iI 1) hx hb d_Find_append_81 rfl ?_
          refine bk_add hx hb d_Find_append_82 ?_
          refine bk_top (y := iI ((nf + 1 : Nat) : Int)) (congrArg iI (by omega)) ?_
          refine va_put (ci := 2) (v := .int (iI ((nf + 1 : Nat) : Int))) (ty := .int) (C := R_Find) (T := F_Find) (N := 4) hx hb hT in_Find t_Find to_Find n_Find hown hK.1 hP hD hS 0 rfl rfl 2 (by decide) (hT _ tw_127) (fun _ h => h) rfl (by decide +kernel) rfl rfl (ble_lt rfl) d_Find_append_83 (fun H locs hP hD hS => ?_)
          have hP : va_P D classes ([(hf, .inr (2, [.ref qR, .ref qO, .int (iI ((nf + 1 : Nat) : Int)), .int (iI (lk : Int))])), (qR, aq cO 24 (rwF R)), (qO, ar cI 24 (bU OF nf ((64 * (KS (j / 40)).toNat + j % 40 : Nat) : Int))), (hk, .inr (0, [.ref qd, .ref qk, .int (iI (sz : Int)), .int (iI (bc : Int)), .int (iI tn)])), (qd, ar cI 693 DB), (qk, ar cI 15 KS)] ++ rwP cI R G2) H := hP
          have hD : va_D A ([(hf, .inr (2, [.ref qR, .ref qO, .int (iI ((nf + 1 : Nat) : Int)), .int (iI (lk : Int))])), (qR, aq cO 24 (rwF R)), (qO, ar cI 24 (bU OF nf ((64 * (KS (j / 40)).toNat + j % 40 : Nat) : Int))), (hk, .inr (0, [.ref qd, .ref qk, .int (iI (sz : Int)), .int (iI (bc : Int)), .int (iI tn)])), (qd, ar cI 693 DB), (qk, ar cI 15 KS)] ++ rwP cI R G2) := hD
          exact bk_retv hx hb hr hlk hAe hQ hS G2 (⟨hg1, by rw [show L = i by omega]; exact hg2⟩) hP hD d_Find_append_86
        · skip
          have hki := hKS i (by omega)
          refine lv_aload_n hx hb d_Find_append_44 rfl (lv_at hl 3 rfl) ?_
          refine lv_iload hx hb d_Find_append_45 (lv_at hl 5 rfl) ?_
          refine lv_aload_n hx hb d_Find_append_47 rfl (lv_at hl 1 rfl) ?_
          refine lv_iload_n hx hb d_Find_append_48 rfl (lv_at hl 2 rfl) ?_
          refine lv_iload hx hb d_Find_append_49 (lv_at hl 5 rfl) ?_
          refine bk_add hx hb d_Find_append_51 ?_
          refine bk_top (y := iI ((j + i : Nat) : Int)) (congrArg iI (by omega)) ?_
          refine bk_fR (ws := [(hf, .inr (2, [.ref qR, .ref qO, .int (iI (nf : Int)), .int (iI (lk : Int))])), (qR, aq cO 24 (rwF R)), (qO, ar cI 24 OF), (hk, .inr (0, [.ref qd, .ref qk, .int (iI (sz : Int)), .int (iI (bc : Int)), .int (iI tn)])), (qd, ar cI 693 DB), (qk, ar cI 15 KS)] ++ rwP cI R G2) (Wc := [(hk, .inr (0, [.ref qd, .ref qk, .int (iI (sz : Int)), .int (iI (bc : Int)), .int (iI tn)])), (qd, ar cI 693 DB), (qk, ar cI 15 KS)]) (fun _ => rfl) (bk_hs (X := [(hf, .inr (2, [.ref qR, .ref qO, .int (iI (nf : Int)), .int (iI (lk : Int))])), (qR, aq cO 24 (rwF R)), (qO, ar cI 24 OF), (hk, .inr (0, [.ref qd, .ref qk, .int (iI (sz : Int)), .int (iI (bc : Int)), .int (iI tn)])), (qd, ar cI 693 DB), (qk, ar cI 15 KS)]) (pl := rwP cI R G2) (Wc := [(hk, .inr (0, [.ref qd, .ref qk, .int (iI (sz : Int)), .int (iI (bc : Int)), .int (iI tn)])), (qd, ar cI 693 DB), (qk, ar cI 15 KS)]) [3, 4, 5] rfl) hP hD hS hA (bk_rV (rest := [.int (iI (i : Int)), .ref (R nf)]) hx hb hml hown hT hK (c_Disk_streamByte l D cI cO hk qd qk DB KS sz bc tn (j + i) ((KS ((j + i) / 40)).toNat) hsz hDB (by have := hKS (i); omega) (⟨by omega, by omega⟩)) (bk_subP (X := [(hf, .inr (2, [.ref qR, .ref qO, .int (iI (nf : Int)), .int (iI (lk : Int))])), (qR, aq cO 24 (rwF R)), (qO, ar cI 24 OF), (hk, .inr (0, [.ref qd, .ref qk, .int (iI (sz : Int)), .int (iI (bc : Int)), .int (iI tn)])), (qd, ar cI 693 DB), (qk, ar cI 15 KS)]) (pl := rwP cI R G2) (Wc := [(hk, .inr (0, [.ref qd, .ref qk, .int (iI (sz : Int)), .int (iI (bc : Int)), .int (iI tn)])), (qd, ar cI 693 DB), (qk, ar cI 15 KS)]) hP [3, 4, 5] rfl) (bk_subD (X := [(hf, .inr (2, [.ref qR, .ref qO, .int (iI (nf : Int)), .int (iI (lk : Int))])), (qR, aq cO 24 (rwF R)), (qO, ar cI 24 OF), (hk, .inr (0, [.ref qd, .ref qk, .int (iI (sz : Int)), .int (iI (bc : Int)), .int (iI tn)])), (qd, ar cI 693 DB), (qk, ar cI 15 KS)]) (pl := rwP cI R G2) (Wc := [(hk, .inr (0, [.ref qd, .ref qk, .int (iI (sz : Int)), .int (iI (bc : Int)), .int (iI tn)])), (qd, ar cI 693 DB), (qk, ar cI 15 KS)]) hD [3, 4, 5] (by decide) rfl) 0 0 rfl rfl rfl tw_362 tw_363 tw_364 tw_5 tw_365 hd_Disk_streamByte ⟨rfl, rfl⟩ (by decide) hl.1 rfl (ble_le rfl) d_Find_append_52 (by decide)) (fun r52 u H locs hq hP hS => ?_)
          have hq : r52 = DB (((KS ((j + i) / 40)).toNat) + 7 + (j + i) % 40) := hq
          obtain rfl := hq
          refine bk_iastP (X := [(hf, .inr (2, [.ref qR, .ref qO, .int (iI (nf : Int)), .int (iI (lk : Int))])), (qR, aq cO 24 (rwF R)), (qO, ar cI 24 OF), (hk, .inr (0, [.ref qd, .ref qk, .int (iI (sz : Int)), .int (iI (bc : Int)), .int (iI tn)])), (qd, ar cI 693 DB), (qk, ar cI 15 KS)]) hx hb hK.1 hP hD hS nf (by omega) rfl i (by omega) d_Find_append_55 (fun H locs hP hD hS => ?_)
          have hP : va_P D classes ([(hf, .inr (2, [.ref qR, .ref qO, .int (iI (nf : Int)), .int (iI (lk : Int))])), (qR, aq cO 24 (rwF R)), (qO, ar cI 24 OF), (hk, .inr (0, [.ref qd, .ref qk, .int (iI (sz : Int)), .int (iI (bc : Int)), .int (iI tn)])), (qd, ar cI 693 DB), (qk, ar cI 15 KS)] ++ rwP cI R (gU G2 nf i (sbD DB KS (j + i)))) H := hP
          have hD : va_D A ([(hf, .inr (2, [.ref qR, .ref qO, .int (iI (nf : Int)), .int (iI (lk : Int))])), (qR, aq cO 24 (rwF R)), (qO, ar cI 24 OF), (hk, .inr (0, [.ref qd, .ref qk, .int (iI (sz : Int)), .int (iI (bc : Int)), .int (iI tn)])), (qd, ar cI 693 DB), (qk, ar cI 15 KS)] ++ rwP cI R (gU G2 nf i (sbD DB KS (j + i)))) := hD
          refine lv_iinc (k := 5) (v := iI ((i + 1 : Nat) : Int)) hx hb d_Find_append_56 hl rfl ((iI_add _ _).trans (congrArg iI (by omega))) (by decide) rfl (fun ls hl => ?_)
          have hl : lv_has ls 6 [(5, .int (iI ((i + 1 : Nat) : Int))), (0, .ref hf), (1, .ref hk), (2, .int (iI (j : Int))), (3, .ref (R nf)), (4, .int (iI (L : Int)))] := hl
          refine lv_goto (tgt := 37) hx hb d_Find_append_59 (by decide) ?_
          exact ih37 (L - (i + 1)) (by omega) (i + 1) (gU G2 nf i (sbD DB KS (j + i))) _ _ _ rfl (by omega) (fun z hz => (gU_ne hz).trans (hg1 z hz)) (fun t h => gU_row hg2 h) (lv_sub hl [1, 2, 3, 4, 5, 0] rfl) hP hD hS
    exact cut37 _ 0 G _ _ _ rfl (by omega) (fun _ _ => rfl) (fun t h => absurd h (Nat.not_lt_zero t)) (lv_sub hl [3, 4, 5, 2, 1, 0] rfl) hP hD hS
  · skip
    exact absurd c6 (by omega)
