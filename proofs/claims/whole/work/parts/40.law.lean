def BD0 : BD := (BD.mk ((fun _ => 0)) ((fun _ => 0)) 0 0 ((fun _ => 0)) 0 ((fun _ => 0)) ((fun _ => 0)) ((fun _ => 0)) ((fun _ => 0)) ((fun _ => 0)) ((fun _ => 0)) 0 0 ((fun _ => 0)) ((fun _ => 0)) 0 0 (-1) ((fun _ _ => 0)) ((fun _ => 0)) 0 0)
def MD0 : MD := (MD.mk ((fun _ => 0)) ((fun _ => 0)) ((fun _ => 0)) ((fun _ => 0)) ((fun _ => 0)) ((fun _ => 0)) ((fun _ => 0)) ((fun _ => 0)) ((fun _ => 0)) ((fun _ => 0)) ((fun _ => 0)) ((fun _ => 0)) ((fun _ => 0)) ((fun _ => 0)) 0 0 0 0 0 0 (-1) 0 0)
theorem sg_sld {p : Program} {l : Launch} {e : Env} {R : Room} {s : State} {m : MethodId} {args : Array Value} {below : List Frame} {meth : Method} {c : Code} {H : Heap} {locs : List Loc} {cells slots : Nat} {Q : State → Prop} {cc : ByteArray} {pc : Nat} {ls : Array Slot} {rest : List Value} {A : Nat → Prop} {H0 : Heap} {a : Int} (hx : p.tables.exec = Jvm.exec) (hb : c.code = cc) {b L : Nat} {xs : Nat → Int32} (hX : va_X b L xs s H0) (hbl : b < H0.size) (hbA : ¬ A b) (hS : va_S A H0 H locs) (j : Nat) (hj : a = (j : Int) ∧ j < L) (hL : L ≤ 2048) (hdg : decode cc pc = .ok (.iaload, 1)) (k : W p l e R s m args below meth c H locs cells slots Q (F0 m (pc + 1) ls (.int (iI (xs j).toInt) :: rest))) : W p l e R s m args below meth c H locs cells slots Q (F0 m pc ls (.int (iI a) :: .ref b :: rest)) := va_sld hx hb hX hbl hbA hS (iI_in hj.1 hj.2 (by omega)) hdg (by rw [iI_cl hj.1 (by omega), iI_of (xs j)]; exact k)
set_option maxRecDepth 100000 in
set_option maxHeartbeats 4000000 in
theorem whole_start {p : Program} {e : Env} {s : State} {m : MethodId} {below : List Frame} {meth : Method} {c : Code} (l : Launch) {b L : Nat} {xs : Nat → Int32} (hL : L ≤ 2048) (C0 : lw_At p s m meth c b L xs) : W p l e room_1 s m #[Value.ref b] below meth c s.heap [] 0 0 (lw_Z below #[Value.ref b] s) (entryFrame m ([Value.ref b] : List Value).toArray 4) := by
  obtain ⟨hx, hb, hr, hml, hown, hts, hX, hbl, hlk, hgv⟩ := C0
  have hT : ∀ w ∈ tb, w.before #[Value.ref b] s = true := fun w h => hts w (tb_in h)
  have hown : s.vm.findClass "BinnedReadsLaw" = some m.cls := hown
  obtain ⟨c0, i0, k0⟩ := u_known hT in_Disk (hT _ tw_92)
  obtain ⟨c1, i1, k1⟩ := u_known hT in_Draft (hT _ tw_18)
  obtain ⟨c2, i2, k2⟩ := u_known hT in_Find (hT _ tw_116)
  obtain ⟨c3, i3, k3⟩ := u_known hT in_Indx (hT _ tw_57)
  obtain ⟨c4, i4, k4⟩ := u_known hT in_Strm (hT _ tw_41)
  obtain ⟨c5, i5, k5⟩ := u_known hT in_BR (hT _ tw_10)
  obtain ⟨c6, i6, k6⟩ := u_known hT in_Mod (hT _ tw_412)
  obtain ⟨D, hD0⟩ : ∃ D : va_G, ∀ (k : Nat) (q : vw_C), classes[k]? = some q → u_Kn s q.1 q.2.1 q.2.2 (D.1 k) (D.2 k) := by
    refine ⟨(fun k => match k with | 0 => c0 | 1 => c1 | 2 => c2 | 3 => c3 | 4 => c4 | 5 => c5 | _ => c6, fun k => match k with | 0 => i0 | 1 => i1 | 2 => i2 | 3 => i3 | 4 => i4 | 5 => i5 | _ => i6), fun k q hq => ?_⟩
    have hk : k < 7 := (List.getElem?_eq_some_iff.mp hq).1
    rcases (show k = 0 ∨ k = 1 ∨ k = 2 ∨ k = 3 ∨ k = 4 ∨ k = 5 ∨ k = 6 by omega) with rfl | rfl | rfl | rfl | rfl | rfl | rfl
    · cases hq; exact k0
    · cases hq; exact k1
    · cases hq; exact k2
    · cases hq; exact k3
    · cases hq; exact k4
    · cases hq; exact k5
    · cases hq; exact k6
  obtain ⟨cI, hI⟩ : ∃ cI, ArrOfT s cI .int ∧ va_RA s cI .int := by
    obtain ⟨cA, kA, comp, f1, f2, f3⟩ := Cond.arrayClass_spec (hT _ tw_39)
    exact ⟨cA, fun n z => ⟨fun k h => (by cases h), kA, f2, comp, f3⟩, f1⟩
  have hov := hts _ tw_122
  obtain ⟨cO, hO⟩ : ∃ cO, ArrOfT s cO (.array .int) ∧ va_RA s cO (.array .int) := by
    obtain ⟨comp, cA, kA, g0, g1, g2, g3⟩ := Cond.arrayOver_specA hov
    exact ⟨cA, fun n z => ⟨fun k h => (by cases h), kA, g1, comp, g2⟩, g3⟩
  have hK : kn D cI cO s := ⟨⟨hD0, fun k q hk => by
      have h2 : k < 2 := (List.getElem?_eq_some_iff.mp hk).1
      rcases (show k = 0 ∨ k = 1 by omega) with rfl | rfl
      · cases hk; exact hI
      · cases hk; exact hO⟩, ⟨fun q hq => va_Nw.of rfl (hts _ (nestW_tbl q hq)), hov⟩⟩
  obtain ⟨A, hAe⟩ : ∃ A : Nat → Prop, A = fun q => s.heap.size ≤ q := ⟨_, rfl⟩
  have hA : ∀ q, s.heap.size ≤ q → A q := fun q h => by rw [hAe]; exact h
  have hbA : ¬ A b := by rw [hAe]; exact Nat.not_le.mpr hbl
  have hP : va_P D classes ([] : va_W) s.heap := fun k q h => by cases h
  have hD : va_D A ([] : va_W) := ⟨fun i j x y h => (by cases h), fun k q h => (by cases h)⟩
  have hS : va_S A s.heap s.heap [] := va_S.rf
  have hl := lv_entry [Value.ref b] (n := 4) (ble_le rfl)
  have he : entryFrame m ([Value.ref b] : List Value).toArray 4 = F0 m 0 ((lg_sl [Value.ref b] ++ List.replicate (4 - (lg_sl [Value.ref b]).length) Slot.unset).toArray) [] := by rw [lg_entry_eq]
  rw [he]
  generalize (lg_sl [Value.ref b] ++ List.replicate (4 - (lg_sl [Value.ref b]).length) Slot.unset).toArray = ls at hl ⊢
  have hl : lv_has ls 4 [(0, .ref b)] := hl
  refine va_new (ci := 5) (fs := [.null, .null, .null, .null, .null]) (C := R_BR) (T := F_BR) (N := 5) hx hb hT in_BR t_BR to_BR hown (hT _ tw_9) (hT _ tw_10) (hT _ tw_1) hK.1 hP hD hS hA rfl (fun j hj => by rcases (show j = 0 ∨ j = 1 ∨ j = 2 ∨ j = 3 ∨ j = 4 by omega) with rfl | rfl | rfl | rfl | rfl <;> rfl) (by decide) (by decide) d_Law_law_0 (fun q0 H hP hD hS => ?_)
  refine W.widen (k := 1) (n := 5) (by decide) (by decide) ?_
  refine lv_dup hx hb d_Law_law_3 rfl ?_
  refine sg_fv (U := []) (P := [(q0, .inr (5, [.null, .null, .null, .null, .null]))]) hP hD hS hA (bk_rI (rest := [.ref q0]) hx hb hml hown hT hK (c_BR_init l D cI cO q0) (sg_P (U := []) hP) (sg_D (U := []) hD) tw_11 tw_12 tw_1 tw_13 hd_BR_init.2 rfl ⟨rfl, rfl⟩ (by decide) hl.1 (ble_le rfl) d_Law_law_4 (by decide)) (fun u H locs hq hP hD hS => ?_)
  obtain ⟨h, qo, qb, hs, qy, hi, qr, qp, qe, qn, qs, qc, hk, qd, qk, hf, qR, qO, R⟩ := u
  refine W.widen (k := 43) (n := 2011) (by decide) (by decide) ?_
  obtain ⟨ab, eab, hP2, hD2⟩ : ∃ ab : BA, ab.hB = q0 ∧ va_P D classes (Wb cI cO ab BD0) H ∧ va_D A (Wb cI cO ab BD0) := ⟨BA.mk (q0) (h) (qo) (qb) (hs) (qy) (hi) (qr) (qp) (qe) (qn) (qs) (qc) (hk) (qd) (qk) (hf) (qR) (qO) (R), rfl, hP, hD⟩
  subst eab
  have hP := hP2
  have hD := hD2
  refine lv_astore_n hx hb d_Law_law_7 rfl hl (by decide) rfl (fun ls hl => ?_)
  have hl : lv_has ls 4 [(1, .ref ab.hB), (0, .ref b)] := hl
  refine va_new (ci := 6) (fs := [.int (iI 0), .null, .null, .int (iI 0), .null, .int (iI 0), .null, .null, .null, .null, .null, .null, .null, .null, .int (iI 0), .null, .int (iI 0), .null, .int (iI 0), .int (iI 0), .int (iI 0), .int (iI 0), .null]) (C := R_Mod) (T := F_Mod) (N := 23) hx hb hT in_Mod t_Mod to_Mod hown (hT _ tw_411) (hT _ tw_412) (hT _ tw_7) hK.1 hP hD hS hA rfl (fun j hj => by rcases (show j = 0 ∨ j = 1 ∨ j = 2 ∨ j = 3 ∨ j = 4 ∨ j = 5 ∨ j = 6 ∨ j = 7 ∨ j = 8 ∨ j = 9 ∨ j = 10 ∨ j = 11 ∨ j = 12 ∨ j = 13 ∨ j = 14 ∨ j = 15 ∨ j = 16 ∨ j = 17 ∨ j = 18 ∨ j = 19 ∨ j = 20 ∨ j = 21 ∨ j = 22 by omega) with rfl | rfl | rfl | rfl | rfl | rfl | rfl | rfl | rfl | rfl | rfl | rfl | rfl | rfl | rfl | rfl | rfl | rfl | rfl | rfl | rfl | rfl | rfl <;> rfl) (by decide) (by decide) d_Law_law_8 (fun q8 H hP hD hS => ?_)
  refine W.widen (k := 44) (n := 2034) (by decide) (by decide) ?_
  refine lv_dup hx hb d_Law_law_11 rfl ?_
  refine sg_fv (U := Wb cI cO ab BD0) (P := [(q8, .inr (6, [.int (iI 0), .null, .null, .int (iI 0), .null, .int (iI 0), .null, .null, .null, .null, .null, .null, .null, .null, .int (iI 0), .null, .int (iI 0), .null, .int (iI 0), .int (iI 0), .int (iI 0), .int (iI 0), .null]))]) hP hD hS hA (bk_rI (rest := [.ref q8]) hx hb hml hown hT hK (c_Mod_init l D cI cO q8) (sg_P (U := Wb cI cO ab BD0) hP) (sg_D (U := Wb cI cO ab BD0) hD) tw_413 tw_414 tw_7 tw_415 hd_Mod_init.2 rfl ⟨rfl, rfl⟩ (by decide) hl.1 (ble_le rfl) d_Law_law_12 (by decide)) (fun u H locs hq hP hD hS => ?_)
  obtain ⟨a1, a2, a3, a4, a5, a6, a7, a8, a9, a10, a11, a12, a13, a14⟩ := u
  refine W.widen (k := 58) (n := 4109) (by decide) (by decide) ?_
  obtain ⟨am, eam, hP2, hD2⟩ : ∃ am : MA, am.hM = q8 ∧ va_P D classes (Wb cI cO ab BD0 ++ Wm cI am MD0) H ∧ va_D A (Wb cI cO ab BD0 ++ Wm cI am MD0) := ⟨MA.mk (q8) (a1) (a2) (a3) (a4) (a5) (a6) (a7) (a8) (a9) (a10) (a11) (a12) (a13) (a14), rfl, hP, hD⟩
  subst eam
  have hP := hP2
  have hD := hD2
  have hR : Rel BD0 MD0 := Rel.zero BD0 MD0
  refine lv_astore_n hx hb d_Law_law_15 rfl hl (by decide) rfl (fun ls hl => ?_)
  have hl : lv_has ls 4 [(2, .ref am.hM), (1, .ref ab.hB), (0, .ref b)] := hl
  refine lv_iconst (v := iI 0) hx hb d_Law_law_16 rfl ?_
  refine lv_istore_n hx hb d_Law_law_17 rfl hl (by decide) rfl (fun ls hl => ?_)
  have hl : lv_has ls 4 [(3, .int (iI 0)), (2, .ref am.hM), (1, .ref ab.hB), (0, .ref b)] := hl
  have cut18 : ∀ (N0 i : Nat) (B : BD) (M : MD) (H : Heap) (locs : List Loc) (ls : Array Slot), 3000 - i = N0 → Rel B M → i ≤ 2100 → lv_has ls 4 [(0, .ref b), (1, .ref ab.hB), (2, .ref am.hM), (3, .int (iI (i : Int)))] → va_P D classes (Wb cI cO ab B ++ Wm cI am M) H → va_D A (Wb cI cO ab B ++ Wm cI am M) → va_S A s.heap H locs → W p l e room_1 s m #[Value.ref b] below meth c H locs 58 4109 (lw_Z below #[Value.ref b] s) (F0 m 18 ls []) := by
    intro N0
    induction N0 using Nat.strongRecOn with
    | _ N0 ih =>
      intro i B M H locs ls hN hR hi hl hP hD hS
      refine lv_iload_n hx hb d_Law_law_18 rfl (lv_at hl 3 rfl) ?_
      refine lv_aload_n hx hb d_Law_law_19 rfl (lv_at hl 0 rfl) ?_
      refine va_slen hx hb hX hbl hbA hS d_Law_law_20 ?_
      refine bk_top (y := iI (L : Int)) (iI_n L).symm ?_
      refine lv_iconst (v := iI 4) hx hb d_Law_law_21 rfl ?_
      refine bk_sub hx hb d_Law_law_22 ?_
      refine bk_icmp_gt (tgt := 458) hx hb d_Law_law_23 (by decide) (by omega) (by omega) (fun c23 => ?_) (fun c23 => ?_)
      · skip
        refine lv_iconst (v := 1) hx hb d_Law_law_458 rfl ?_
        refine va_forget (fun q hq => (by have h1 := hS.2.2 q hq; rw [hAe] at h1; exact h1)) ?_
        refine W.widen (k := room_1.cells) (n := room_1.slots) (by decide) (by decide) ?_
        exact lw_ret hx hb hr hlk d_Law_law_459
      · skip
        have cut452 : ∀ (B : BD) (M : MD) (H : Heap) (locs : List Loc) (ls : Array Slot), Rel B M → lv_has ls 4 [(0, .ref b), (1, .ref ab.hB), (2, .ref am.hM), (3, .int (iI (i : Int)))] → va_P D classes (Wb cI cO ab B ++ Wm cI am M) H → va_D A (Wb cI cO ab B ++ Wm cI am M) → va_S A s.heap H locs → W p l e room_1 s m #[Value.ref b] below meth c H locs 58 4109 (lw_Z below #[Value.ref b] s) (F0 m 452 ls []) := by
          intro B M H locs ls hR hl hP hD hS
          refine lv_iinc (k := 3) (v := iI ((i + 4 : Nat) : Int)) hx hb d_Law_law_452 hl rfl ((iI_add _ _).trans (congrArg iI (by omega))) (by decide) rfl (fun ls hl => ?_)
          have hl : lv_has ls 4 [(3, .int (iI ((i + 4 : Nat) : Int))), (0, .ref b), (1, .ref ab.hB), (2, .ref am.hM)] := hl
          refine lv_goto (tgt := 18) hx hb d_Law_law_455 (by decide) ?_
          exact ih _ (by omega) (i + 4) _ _ _ _ _ rfl hR (by omega) (lv_sub hl [1, 2, 3, 0] rfl) hP hD hS
        refine lv_aload_n hx hb d_Law_law_26 rfl (lv_at hl 0 rfl) ?_
        refine lv_iload_n hx hb d_Law_law_27 rfl (lv_at hl 3 rfl) ?_
        refine sg_sld hx hb hX hbl hbA hS i (by omega) hL d_Law_law_28 ?_
        refine lv_bipush (v := iI 15) hx hb d_Law_law_29 (by decide) ?_
        obtain ⟨t, ht, et⟩ := pk_andE (iI ((xs i).toInt)) (m := iI 15) 4 (by decide)
        refine lv_iand hx hb d_Law_law_31 ?_
        refine bk_top (y := iI (t : Int)) (et.trans (iI_n t).symm) ?_
        have hsw : (iI (t : Int)).toInt = (t : Int) := iI_ti (by omega)
        rcases (show 13 < t ∨ t = 0 ∨ t = 1 ∨ t = 2 ∨ t = 3 ∨ t = 4 ∨ t = 5 ∨ t = 6 ∨ t = 7 ∨ t = 8 ∨ t = 9 ∨ t = 10 ∨ t = 11 ∨ t = 12 ∨ t = 13 by omega) with hc | hc | hc | hc | hc | hc | hc | hc | hc | hc | hc | hc | hc | hc | hc
        · refine lv_tableOut (tgt := 452) hx hb d_Law_law_32 (by rw [hsw]; omega) (by decide) ?_
          exact cut452 _ _ _ _ _ hR (lv_sub hl [0, 1, 2, 3] rfl) hP hD hS
        · refine lv_tableIn (tgt := 104) (off := 72) hx hb d_Law_law_32 (by rw [hsw]; omega) (by rw [hsw]; omega) (by rw [hsw, hc]; rfl) (by decide) ?_
          refine lv_aload_n hx hb d_Law_law_104 rfl (lv_at hl 1 rfl) ?_
          refine lv_aload_n hx hb d_Law_law_105 rfl (lv_at hl 0 rfl) ?_
          refine lv_iload_n hx hb d_Law_law_106 rfl (lv_at hl 3 rfl) ?_
          refine lv_iconst (v := iI 1) hx hb d_Law_law_107 rfl ?_
          refine bk_add hx hb d_Law_law_108 ?_
          refine bk_top (y := iI ((i + 1 : Nat) : Int)) (congrArg iI (by omega)) ?_
          refine sg_sld hx hb hX hbl hbA hS (i + 1) (by omega) hL d_Law_law_109 ?_
          refine lv_aload_n hx hb d_Law_law_110 rfl (lv_at hl 0 rfl) ?_
          refine lv_iload_n hx hb d_Law_law_111 rfl (lv_at hl 3 rfl) ?_
          refine lv_iconst (v := iI 2) hx hb d_Law_law_112 rfl ?_
          refine bk_add hx hb d_Law_law_113 ?_
          refine bk_top (y := iI ((i + 2 : Nat) : Int)) (congrArg iI (by omega)) ?_
          refine sg_sld hx hb hX hbl hbA hS (i + 2) (by omega) hL d_Law_law_114 ?_
          have hPs : va_P D classes (Wm cI am M ++ Wb cI cO ab B) H := sg_cmP hP
          have hDs : va_D A (Wm cI am M ++ Wb cI cO ab B) := sg_cmD hD
          refine sg_fi (U := Wm cI am M) (P := Wb cI cO ab B) hPs hDs hS hA (bk_rV (rest := []) hx hb hml hown hT hK (u_BR_op l D cI cO ab hR ((xs (i + 1)).toInt) ((xs (i + 2)).toInt) (iI_rg _) (iI_rg _)) (sg_P hPs) (sg_D hDs) 0 5 rfl rfl rfl tw_156 tw_157 tw_158 tw_1 tw_159 hd_BR_op ⟨rfl, rfl⟩ (by decide) hl.1 rfl (ble_le rfl) d_Law_law_115 (by decide)) (fun r115 B2 H locs hqB hP hD hS => ?_)
          refine lv_aload_n hx hb d_Law_law_118 rfl (lv_at hl 2 rfl) ?_
          refine lv_aload_n hx hb d_Law_law_119 rfl (lv_at hl 0 rfl) ?_
          refine lv_iload_n hx hb d_Law_law_120 rfl (lv_at hl 3 rfl) ?_
          refine lv_iconst (v := iI 1) hx hb d_Law_law_121 rfl ?_
          refine bk_add hx hb d_Law_law_122 ?_
          refine bk_top (y := iI ((i + 1 : Nat) : Int)) (congrArg iI (by omega)) ?_
          refine sg_sld hx hb hX hbl hbA hS (i + 1) (by omega) hL d_Law_law_123 ?_
          refine lv_aload_n hx hb d_Law_law_124 rfl (lv_at hl 0 rfl) ?_
          refine lv_iload_n hx hb d_Law_law_125 rfl (lv_at hl 3 rfl) ?_
          refine lv_iconst (v := iI 2) hx hb d_Law_law_126 rfl ?_
          refine bk_add hx hb d_Law_law_127 ?_
          refine bk_top (y := iI ((i + 2 : Nat) : Int)) (congrArg iI (by omega)) ?_
          refine sg_sld hx hb hX hbl hbA hS (i + 2) (by omega) hL d_Law_law_128 ?_
          have hPs : va_P D classes (Wb cI cO ab B2 ++ Wm cI am M) H := sg_cmP hP
          have hDs : va_D A (Wb cI cO ab B2 ++ Wm cI am M) := sg_cmD hD
          refine sg_fi (U := Wb cI cO ab B2) (P := Wm cI am M) hPs hDs hS hA (bk_rV (rest := [.int (iI r115)]) hx hb hml hown hT hK (u_Mod_op l D cI cO am hR ((xs (i + 1)).toInt) ((xs (i + 2)).toInt) (iI_rg _) (iI_rg _)) (sg_P hPs) (sg_D hDs) 0 6 rfl rfl rfl tw_487 tw_488 tw_489 tw_7 tw_490 hd_Mod_op ⟨rfl, rfl⟩ (by decide) hl.1 rfl (ble_le rfl) d_Law_law_129 (by decide)) (fun r129 M2 H locs hqM hP hD hS => ?_)
          obtain ⟨er, hR⟩ := z_op hR hqB hqM
          subst er
          refine lv_icmp_eq (tgt := 452) hx hb d_Law_law_132 (by decide) (fun _ => ?_) (fun hne => absurd rfl hne)
          exact cut452 _ _ _ _ _ hR (lv_sub hl [0, 1, 2, 3] rfl) hP hD hS
        · refine lv_tableIn (tgt := 137) (off := 105) hx hb d_Law_law_32 (by rw [hsw]; omega) (by rw [hsw]; omega) (by rw [hsw, hc]; rfl) (by decide) ?_
          refine lv_aload_n hx hb d_Law_law_137 rfl (lv_at hl 1 rfl) ?_
          refine lv_aload_n hx hb d_Law_law_138 rfl (lv_at hl 0 rfl) ?_
          refine lv_iload_n hx hb d_Law_law_139 rfl (lv_at hl 3 rfl) ?_
          refine lv_iconst (v := iI 1) hx hb d_Law_law_140 rfl ?_
          refine bk_add hx hb d_Law_law_141 ?_
          refine bk_top (y := iI ((i + 1 : Nat) : Int)) (congrArg iI (by omega)) ?_
          refine sg_sld hx hb hX hbl hbA hS (i + 1) (by omega) hL d_Law_law_142 ?_
          have hPs : va_P D classes (Wm cI am M ++ Wb cI cO ab B) H := sg_cmP hP
          have hDs : va_D A (Wm cI am M ++ Wb cI cO ab B) := sg_cmD hD
          refine sg_fi (U := Wm cI am M) (P := Wb cI cO ab B) hPs hDs hS hA (bk_rV (rest := []) hx hb hml hown hT hK (u_BR_base l D cI cO ab hR ((xs (i + 1)).toInt) (iI_rg _)) (sg_P hPs) (sg_D hDs) 0 5 rfl rfl rfl tw_164 tw_165 tw_166 tw_1 tw_167 hd_BR_base ⟨rfl, rfl⟩ (by decide) hl.1 rfl (ble_le rfl) d_Law_law_143 (by decide)) (fun r143 B2 H locs hqB hP hD hS => ?_)
          refine lv_aload_n hx hb d_Law_law_146 rfl (lv_at hl 2 rfl) ?_
          refine lv_aload_n hx hb d_Law_law_147 rfl (lv_at hl 0 rfl) ?_
          refine lv_iload_n hx hb d_Law_law_148 rfl (lv_at hl 3 rfl) ?_
          refine lv_iconst (v := iI 1) hx hb d_Law_law_149 rfl ?_
          refine bk_add hx hb d_Law_law_150 ?_
          refine bk_top (y := iI ((i + 1 : Nat) : Int)) (congrArg iI (by omega)) ?_
          refine sg_sld hx hb hX hbl hbA hS (i + 1) (by omega) hL d_Law_law_151 ?_
          have hPs : va_P D classes (Wb cI cO ab B2 ++ Wm cI am M) H := sg_cmP hP
          have hDs : va_D A (Wb cI cO ab B2 ++ Wm cI am M) := sg_cmD hD
          refine sg_fi (U := Wb cI cO ab B2) (P := Wm cI am M) hPs hDs hS hA (bk_rV (rest := [.int (iI r143)]) hx hb hml hown hT hK (u_Mod_base l D cI cO am hR ((xs (i + 1)).toInt) (iI_rg _)) (sg_P hPs) (sg_D hDs) 0 6 rfl rfl rfl tw_494 tw_495 tw_496 tw_7 tw_497 hd_Mod_base ⟨rfl, rfl⟩ (by decide) hl.1 rfl (ble_le rfl) d_Law_law_152 (by decide)) (fun r152 M2 H locs hqM hP hD hS => ?_)
          obtain ⟨er, hR⟩ := z_base hR hqB hqM
          subst er
          refine lv_icmp_eq (tgt := 452) hx hb d_Law_law_155 (by decide) (fun _ => ?_) (fun hne => absurd rfl hne)
          exact cut452 _ _ _ _ _ hR (lv_sub hl [0, 1, 2, 3] rfl) hP hD hS
        · refine lv_tableIn (tgt := 160) (off := 128) hx hb d_Law_law_32 (by rw [hsw]; omega) (by rw [hsw]; omega) (by rw [hsw, hc]; rfl) (by decide) ?_
          refine lv_aload_n hx hb d_Law_law_160 rfl (lv_at hl 1 rfl) ?_
          have hPs : va_P D classes (Wm cI am M ++ Wb cI cO ab B) H := sg_cmP hP
          have hDs : va_D A (Wm cI am M ++ Wb cI cO ab B) := sg_cmD hD
          refine sg_fv (U := Wm cI am M) (P := Wb cI cO ab B) hPs hDs hS hA (bk_rV (rest := []) hx hb hml hown hT hK (u_BR_scrap l D cI cO ab hR) (sg_P hPs) (sg_D hDs) 0 5 rfl rfl rfl tw_172 tw_173 tw_174 tw_1 tw_175 hd_BR_scrap ⟨rfl, rfl⟩ (by decide) hl.1 rfl (ble_le rfl) d_Law_law_161 (by decide)) (fun B2 H locs hqB hP hD hS => ?_)
          refine lv_aload_n hx hb d_Law_law_164 rfl (lv_at hl 2 rfl) ?_
          have hPs : va_P D classes (Wb cI cO ab B2 ++ Wm cI am M) H := sg_cmP hP
          have hDs : va_D A (Wb cI cO ab B2 ++ Wm cI am M) := sg_cmD hD
          refine sg_fv (U := Wb cI cO ab B2) (P := Wm cI am M) hPs hDs hS hA (bk_rV (rest := []) hx hb hml hown hT hK (u_Mod_scrap l D cI cO am hR) (sg_P hPs) (sg_D hDs) 0 6 rfl rfl rfl tw_498 tw_499 tw_500 tw_7 tw_501 hd_Mod_scrap ⟨rfl, rfl⟩ (by decide) hl.1 rfl (ble_le rfl) d_Law_law_165 (by decide)) (fun M2 H locs hqM hP hD hS => ?_)
          have hR := z_scrap hR hqB hqM
          refine lv_goto (tgt := 452) hx hb d_Law_law_168 (by decide) ?_
          exact cut452 _ _ _ _ _ hR (lv_sub hl [0, 1, 2, 3] rfl) hP hD hS
        · refine lv_tableIn (tgt := 171) (off := 139) hx hb d_Law_law_32 (by rw [hsw]; omega) (by rw [hsw]; omega) (by rw [hsw, hc]; rfl) (by decide) ?_
          refine lv_aload_n hx hb d_Law_law_171 rfl (lv_at hl 1 rfl) ?_
          refine lv_aload_n hx hb d_Law_law_172 rfl (lv_at hl 0 rfl) ?_
          refine lv_iload_n hx hb d_Law_law_173 rfl (lv_at hl 3 rfl) ?_
          refine lv_iconst (v := iI 1) hx hb d_Law_law_174 rfl ?_
          refine bk_add hx hb d_Law_law_175 ?_
          refine bk_top (y := iI ((i + 1 : Nat) : Int)) (congrArg iI (by omega)) ?_
          refine sg_sld hx hb hX hbl hbA hS (i + 1) (by omega) hL d_Law_law_176 ?_
          refine lv_aload_n hx hb d_Law_law_177 rfl (lv_at hl 0 rfl) ?_
          refine lv_iload_n hx hb d_Law_law_178 rfl (lv_at hl 3 rfl) ?_
          refine lv_iconst (v := iI 2) hx hb d_Law_law_179 rfl ?_
          refine bk_add hx hb d_Law_law_180 ?_
          refine bk_top (y := iI ((i + 2 : Nat) : Int)) (congrArg iI (by omega)) ?_
          refine sg_sld hx hb hX hbl hbA hS (i + 2) (by omega) hL d_Law_law_181 ?_
          have hPs : va_P D classes (Wm cI am M ++ Wb cI cO ab B) H := sg_cmP hP
          have hDs : va_D A (Wm cI am M ++ Wb cI cO ab B) := sg_cmD hD
          refine sg_fi (U := Wm cI am M) (P := Wb cI cO ab B) hPs hDs hS hA (bk_rV (rest := []) hx hb hml hown hT hK (u_BR_add l D cI cO ab hR ((xs (i + 1)).toInt) ((xs (i + 2)).toInt) (iI_rg _) (iI_rg _)) (sg_P hPs) (sg_D hDs) 0 5 rfl rfl rfl tw_180 tw_181 tw_182 tw_1 tw_183 hd_BR_add ⟨rfl, rfl⟩ (by decide) hl.1 rfl (ble_le rfl) d_Law_law_182 (by decide)) (fun r182 B2 H locs hqB hP hD hS => ?_)
          refine lv_aload_n hx hb d_Law_law_185 rfl (lv_at hl 2 rfl) ?_
          refine lv_aload_n hx hb d_Law_law_186 rfl (lv_at hl 0 rfl) ?_
          refine lv_iload_n hx hb d_Law_law_187 rfl (lv_at hl 3 rfl) ?_
          refine lv_iconst (v := iI 1) hx hb d_Law_law_188 rfl ?_
          refine bk_add hx hb d_Law_law_189 ?_
          refine bk_top (y := iI ((i + 1 : Nat) : Int)) (congrArg iI (by omega)) ?_
          refine sg_sld hx hb hX hbl hbA hS (i + 1) (by omega) hL d_Law_law_190 ?_
          refine lv_aload_n hx hb d_Law_law_191 rfl (lv_at hl 0 rfl) ?_
          refine lv_iload_n hx hb d_Law_law_192 rfl (lv_at hl 3 rfl) ?_
          refine lv_iconst (v := iI 2) hx hb d_Law_law_193 rfl ?_
          refine bk_add hx hb d_Law_law_194 ?_
          refine bk_top (y := iI ((i + 2 : Nat) : Int)) (congrArg iI (by omega)) ?_
          refine sg_sld hx hb hX hbl hbA hS (i + 2) (by omega) hL d_Law_law_195 ?_
          have hPs : va_P D classes (Wb cI cO ab B2 ++ Wm cI am M) H := sg_cmP hP
          have hDs : va_D A (Wb cI cO ab B2 ++ Wm cI am M) := sg_cmD hD
          refine sg_fi (U := Wb cI cO ab B2) (P := Wm cI am M) hPs hDs hS hA (bk_rV (rest := [.int (iI r182)]) hx hb hml hown hT hK (u_Mod_add l D cI cO am hR ((xs (i + 1)).toInt) ((xs (i + 2)).toInt) (iI_rg _) (iI_rg _)) (sg_P hPs) (sg_D hDs) 0 6 rfl rfl rfl tw_502 tw_503 tw_504 tw_7 tw_505 hd_Mod_add ⟨rfl, rfl⟩ (by decide) hl.1 rfl (ble_le rfl) d_Law_law_196 (by decide)) (fun r196 M2 H locs hqM hP hD hS => ?_)
          obtain ⟨er, hR⟩ := z_add hR hqB hqM
          subst er
          refine lv_icmp_eq (tgt := 452) hx hb d_Law_law_199 (by decide) (fun _ => ?_) (fun hne => absurd rfl hne)
          exact cut452 _ _ _ _ _ hR (lv_sub hl [0, 1, 2, 3] rfl) hP hD hS
        · refine lv_tableIn (tgt := 204) (off := 172) hx hb d_Law_law_32 (by rw [hsw]; omega) (by rw [hsw]; omega) (by rw [hsw, hc]; rfl) (by decide) ?_
          refine lv_aload_n hx hb d_Law_law_204 rfl (lv_at hl 1 rfl) ?_
          have hPs : va_P D classes (Wm cI am M ++ Wb cI cO ab B) H := sg_cmP hP
          have hDs : va_D A (Wm cI am M ++ Wb cI cO ab B) := sg_cmD hD
          refine sg_fi (U := Wm cI am M) (P := Wb cI cO ab B) hPs hDs hS hA (bk_rV (rest := []) hx hb hml hown hT hK (u_BR_finish l D cI cO ab hR) (sg_P hPs) (sg_D hDs) 0 5 rfl rfl rfl tw_243 tw_244 tw_245 tw_1 tw_246 hd_BR_finish ⟨rfl, rfl⟩ (by decide) hl.1 rfl (ble_le rfl) d_Law_law_205 (by decide)) (fun r205 B2 H locs hqB hP hD hS => ?_)
          refine lv_aload_n hx hb d_Law_law_208 rfl (lv_at hl 2 rfl) ?_
          have hPs : va_P D classes (Wb cI cO ab B2 ++ Wm cI am M) H := sg_cmP hP
          have hDs : va_D A (Wb cI cO ab B2 ++ Wm cI am M) := sg_cmD hD
          refine sg_fi (U := Wb cI cO ab B2) (P := Wm cI am M) hPs hDs hS hA (bk_rV (rest := [.int (iI r205)]) hx hb hml hown hT hK (u_Mod_finish l D cI cO am hR) (sg_P hPs) (sg_D hDs) 0 6 rfl rfl rfl tw_511 tw_512 tw_513 tw_7 tw_514 hd_Mod_finish ⟨rfl, rfl⟩ (by decide) hl.1 rfl (ble_le rfl) d_Law_law_209 (by decide)) (fun r209 M2 H locs hqM hP hD hS => ?_)
          obtain ⟨er, hR⟩ := z_finish hR hqB hqM
          subst er
          refine lv_icmp_eq (tgt := 452) hx hb d_Law_law_212 (by decide) (fun _ => ?_) (fun hne => absurd rfl hne)
          exact cut452 _ _ _ _ _ hR (lv_sub hl [0, 1, 2, 3] rfl) hP hD hS
        · refine lv_tableIn (tgt := 217) (off := 185) hx hb d_Law_law_32 (by rw [hsw]; omega) (by rw [hsw]; omega) (by rw [hsw, hc]; rfl) (by decide) ?_
          refine lv_aload_n hx hb d_Law_law_217 rfl (lv_at hl 1 rfl) ?_
          have hPs : va_P D classes (Wm cI am M ++ Wb cI cO ab B) H := sg_cmP hP
          have hDs : va_D A (Wm cI am M ++ Wb cI cO ab B) := sg_cmD hD
          refine sg_fv (U := Wm cI am M) (P := Wb cI cO ab B) hPs hDs hS hA (bk_rV (rest := []) hx hb hml hown hT hK (u_BR_clear l D cI cO ab hR) (sg_P hPs) (sg_D hDs) 0 5 rfl rfl rfl tw_275 tw_276 tw_277 tw_1 tw_278 hd_BR_clear ⟨rfl, rfl⟩ (by decide) hl.1 rfl (ble_le rfl) d_Law_law_218 (by decide)) (fun B2 H locs hqB hP hD hS => ?_)
          refine lv_aload_n hx hb d_Law_law_221 rfl (lv_at hl 2 rfl) ?_
          have hPs : va_P D classes (Wb cI cO ab B2 ++ Wm cI am M) H := sg_cmP hP
          have hDs : va_D A (Wb cI cO ab B2 ++ Wm cI am M) := sg_cmD hD
          refine sg_fv (U := Wb cI cO ab B2) (P := Wm cI am M) hPs hDs hS hA (bk_rV (rest := []) hx hb hml hown hT hK (u_Mod_clear l D cI cO am hR) (sg_P hPs) (sg_D hDs) 0 6 rfl rfl rfl tw_536 tw_537 tw_538 tw_7 tw_539 hd_Mod_clear ⟨rfl, rfl⟩ (by decide) hl.1 rfl (ble_le rfl) d_Law_law_222 (by decide)) (fun M2 H locs hqM hP hD hS => ?_)
          have hR := z_clear hR hqB hqM
          refine lv_goto (tgt := 452) hx hb d_Law_law_225 (by decide) ?_
          exact cut452 _ _ _ _ _ hR (lv_sub hl [0, 1, 2, 3] rfl) hP hD hS
        · refine lv_tableIn (tgt := 228) (off := 196) hx hb d_Law_law_32 (by rw [hsw]; omega) (by rw [hsw]; omega) (by rw [hsw, hc]; rfl) (by decide) ?_
          refine lv_aload_n hx hb d_Law_law_228 rfl (lv_at hl 1 rfl) ?_
          refine lv_aload_n hx hb d_Law_law_229 rfl (lv_at hl 0 rfl) ?_
          refine lv_iload_n hx hb d_Law_law_230 rfl (lv_at hl 3 rfl) ?_
          refine lv_iconst (v := iI 1) hx hb d_Law_law_231 rfl ?_
          refine bk_add hx hb d_Law_law_232 ?_
          refine bk_top (y := iI ((i + 1 : Nat) : Int)) (congrArg iI (by omega)) ?_
          refine sg_sld hx hb hX hbl hbA hS (i + 1) (by omega) hL d_Law_law_233 ?_
          refine lv_aload_n hx hb d_Law_law_234 rfl (lv_at hl 0 rfl) ?_
          refine lv_iload_n hx hb d_Law_law_235 rfl (lv_at hl 3 rfl) ?_
          refine lv_iconst (v := iI 2) hx hb d_Law_law_236 rfl ?_
          refine bk_add hx hb d_Law_law_237 ?_
          refine bk_top (y := iI ((i + 2 : Nat) : Int)) (congrArg iI (by omega)) ?_
          refine sg_sld hx hb hX hbl hbA hS (i + 2) (by omega) hL d_Law_law_238 ?_
          have hPs : va_P D classes (Wm cI am M ++ Wb cI cO ab B) H := sg_cmP hP
          have hDs : va_D A (Wm cI am M ++ Wb cI cO ab B) := sg_cmD hD
          refine sg_fi (U := Wm cI am M) (P := Wb cI cO ab B) hPs hDs hS hA (bk_rV (rest := []) hx hb hml hown hT hK (u_BR_turn l D cI cO ab hR ((xs (i + 1)).toInt) ((xs (i + 2)).toInt) (iI_rg _) (iI_rg _)) (sg_P hPs) (sg_D hDs) 0 5 rfl rfl rfl tw_295 tw_296 tw_297 tw_1 tw_298 hd_BR_turn ⟨rfl, rfl⟩ (by decide) hl.1 rfl (ble_le rfl) d_Law_law_239 (by decide)) (fun r239 B2 H locs hqB hP hD hS => ?_)
          refine lv_aload_n hx hb d_Law_law_242 rfl (lv_at hl 2 rfl) ?_
          refine lv_aload_n hx hb d_Law_law_243 rfl (lv_at hl 0 rfl) ?_
          refine lv_iload_n hx hb d_Law_law_244 rfl (lv_at hl 3 rfl) ?_
          refine lv_iconst (v := iI 1) hx hb d_Law_law_245 rfl ?_
          refine bk_add hx hb d_Law_law_246 ?_
          refine bk_top (y := iI ((i + 1 : Nat) : Int)) (congrArg iI (by omega)) ?_
          refine sg_sld hx hb hX hbl hbA hS (i + 1) (by omega) hL d_Law_law_247 ?_
          refine lv_aload_n hx hb d_Law_law_248 rfl (lv_at hl 0 rfl) ?_
          refine lv_iload_n hx hb d_Law_law_249 rfl (lv_at hl 3 rfl) ?_
          refine lv_iconst (v := iI 2) hx hb d_Law_law_250 rfl ?_
          refine bk_add hx hb d_Law_law_251 ?_
          refine bk_top (y := iI ((i + 2 : Nat) : Int)) (congrArg iI (by omega)) ?_
          refine sg_sld hx hb hX hbl hbA hS (i + 2) (by omega) hL d_Law_law_252 ?_
          have hPs : va_P D classes (Wb cI cO ab B2 ++ Wm cI am M) H := sg_cmP hP
          have hDs : va_D A (Wb cI cO ab B2 ++ Wm cI am M) := sg_cmD hD
          refine sg_fi (U := Wb cI cO ab B2) (P := Wm cI am M) hPs hDs hS hA (bk_rV (rest := [.int (iI r239)]) hx hb hml hown hT hK (u_Mod_turn l D cI cO am hR ((xs (i + 1)).toInt) ((xs (i + 2)).toInt) (iI_rg _) (iI_rg _)) (sg_P hPs) (sg_D hDs) 0 6 rfl rfl rfl tw_540 tw_541 tw_542 tw_7 tw_543 hd_Mod_turn ⟨rfl, rfl⟩ (by decide) hl.1 rfl (ble_le rfl) d_Law_law_253 (by decide)) (fun r253 M2 H locs hqM hP hD hS => ?_)
          obtain ⟨er, hR⟩ := z_turn hR hqB hqM
          subst er
          refine lv_icmp_eq (tgt := 452) hx hb d_Law_law_256 (by decide) (fun _ => ?_) (fun hne => absurd rfl hne)
          exact cut452 _ _ _ _ _ hR (lv_sub hl [0, 1, 2, 3] rfl) hP hD hS
        · refine lv_tableIn (tgt := 261) (off := 229) hx hb d_Law_law_32 (by rw [hsw]; omega) (by rw [hsw]; omega) (by rw [hsw, hc]; rfl) (by decide) ?_
          refine lv_aload_n hx hb d_Law_law_261 rfl (lv_at hl 1 rfl) ?_
          refine lv_aload_n hx hb d_Law_law_262 rfl (lv_at hl 0 rfl) ?_
          refine lv_iload_n hx hb d_Law_law_263 rfl (lv_at hl 3 rfl) ?_
          refine lv_iconst (v := iI 1) hx hb d_Law_law_264 rfl ?_
          refine bk_add hx hb d_Law_law_265 ?_
          refine bk_top (y := iI ((i + 1 : Nat) : Int)) (congrArg iI (by omega)) ?_
          refine sg_sld hx hb hX hbl hbA hS (i + 1) (by omega) hL d_Law_law_266 ?_
          have hPs : va_P D classes (Wm cI am M ++ Wb cI cO ab B) H := sg_cmP hP
          have hDs : va_D A (Wm cI am M ++ Wb cI cO ab B) := sg_cmD hD
          refine sg_fi (U := Wm cI am M) (P := Wb cI cO ab B) hPs hDs hS hA (bk_rV (rest := []) hx hb hml hown hT hK (u_BR_byteAt l D cI cO ab hR ((xs (i + 1)).toInt) (iI_rg _)) (sg_P hPs) (sg_D hDs) 0 5 rfl rfl rfl tw_303 tw_304 tw_305 tw_1 tw_306 hd_BR_byteAt ⟨rfl, rfl⟩ (by decide) hl.1 rfl (ble_le rfl) d_Law_law_267 (by decide)) (fun r267 B2 H locs hqB hP hD hS => ?_)
          refine lv_aload_n hx hb d_Law_law_270 rfl (lv_at hl 2 rfl) ?_
          refine lv_aload_n hx hb d_Law_law_271 rfl (lv_at hl 0 rfl) ?_
          refine lv_iload_n hx hb d_Law_law_272 rfl (lv_at hl 3 rfl) ?_
          refine lv_iconst (v := iI 1) hx hb d_Law_law_273 rfl ?_
          refine bk_add hx hb d_Law_law_274 ?_
          refine bk_top (y := iI ((i + 1 : Nat) : Int)) (congrArg iI (by omega)) ?_
          refine sg_sld hx hb hX hbl hbA hS (i + 1) (by omega) hL d_Law_law_275 ?_
          have hPs : va_P D classes (Wb cI cO ab B2 ++ Wm cI am M) H := sg_cmP hP
          have hDs : va_D A (Wb cI cO ab B2 ++ Wm cI am M) := sg_cmD hD
          refine sg_fi (U := Wb cI cO ab B2) (P := Wm cI am M) hPs hDs hS hA (bk_rV (rest := [.int (iI r267)]) hx hb hml hown hT hK (u_Mod_byteAt l D cI cO am hR ((xs (i + 1)).toInt) (iI_rg _)) (sg_P hPs) (sg_D hDs) 0 6 rfl rfl rfl tw_544 tw_545 tw_546 tw_7 tw_547 hd_Mod_byteAt ⟨rfl, rfl⟩ (by decide) hl.1 rfl (ble_le rfl) d_Law_law_276 (by decide)) (fun r276 M2 H locs hqM hP hD hS => ?_)
          obtain ⟨er, hR⟩ := z_byteAt hR hqB hqM
          subst er
          refine lv_icmp_eq (tgt := 452) hx hb d_Law_law_279 (by decide) (fun _ => ?_) (fun hne => absurd rfl hne)
          exact cut452 _ _ _ _ _ hR (lv_sub hl [0, 1, 2, 3] rfl) hP hD hS
        · refine lv_tableIn (tgt := 284) (off := 252) hx hb d_Law_law_32 (by rw [hsw]; omega) (by rw [hsw]; omega) (by rw [hsw, hc]; rfl) (by decide) ?_
          refine lv_aload_n hx hb d_Law_law_284 rfl (lv_at hl 1 rfl) ?_
          have hPs : va_P D classes (Wm cI am M ++ Wb cI cO ab B) H := sg_cmP hP
          have hDs : va_D A (Wm cI am M ++ Wb cI cO ab B) := sg_cmD hD
          refine sg_fi (U := Wm cI am M) (P := Wb cI cO ab B) hPs hDs hS hA (bk_rV (rest := []) hx hb hml hown hT hK (u_BR_check l D cI cO ab hR) (sg_P hPs) (sg_D hDs) 0 5 rfl rfl rfl tw_308 tw_309 tw_310 tw_1 tw_311 hd_BR_check ⟨rfl, rfl⟩ (by decide) hl.1 rfl (ble_le rfl) d_Law_law_285 (by decide)) (fun r285 B2 H locs hqB hP hD hS => ?_)
          refine lv_aload_n hx hb d_Law_law_288 rfl (lv_at hl 2 rfl) ?_
          have hPs : va_P D classes (Wb cI cO ab B2 ++ Wm cI am M) H := sg_cmP hP
          have hDs : va_D A (Wb cI cO ab B2 ++ Wm cI am M) := sg_cmD hD
          refine sg_fi (U := Wb cI cO ab B2) (P := Wm cI am M) hPs hDs hS hA (bk_rV (rest := [.int (iI r285)]) hx hb hml hown hT hK (u_Mod_check l D cI cO am hR) (sg_P hPs) (sg_D hDs) 0 6 rfl rfl rfl tw_548 tw_549 tw_550 tw_7 tw_551 hd_Mod_check ⟨rfl, rfl⟩ (by decide) hl.1 rfl (ble_le rfl) d_Law_law_289 (by decide)) (fun r289 M2 H locs hqM hP hD hS => ?_)
          obtain ⟨er, hR⟩ := z_check hR hqB hqM
          subst er
          refine lv_icmp_eq (tgt := 452) hx hb d_Law_law_292 (by decide) (fun _ => ?_) (fun hne => absurd rfl hne)
          exact cut452 _ _ _ _ _ hR (lv_sub hl [0, 1, 2, 3] rfl) hP hD hS
        · refine lv_tableIn (tgt := 297) (off := 265) hx hb d_Law_law_32 (by rw [hsw]; omega) (by rw [hsw]; omega) (by rw [hsw, hc]; rfl) (by decide) ?_
          refine lv_aload_n hx hb d_Law_law_297 rfl (lv_at hl 1 rfl) ?_
          refine lv_aload_n hx hb d_Law_law_298 rfl (lv_at hl 0 rfl) ?_
          refine lv_iload_n hx hb d_Law_law_299 rfl (lv_at hl 3 rfl) ?_
          refine lv_iconst (v := iI 1) hx hb d_Law_law_300 rfl ?_
          refine bk_add hx hb d_Law_law_301 ?_
          refine bk_top (y := iI ((i + 1 : Nat) : Int)) (congrArg iI (by omega)) ?_
          refine sg_sld hx hb hX hbl hbA hS (i + 1) (by omega) hL d_Law_law_302 ?_
          refine lv_aload_n hx hb d_Law_law_303 rfl (lv_at hl 0 rfl) ?_
          refine lv_iload_n hx hb d_Law_law_304 rfl (lv_at hl 3 rfl) ?_
          refine lv_iconst (v := iI 2) hx hb d_Law_law_305 rfl ?_
          refine bk_add hx hb d_Law_law_306 ?_
          refine bk_top (y := iI ((i + 2 : Nat) : Int)) (congrArg iI (by omega)) ?_
          refine sg_sld hx hb hX hbl hbA hS (i + 2) (by omega) hL d_Law_law_307 ?_
          refine lv_aload_n hx hb d_Law_law_308 rfl (lv_at hl 0 rfl) ?_
          refine lv_iload_n hx hb d_Law_law_309 rfl (lv_at hl 3 rfl) ?_
          refine lv_iconst (v := iI 3) hx hb d_Law_law_310 rfl ?_
          refine bk_add hx hb d_Law_law_311 ?_
          refine bk_top (y := iI ((i + 3 : Nat) : Int)) (congrArg iI (by omega)) ?_
          refine sg_sld hx hb hX hbl hbA hS (i + 3) (by omega) hL d_Law_law_312 ?_
          have hPs : va_P D classes (Wm cI am M ++ Wb cI cO ab B) H := sg_cmP hP
          have hDs : va_D A (Wm cI am M ++ Wb cI cO ab B) := sg_cmD hD
          refine sg_fi (U := Wm cI am M) (P := Wb cI cO ab B) hPs hDs hS hA (bk_rV (rest := []) hx hb hml hown hT hK (u_BR_query l D cI cO ab hR ((xs (i + 1)).toInt) ((xs (i + 2)).toInt) ((xs (i + 3)).toInt) (iI_rg _) (iI_rg _) (iI_rg _)) (sg_P hPs) (sg_D hDs) 0 5 rfl rfl rfl tw_325 tw_326 tw_327 tw_1 tw_328 hd_BR_query ⟨rfl, rfl⟩ (by decide) hl.1 rfl (ble_le rfl) d_Law_law_313 (by decide)) (fun r313 B2 H locs hqB hP hD hS => ?_)
          refine lv_aload_n hx hb d_Law_law_316 rfl (lv_at hl 2 rfl) ?_
          refine lv_aload_n hx hb d_Law_law_317 rfl (lv_at hl 0 rfl) ?_
          refine lv_iload_n hx hb d_Law_law_318 rfl (lv_at hl 3 rfl) ?_
          refine lv_iconst (v := iI 1) hx hb d_Law_law_319 rfl ?_
          refine bk_add hx hb d_Law_law_320 ?_
          refine bk_top (y := iI ((i + 1 : Nat) : Int)) (congrArg iI (by omega)) ?_
          refine sg_sld hx hb hX hbl hbA hS (i + 1) (by omega) hL d_Law_law_321 ?_
          refine lv_aload_n hx hb d_Law_law_322 rfl (lv_at hl 0 rfl) ?_
          refine lv_iload_n hx hb d_Law_law_323 rfl (lv_at hl 3 rfl) ?_
          refine lv_iconst (v := iI 2) hx hb d_Law_law_324 rfl ?_
          refine bk_add hx hb d_Law_law_325 ?_
          refine bk_top (y := iI ((i + 2 : Nat) : Int)) (congrArg iI (by omega)) ?_
          refine sg_sld hx hb hX hbl hbA hS (i + 2) (by omega) hL d_Law_law_326 ?_
          refine lv_aload_n hx hb d_Law_law_327 rfl (lv_at hl 0 rfl) ?_
          refine lv_iload_n hx hb d_Law_law_328 rfl (lv_at hl 3 rfl) ?_
          refine lv_iconst (v := iI 3) hx hb d_Law_law_329 rfl ?_
          refine bk_add hx hb d_Law_law_330 ?_
          refine bk_top (y := iI ((i + 3 : Nat) : Int)) (congrArg iI (by omega)) ?_
          refine sg_sld hx hb hX hbl hbA hS (i + 3) (by omega) hL d_Law_law_331 ?_
          have hPs : va_P D classes (Wb cI cO ab B2 ++ Wm cI am M) H := sg_cmP hP
          have hDs : va_D A (Wb cI cO ab B2 ++ Wm cI am M) := sg_cmD hD
          refine sg_fi (U := Wb cI cO ab B2) (P := Wm cI am M) hPs hDs hS hA (bk_rV (rest := [.int (iI r313)]) hx hb hml hown hT hK (u_Mod_query l D cI cO am hR ((xs (i + 1)).toInt) ((xs (i + 2)).toInt) ((xs (i + 3)).toInt) (iI_rg _) (iI_rg _) (iI_rg _)) (sg_P hPs) (sg_D hDs) 0 6 rfl rfl rfl tw_552 tw_553 tw_554 tw_7 tw_555 hd_Mod_query ⟨rfl, rfl⟩ (by decide) hl.1 rfl (ble_le rfl) d_Law_law_332 (by decide)) (fun r332 M2 H locs hqM hP hD hS => ?_)
          obtain ⟨er, hR⟩ := z_query hR hqB hqM
          subst er
          refine lv_icmp_eq (tgt := 452) hx hb d_Law_law_335 (by decide) (fun _ => ?_) (fun hne => absurd rfl hne)
          exact cut452 _ _ _ _ _ hR (lv_sub hl [0, 1, 2, 3] rfl) hP hD hS
        · refine lv_tableIn (tgt := 340) (off := 308) hx hb d_Law_law_32 (by rw [hsw]; omega) (by rw [hsw]; omega) (by rw [hsw, hc]; rfl) (by decide) ?_
          refine lv_aload_n hx hb d_Law_law_340 rfl (lv_at hl 1 rfl) ?_
          have hPs : va_P D classes (Wm cI am M ++ Wb cI cO ab B) H := sg_cmP hP
          have hDs : va_D A (Wm cI am M ++ Wb cI cO ab B) := sg_cmD hD
          refine sg_fi (U := Wm cI am M) (P := Wb cI cO ab B) hPs hDs hS hA (bk_rV (rest := []) hx hb hml hown hT hK (u_BR_looked l D cI cO ab hR) (sg_P hPs) (sg_D hDs) 0 5 rfl rfl rfl tw_372 tw_373 tw_374 tw_1 tw_375 hd_BR_looked ⟨rfl, rfl⟩ (by decide) hl.1 rfl (ble_le rfl) d_Law_law_341 (by decide)) (fun r341 B2 H locs hqB hP hD hS => ?_)
          refine lv_aload_n hx hb d_Law_law_344 rfl (lv_at hl 2 rfl) ?_
          have hPs : va_P D classes (Wb cI cO ab B2 ++ Wm cI am M) H := sg_cmP hP
          have hDs : va_D A (Wb cI cO ab B2 ++ Wm cI am M) := sg_cmD hD
          refine sg_fi (U := Wb cI cO ab B2) (P := Wm cI am M) hPs hDs hS hA (bk_rV (rest := [.int (iI r341)]) hx hb hml hown hT hK (u_Mod_looked l D cI cO am hR) (sg_P hPs) (sg_D hDs) 0 6 rfl rfl rfl tw_567 tw_568 tw_569 tw_7 tw_570 hd_Mod_looked ⟨rfl, rfl⟩ (by decide) hl.1 rfl (ble_le rfl) d_Law_law_345 (by decide)) (fun r345 M2 H locs hqM hP hD hS => ?_)
          obtain ⟨er, hR⟩ := z_looked hR hqB hqM
          subst er
          refine lv_icmp_eq (tgt := 452) hx hb d_Law_law_348 (by decide) (fun _ => ?_) (fun hne => absurd rfl hne)
          exact cut452 _ _ _ _ _ hR (lv_sub hl [0, 1, 2, 3] rfl) hP hD hS
        · refine lv_tableIn (tgt := 353) (off := 321) hx hb d_Law_law_32 (by rw [hsw]; omega) (by rw [hsw]; omega) (by rw [hsw, hc]; rfl) (by decide) ?_
          refine lv_aload_n hx hb d_Law_law_353 rfl (lv_at hl 1 rfl) ?_
          refine lv_aload_n hx hb d_Law_law_354 rfl (lv_at hl 0 rfl) ?_
          refine lv_iload_n hx hb d_Law_law_355 rfl (lv_at hl 3 rfl) ?_
          refine lv_iconst (v := iI 1) hx hb d_Law_law_356 rfl ?_
          refine bk_add hx hb d_Law_law_357 ?_
          refine bk_top (y := iI ((i + 1 : Nat) : Int)) (congrArg iI (by omega)) ?_
          refine sg_sld hx hb hX hbl hbA hS (i + 1) (by omega) hL d_Law_law_358 ?_
          refine lv_aload_n hx hb d_Law_law_359 rfl (lv_at hl 0 rfl) ?_
          refine lv_iload_n hx hb d_Law_law_360 rfl (lv_at hl 3 rfl) ?_
          refine lv_iconst (v := iI 2) hx hb d_Law_law_361 rfl ?_
          refine bk_add hx hb d_Law_law_362 ?_
          refine bk_top (y := iI ((i + 2 : Nat) : Int)) (congrArg iI (by omega)) ?_
          refine sg_sld hx hb hX hbl hbA hS (i + 2) (by omega) hL d_Law_law_363 ?_
          have hPs : va_P D classes (Wm cI am M ++ Wb cI cO ab B) H := sg_cmP hP
          have hDs : va_D A (Wm cI am M ++ Wb cI cO ab B) := sg_cmD hD
          refine sg_fi (U := Wm cI am M) (P := Wb cI cO ab B) hPs hDs hS hA (bk_rV (rest := []) hx hb hml hown hT hK (u_BR_found l D cI cO ab hR ((xs (i + 1)).toInt) ((xs (i + 2)).toInt) (iI_rg _) (iI_rg _)) (sg_P hPs) (sg_D hDs) 0 5 rfl rfl rfl tw_376 tw_377 tw_378 tw_1 tw_379 hd_BR_found ⟨rfl, rfl⟩ (by decide) hl.1 rfl (ble_le rfl) d_Law_law_364 (by decide)) (fun r364 B2 H locs hqB hP hD hS => ?_)
          refine lv_aload_n hx hb d_Law_law_367 rfl (lv_at hl 2 rfl) ?_
          refine lv_aload_n hx hb d_Law_law_368 rfl (lv_at hl 0 rfl) ?_
          refine lv_iload_n hx hb d_Law_law_369 rfl (lv_at hl 3 rfl) ?_
          refine lv_iconst (v := iI 1) hx hb d_Law_law_370 rfl ?_
          refine bk_add hx hb d_Law_law_371 ?_
          refine bk_top (y := iI ((i + 1 : Nat) : Int)) (congrArg iI (by omega)) ?_
          refine sg_sld hx hb hX hbl hbA hS (i + 1) (by omega) hL d_Law_law_372 ?_
          refine lv_aload_n hx hb d_Law_law_373 rfl (lv_at hl 0 rfl) ?_
          refine lv_iload_n hx hb d_Law_law_374 rfl (lv_at hl 3 rfl) ?_
          refine lv_iconst (v := iI 2) hx hb d_Law_law_375 rfl ?_
          refine bk_add hx hb d_Law_law_376 ?_
          refine bk_top (y := iI ((i + 2 : Nat) : Int)) (congrArg iI (by omega)) ?_
          refine sg_sld hx hb hX hbl hbA hS (i + 2) (by omega) hL d_Law_law_377 ?_
          have hPs : va_P D classes (Wb cI cO ab B2 ++ Wm cI am M) H := sg_cmP hP
          have hDs : va_D A (Wb cI cO ab B2 ++ Wm cI am M) := sg_cmD hD
          refine sg_fi (U := Wb cI cO ab B2) (P := Wm cI am M) hPs hDs hS hA (bk_rV (rest := [.int (iI r364)]) hx hb hml hown hT hK (u_Mod_found l D cI cO am hR ((xs (i + 1)).toInt) ((xs (i + 2)).toInt) (iI_rg _) (iI_rg _)) (sg_P hPs) (sg_D hDs) 0 6 rfl rfl rfl tw_571 tw_572 tw_573 tw_7 tw_574 hd_Mod_found ⟨rfl, rfl⟩ (by decide) hl.1 rfl (ble_le rfl) d_Law_law_378 (by decide)) (fun r378 M2 H locs hqM hP hD hS => ?_)
          obtain ⟨er, hR⟩ := z_found hR hqB hqM
          subst er
          refine lv_icmp_eq (tgt := 452) hx hb d_Law_law_381 (by decide) (fun _ => ?_) (fun hne => absurd rfl hne)
          exact cut452 _ _ _ _ _ hR (lv_sub hl [0, 1, 2, 3] rfl) hP hD hS
        · refine lv_tableIn (tgt := 386) (off := 354) hx hb d_Law_law_32 (by rw [hsw]; omega) (by rw [hsw]; omega) (by rw [hsw, hc]; rfl) (by decide) ?_
          refine lv_aload_n hx hb d_Law_law_386 rfl (lv_at hl 1 rfl) ?_
          refine lv_aload_n hx hb d_Law_law_387 rfl (lv_at hl 0 rfl) ?_
          refine lv_iload_n hx hb d_Law_law_388 rfl (lv_at hl 3 rfl) ?_
          refine lv_iconst (v := iI 1) hx hb d_Law_law_389 rfl ?_
          refine bk_add hx hb d_Law_law_390 ?_
          refine bk_top (y := iI ((i + 1 : Nat) : Int)) (congrArg iI (by omega)) ?_
          refine sg_sld hx hb hX hbl hbA hS (i + 1) (by omega) hL d_Law_law_391 ?_
          refine lv_aload_n hx hb d_Law_law_392 rfl (lv_at hl 0 rfl) ?_
          refine lv_iload_n hx hb d_Law_law_393 rfl (lv_at hl 3 rfl) ?_
          refine lv_iconst (v := iI 2) hx hb d_Law_law_394 rfl ?_
          refine bk_add hx hb d_Law_law_395 ?_
          refine bk_top (y := iI ((i + 2 : Nat) : Int)) (congrArg iI (by omega)) ?_
          refine sg_sld hx hb hX hbl hbA hS (i + 2) (by omega) hL d_Law_law_396 ?_
          have hPs : va_P D classes (Wm cI am M ++ Wb cI cO ab B) H := sg_cmP hP
          have hDs : va_D A (Wm cI am M ++ Wb cI cO ab B) := sg_cmD hD
          refine sg_fi (U := Wm cI am M) (P := Wb cI cO ab B) hPs hDs hS hA (bk_rV (rest := []) hx hb hml hown hT hK (u_BR_foundOp l D cI cO ab hR ((xs (i + 1)).toInt) ((xs (i + 2)).toInt) (iI_rg _) (iI_rg _)) (sg_P hPs) (sg_D hDs) 0 5 rfl rfl rfl tw_403 tw_404 tw_405 tw_1 tw_406 hd_BR_foundOp ⟨rfl, rfl⟩ (by decide) hl.1 rfl (ble_le rfl) d_Law_law_397 (by decide)) (fun r397 B2 H locs hqB hP hD hS => ?_)
          refine lv_aload_n hx hb d_Law_law_400 rfl (lv_at hl 2 rfl) ?_
          refine lv_aload_n hx hb d_Law_law_401 rfl (lv_at hl 0 rfl) ?_
          refine lv_iload_n hx hb d_Law_law_402 rfl (lv_at hl 3 rfl) ?_
          refine lv_iconst (v := iI 1) hx hb d_Law_law_403 rfl ?_
          refine bk_add hx hb d_Law_law_404 ?_
          refine bk_top (y := iI ((i + 1 : Nat) : Int)) (congrArg iI (by omega)) ?_
          refine sg_sld hx hb hX hbl hbA hS (i + 1) (by omega) hL d_Law_law_405 ?_
          refine lv_aload_n hx hb d_Law_law_406 rfl (lv_at hl 0 rfl) ?_
          refine lv_iload_n hx hb d_Law_law_407 rfl (lv_at hl 3 rfl) ?_
          refine lv_iconst (v := iI 2) hx hb d_Law_law_408 rfl ?_
          refine bk_add hx hb d_Law_law_409 ?_
          refine bk_top (y := iI ((i + 2 : Nat) : Int)) (congrArg iI (by omega)) ?_
          refine sg_sld hx hb hX hbl hbA hS (i + 2) (by omega) hL d_Law_law_410 ?_
          have hPs : va_P D classes (Wb cI cO ab B2 ++ Wm cI am M) H := sg_cmP hP
          have hDs : va_D A (Wb cI cO ab B2 ++ Wm cI am M) := sg_cmD hD
          refine sg_fi (U := Wb cI cO ab B2) (P := Wm cI am M) hPs hDs hS hA (bk_rV (rest := [.int (iI r397)]) hx hb hml hown hT hK (u_Mod_foundOp l D cI cO am hR ((xs (i + 1)).toInt) ((xs (i + 2)).toInt) (iI_rg _) (iI_rg _)) (sg_P hPs) (sg_D hDs) 0 6 rfl rfl rfl tw_575 tw_576 tw_577 tw_7 tw_578 hd_Mod_foundOp ⟨rfl, rfl⟩ (by decide) hl.1 rfl (ble_le rfl) d_Law_law_411 (by decide)) (fun r411 M2 H locs hqM hP hD hS => ?_)
          obtain ⟨er, hR⟩ := z_foundOp hR hqB hqM
          subst er
          refine lv_icmp_eq (tgt := 452) hx hb d_Law_law_414 (by decide) (fun _ => ?_) (fun hne => absurd rfl hne)
          exact cut452 _ _ _ _ _ hR (lv_sub hl [0, 1, 2, 3] rfl) hP hD hS
        · refine lv_tableIn (tgt := 419) (off := 387) hx hb d_Law_law_32 (by rw [hsw]; omega) (by rw [hsw]; omega) (by rw [hsw, hc]; rfl) (by decide) ?_
          refine lv_aload_n hx hb d_Law_law_419 rfl (lv_at hl 1 rfl) ?_
          refine lv_aload_n hx hb d_Law_law_420 rfl (lv_at hl 0 rfl) ?_
          refine lv_iload_n hx hb d_Law_law_421 rfl (lv_at hl 3 rfl) ?_
          refine lv_iconst (v := iI 1) hx hb d_Law_law_422 rfl ?_
          refine bk_add hx hb d_Law_law_423 ?_
          refine bk_top (y := iI ((i + 1 : Nat) : Int)) (congrArg iI (by omega)) ?_
          refine sg_sld hx hb hX hbl hbA hS (i + 1) (by omega) hL d_Law_law_424 ?_
          refine lv_aload_n hx hb d_Law_law_425 rfl (lv_at hl 0 rfl) ?_
          refine lv_iload_n hx hb d_Law_law_426 rfl (lv_at hl 3 rfl) ?_
          refine lv_iconst (v := iI 2) hx hb d_Law_law_427 rfl ?_
          refine bk_add hx hb d_Law_law_428 ?_
          refine bk_top (y := iI ((i + 2 : Nat) : Int)) (congrArg iI (by omega)) ?_
          refine sg_sld hx hb hX hbl hbA hS (i + 2) (by omega) hL d_Law_law_429 ?_
          have hPs : va_P D classes (Wm cI am M ++ Wb cI cO ab B) H := sg_cmP hP
          have hDs : va_D A (Wm cI am M ++ Wb cI cO ab B) := sg_cmD hD
          refine sg_fi (U := Wm cI am M) (P := Wb cI cO ab B) hPs hDs hS hA (bk_rV (rest := []) hx hb hml hown hT hK (u_BR_foundBase l D cI cO ab hR ((xs (i + 1)).toInt) ((xs (i + 2)).toInt) (iI_rg _) (iI_rg _)) (sg_P hPs) (sg_D hDs) 0 5 rfl rfl rfl tw_407 tw_408 tw_409 tw_1 tw_410 hd_BR_foundBase ⟨rfl, rfl⟩ (by decide) hl.1 rfl (ble_le rfl) d_Law_law_430 (by decide)) (fun r430 B2 H locs hqB hP hD hS => ?_)
          refine lv_aload_n hx hb d_Law_law_433 rfl (lv_at hl 2 rfl) ?_
          refine lv_aload_n hx hb d_Law_law_434 rfl (lv_at hl 0 rfl) ?_
          refine lv_iload_n hx hb d_Law_law_435 rfl (lv_at hl 3 rfl) ?_
          refine lv_iconst (v := iI 1) hx hb d_Law_law_436 rfl ?_
          refine bk_add hx hb d_Law_law_437 ?_
          refine bk_top (y := iI ((i + 1 : Nat) : Int)) (congrArg iI (by omega)) ?_
          refine sg_sld hx hb hX hbl hbA hS (i + 1) (by omega) hL d_Law_law_438 ?_
          refine lv_aload_n hx hb d_Law_law_439 rfl (lv_at hl 0 rfl) ?_
          refine lv_iload_n hx hb d_Law_law_440 rfl (lv_at hl 3 rfl) ?_
          refine lv_iconst (v := iI 2) hx hb d_Law_law_441 rfl ?_
          refine bk_add hx hb d_Law_law_442 ?_
          refine bk_top (y := iI ((i + 2 : Nat) : Int)) (congrArg iI (by omega)) ?_
          refine sg_sld hx hb hX hbl hbA hS (i + 2) (by omega) hL d_Law_law_443 ?_
          have hPs : va_P D classes (Wb cI cO ab B2 ++ Wm cI am M) H := sg_cmP hP
          have hDs : va_D A (Wb cI cO ab B2 ++ Wm cI am M) := sg_cmD hD
          refine sg_fi (U := Wb cI cO ab B2) (P := Wm cI am M) hPs hDs hS hA (bk_rV (rest := [.int (iI r430)]) hx hb hml hown hT hK (u_Mod_foundBase l D cI cO am hR ((xs (i + 1)).toInt) ((xs (i + 2)).toInt) (iI_rg _) (iI_rg _)) (sg_P hPs) (sg_D hDs) 0 6 rfl rfl rfl tw_579 tw_580 tw_581 tw_7 tw_582 hd_Mod_foundBase ⟨rfl, rfl⟩ (by decide) hl.1 rfl (ble_le rfl) d_Law_law_444 (by decide)) (fun r444 M2 H locs hqM hP hD hS => ?_)
          obtain ⟨er, hR⟩ := z_foundBase hR hqB hqM
          subst er
          refine lv_icmp_eq (tgt := 452) hx hb d_Law_law_447 (by decide) (fun _ => ?_) (fun hne => absurd rfl hne)
          exact cut452 _ _ _ _ _ hR (lv_sub hl [0, 1, 2, 3] rfl) hP hD hS
  exact cut18 _ 0 _ _ _ _ _ rfl hR (by omega) (lv_sub hl [3, 2, 1, 0] rfl) hP hD hS
