/-! new int[24][22]: its rows are the pool; over va_mna (of the kit's printed names, laid ahead of this part by gen/make.py) -/
section MNA
variable {p : Program} {l : Launch} {e : Env} {R : Room} {s : State} {m : MethodId} {args : Array Value} {below : List Frame} {meth : Method} {c : Code} {H : Heap} {locs : List Loc} {cells slots : Nat} {Q : State → Prop}
variable {cc : ByteArray} {pc : Nat} {ls : Array Slot} {rest : List Value} {D : va_G} {A : Nat → Prop} {cI cO : ClassId} {X : va_W} {H0 : Heap}
theorem mna_rows {cI : ClassId} {r : Nat → Nat} {f : Nat → va_E} : va_pl ([] ++ (List.range 24).map r) (vr_up f ((List.range 24).map r) (.inl (cI, 22, .inl (fun _ => iI 0)))) = rwP cI r (fun _ _ => 0) := by
  unfold va_pl rwP
  rw [List.nil_append, List.map_map]
  apply List.map_congr_left
  intro i hi
  show (r i, vr_up f ((List.range 24).map r) (.inl (cI, 22, .inl (fun _ => iI 0))) (r i)) = _
  rw [vr_up_in (List.mem_map.mpr ⟨i, hi, rfl⟩)]
theorem bk_mna (hx : p.tables.exec = Jvm.exec) (hb : c.code = cc) {own : String} {index : Nat} (hown : s.vm.findClass own = some m.cls) (hclink : (Cond.classLink own index "[[I").before args s = true) (hover : (Cond.arrayOver (.array .int)).before #[] s = true) (harr : (Cond.arrayClass .int).before args s = true) (hK : va_K D classes [(cI, .int), (cO, .array .int)] s) (hP : va_P D classes X H) (hD : va_D A X) (hS : va_S A H0 H locs) (hA : ∀ q, H0.size ≤ q → A q) (hcells : cells + 25 ≤ R.cells) (hslots : slots + 552 ≤ R.slots) (hdg : decode cc pc = .ok (.multianewarray index 2, 4))
    (kk : ∀ (q : Nat) (r : Nat → Nat) (H1 : Heap), va_P D classes ((X ++ [(q, aq cO 24 (rwF r))]) ++ rwP cI r (fun _ _ => 0)) H1 → va_D A ((X ++ [(q, aq cO 24 (rwF r))]) ++ rwP cI r (fun _ _ => 0)) → va_S A H0 H1 locs → W p l e R s m args below meth c H1 locs (cells + 25) (slots + 552) Q (F0 m (pc + 4) ls (.ref q :: rest))) : W p l e R s m args below meth c H locs cells slots Q (F0 m pc ls (.int (iI 22) :: .int (iI 24) :: rest)) := by
  have hP0 : va_P D classes (X ++ va_pl [] (fun _ => .inl (cI, 22, .inl (fun _ => iI 0)))) H := by
    show va_P D classes (X ++ []) H
    rw [List.append_nil]
    exact hP
  have hD0 : va_D A (X ++ va_pl [] (fun _ => .inl (cI, 22, .inl (fun _ => iI 0)))) := by
    show va_D A (X ++ [])
    rw [List.append_nil]
    exact hD
  refine va_mna (X := X) (L := []) (ty := .int) (cy := cI) (N' := 24) (K' := 22) (z := (22, .inl (fun _ => iI 0))) hx hb hown hclink hover harr (hK.2 0 _ rfl).2 hK hP0 hD0 hS hA (by decide) (by decide) (by decide) (by decide) (by decide) (by decide) (by decide) (by decide) (by decide) hcells hslots (fun c => ?_) hdg (fun q r cA H1 _ _ hK1 hP1 hD1 hS1 => ?_)
  · rw [vp_cell_i, ← iI_0]
    exact arrV_new c 22 (.int 0)
  · have e1 := (hK1.2 2 (cA, .array .int) rfl).2
    have e2 := (hK.2 1 _ rfl).2
    have e3 : cA = cO := Option.some.inj (Eq.trans (Eq.symm e1) e2)
    subst e3
    rw [mna_rows] at hP1 hD1
    exact kk q r H1 hP1 hD1 hS1
end MNA
