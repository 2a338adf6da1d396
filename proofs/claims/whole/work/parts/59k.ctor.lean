/-! ===== constructors of the parts ===== -/
set_option maxRecDepth 20000 in
theorem wobj_i : Cond.instanceMethod Lib.objectInit ∈ gU := gmU (gt1 _ (List.mem_of_getElem? (i := 30) rfl)) rfl
set_option maxRecDepth 20000 in
theorem wobj_c : Cond.code Lib.objectInit ⟨#[0xb1]⟩ 1 none ∈ gU := gmU (gt1 _ (List.mem_of_getElem? (i := 31) rfl)) rfl
set_option maxRecDepth 20000 in
theorem wm_RX7_3 : Cond.methodLink RX7 3 Lib.objectInit ∈ gU := gmU (gt1 _ (List.mem_of_getElem? (i := 37) rfl)) rfl
set_option maxRecDepth 20000 in
theorem warr_int : Cond.arrayClass .int ∈ gU := gmU (gt1 _ (List.mem_of_getElem? (i := 73) rfl)) rfl
set_option maxRecDepth 20000 in
theorem wm_RX3_3 : Cond.methodLink RX3 3 Lib.objectInit ∈ gU := gmU (gt1 _ (List.mem_of_getElem? (i := 79) rfl)) rfl
set_option maxRecDepth 20000 in
theorem wm_RX8_3 : Cond.methodLink RX8 3 Lib.objectInit ∈ gU := gmU (gt1 _ (List.mem_of_getElem? (i := 117) rfl)) rfl
set_option maxRecDepth 20000 in
theorem wm_RX0_3 : Cond.methodLink RX0 3 Lib.objectInit ∈ gU := gmU (gt1 _ (List.mem_of_getElem? (i := 190) rfl)) rfl
set_option maxRecDepth 20000 in
theorem wm_RX1_3 : Cond.methodLink RX1 3 Lib.objectInit ∈ gU := gmU (gt1 _ (List.mem_of_getElem? (i := 222) rfl)) rfl
set_option maxRecDepth 20000 in
theorem wm_RX5_7 : Cond.methodLink RX5 7 Lib.objectInit ∈ gU := gmU (gt2 _ (List.mem_of_getElem? (i := 16) rfl)) rfl
set_option maxRecDepth 20000 in
theorem wm_RX6_3 : Cond.methodLink RX6 3 Lib.objectInit ∈ gU := gmU (gt2 _ (List.mem_of_getElem? (i := 37) rfl)) rfl
set_option maxRecDepth 20000 in
theorem wm_RX2_3 : Cond.methodLink RX2 3 Lib.objectInit ∈ gU := gmU (gt2 _ (List.mem_of_getElem? (i := 66) rfl)) rfl
set_option maxRecDepth 20000 in
theorem wl_RX2_9 : Cond.classLink RX2 9 RX8 ∈ gU := gmU (gt2 _ (List.mem_of_getElem? (i := 67) rfl)) rfl
set_option maxRecDepth 20000 in
theorem wins_X8 : Cond.instantiable RX8 8 ∈ gU := gmU (gt1 _ (List.mem_of_getElem? (i := 113) rfl)) rfl
set_option maxRecDepth 20000 in
theorem winstanceMethod_yX8_init : Cond.instanceMethod yX8_init ∈ gU := gmU (gt1 _ (List.mem_of_getElem? (i := 115) rfl)) rfl
set_option maxRecDepth 20000 in
theorem wc_yX8_init : Cond.code yX8_init cX8_init 1 none ∈ gU := gmU (gt1 _ (List.mem_of_getElem? (i := 116) rfl)) rfl
theorem df_X0 (ad : Nat → Nat) : ∀ j, j < 7 → defaultValue (tyX0 j) = vp_V (([.null, .null, .int 0, .int 0, .int 0, .int 0, .int 0] : List Value).map (gv ad)) j := by
  intro j hj
  have : j ∈ List.range 7 := List.mem_range.mpr hj
  revert j
  simp only [List.mem_range]
  intro j hj _
  rcases (show j = 0 ∨ j = 1 ∨ j = 2 ∨ j = 3 ∨ j = 4 ∨ j = 5 ∨ j = 6 by omega) with rfl | rfl | rfl | rfl | rfl | rfl | rfl <;> rfl
theorem df_X1 (ad : Nat → Nat) : ∀ j, j < 8 → defaultValue (tyX1 j) = vp_V (([.null, .null, .null, .null, .int 0, .int 0, .int 0, .int 0] : List Value).map (gv ad)) j := by
  intro j hj
  have : j ∈ List.range 8 := List.mem_range.mpr hj
  revert j
  simp only [List.mem_range]
  intro j hj _
  rcases (show j = 0 ∨ j = 1 ∨ j = 2 ∨ j = 3 ∨ j = 4 ∨ j = 5 ∨ j = 6 ∨ j = 7 by omega) with rfl | rfl | rfl | rfl | rfl | rfl | rfl | rfl <;> rfl
theorem df_X2 (ad : Nat → Nat) : ∀ j, j < 4 → defaultValue (tyX2 j) = vp_V (([.null, .int 0, .int 0, .int 0] : List Value).map (gv ad)) j := by
  intro j hj
  have : j ∈ List.range 4 := List.mem_range.mpr hj
  revert j
  simp only [List.mem_range]
  intro j hj _
  rcases (show j = 0 ∨ j = 1 ∨ j = 2 ∨ j = 3 by omega) with rfl | rfl | rfl | rfl <;> rfl
theorem df_X3 (ad : Nat → Nat) : ∀ j, j < 6 → defaultValue (tyX3 j) = vp_V (([.int 0, .int 0, .null, .null, .null, .null] : List Value).map (gv ad)) j := by
  intro j hj
  have : j ∈ List.range 6 := List.mem_range.mpr hj
  revert j
  simp only [List.mem_range]
  intro j hj _
  rcases (show j = 0 ∨ j = 1 ∨ j = 2 ∨ j = 3 ∨ j = 4 ∨ j = 5 by omega) with rfl | rfl | rfl | rfl | rfl | rfl <;> rfl
theorem df_X4 (ad : Nat → Nat) : ∀ j, j < 4 → defaultValue (tyX4 j) = vp_V (([.null, .null, .null, .int 0] : List Value).map (gv ad)) j := by
  intro j hj
  have : j ∈ List.range 4 := List.mem_range.mpr hj
  revert j
  simp only [List.mem_range]
  intro j hj _
  rcases (show j = 0 ∨ j = 1 ∨ j = 2 ∨ j = 3 by omega) with rfl | rfl | rfl | rfl <;> rfl
theorem df_X5 (ad : Nat → Nat) : ∀ j, j < 4 → defaultValue (tyX5 j) = vp_V (([.null, .null, .int 0, .int 0] : List Value).map (gv ad)) j := by
  intro j hj
  have : j ∈ List.range 4 := List.mem_range.mpr hj
  revert j
  simp only [List.mem_range]
  intro j hj _
  rcases (show j = 0 ∨ j = 1 ∨ j = 2 ∨ j = 3 by omega) with rfl | rfl | rfl | rfl <;> rfl
theorem df_X6 (ad : Nat → Nat) : ∀ j, j < 6 → defaultValue (tyX6 j) = vp_V (([.null, .null, .null, .int 0, .int 0, .int 0] : List Value).map (gv ad)) j := by
  intro j hj
  have : j ∈ List.range 6 := List.mem_range.mpr hj
  revert j
  simp only [List.mem_range]
  intro j hj _
  rcases (show j = 0 ∨ j = 1 ∨ j = 2 ∨ j = 3 ∨ j = 4 ∨ j = 5 by omega) with rfl | rfl | rfl | rfl | rfl | rfl <;> rfl
theorem df_X7 (ad : Nat → Nat) : ∀ j, j < 9 → defaultValue (tyX7 j) = vp_V (([.null, .int 0, .int 0, .int 0, .int 0, .int 0, .int 0, .int 0, .int 0] : List Value).map (gv ad)) j := by
  intro j hj
  have : j ∈ List.range 9 := List.mem_range.mpr hj
  revert j
  simp only [List.mem_range]
  intro j hj _
  rcases (show j = 0 ∨ j = 1 ∨ j = 2 ∨ j = 3 ∨ j = 4 ∨ j = 5 ∨ j = 6 ∨ j = 7 ∨ j = 8 by omega) with rfl | rfl | rfl | rfl | rfl | rfl | rfl | rfl | rfl <;> rfl
theorem df_X8 (ad : Nat → Nat) : ∀ j, j < 8 → defaultValue (tyX8 j) = vp_V (([.null, .null, .null, .int 0, .int 0, .int 0, .int 0, .int 0] : List Value).map (gv ad)) j := by
  intro j hj
  have : j ∈ List.range 8 := List.mem_range.mpr hj
  revert j
  simp only [List.mem_range]
  intro j hj _
  rcases (show j = 0 ∨ j = 1 ∨ j = 2 ∨ j = 3 ∨ j = 4 ∨ j = 5 ∨ j = 6 ∨ j = 7 by omega) with rfl | rfl | rfl | rfl | rfl | rfl | rfl | rfl <;> rfl
theorem df_X9 (ad : Nat → Nat) : ∀ j, j < 16 → defaultValue (tyX9 j) = vp_V (([.null, .null, .null, .null, .null, .null, .null, .null, .null, .null, .null, .null, .null, .int 0, .int 0, .int 0] : List Value).map (gv ad)) j := by
  intro j hj
  have : j ∈ List.range 16 := List.mem_range.mpr hj
  revert j
  simp only [List.mem_range]
  intro j hj _
  rcases (show j = 0 ∨ j = 1 ∨ j = 2 ∨ j = 3 ∨ j = 4 ∨ j = 5 ∨ j = 6 ∨ j = 7 ∨ j = 8 ∨ j = 9 ∨ j = 10 ∨ j = 11 ∨ j = 12 ∨ j = 13 ∨ j = 14 ∨ j = 15 by omega) with rfl | rfl | rfl | rfl | rfl | rfl | rfl | rfl | rfl | rfl | rfl | rfl | rfl | rfl | rfl | rfl <;> rfl
theorem df_X10 (ad : Nat → Nat) : ∀ j, j < 54 → defaultValue (tyX10 j) = vp_V (([.int 0, .null, .int 0, .int 0, .int 0, .int 0, .int 0, .int 0, .int 0, .null, .null, .null, .null, .null, .null, .null, .int 0, .int 0, .int 0, .int 0, .int 0, .null, .null, .null, .null, .null, .int 0, .int 0, .null, .null, .null, .int 0, .int 0, .int 0, .int 0, .int 0, .int 0, .null, .null, .null, .null, .null, .null, .int 0, .null, .null, .null, .null, .null, .int 0, .int 0, .int 0, .null, .int 0] : List Value).map (gv ad)) j := by
  intro j hj
  have : j ∈ List.range 54 := List.mem_range.mpr hj
  revert j
  simp only [List.mem_range]
  intro j hj _
  rcases (show j = 0 ∨ j = 1 ∨ j = 2 ∨ j = 3 ∨ j = 4 ∨ j = 5 ∨ j = 6 ∨ j = 7 ∨ j = 8 ∨ j = 9 ∨ j = 10 ∨ j = 11 ∨ j = 12 ∨ j = 13 ∨ j = 14 ∨ j = 15 ∨ j = 16 ∨ j = 17 ∨ j = 18 ∨ j = 19 ∨ j = 20 ∨ j = 21 ∨ j = 22 ∨ j = 23 ∨ j = 24 ∨ j = 25 ∨ j = 26 ∨ j = 27 ∨ j = 28 ∨ j = 29 ∨ j = 30 ∨ j = 31 ∨ j = 32 ∨ j = 33 ∨ j = 34 ∨ j = 35 ∨ j = 36 ∨ j = 37 ∨ j = 38 ∨ j = 39 ∨ j = 40 ∨ j = 41 ∨ j = 42 ∨ j = 43 ∨ j = 44 ∨ j = 45 ∨ j = 46 ∨ j = 47 ∨ j = 48 ∨ j = 49 ∨ j = 50 ∨ j = 51 ∨ j = 52 ∨ j = 53 by omega) with rfl | rfl | rfl | rfl | rfl | rfl | rfl | rfl | rfl | rfl | rfl | rfl | rfl | rfl | rfl | rfl | rfl | rfl | rfl | rfl | rfl | rfl | rfl | rfl | rfl | rfl | rfl | rfl | rfl | rfl | rfl | rfl | rfl | rfl | rfl | rfl | rfl | rfl | rfl | rfl | rfl | rfl | rfl | rfl | rfl | rfl | rfl | rfl | rfl | rfl | rfl | rfl | rfl | rfl <;> rfl
set_option maxRecDepth 100000 in
set_option maxHeartbeats 4000000 in
theorem ct_X7 {EX : gEX} (hX : gExOk EX) (l : Launch) (cs0 : List va_E) (h82 : cs0.length + 2 ≤ 82) : gCt EX l yX7_init cX7_init { frames := 3, cells := 1, slots := 600, locals := 100 } 1 600 cs0 (.inr (7, [.null, .int 0, .int 0, .int 0, .int 0, .int 0, .int 0, .int 0, .int 0])) ([.inr (7, [.ref (cs0.length + 1), .int 0, .int 0, .int 0, .int 0, .int 0, .int 0, .int 0, .int (-1)]), .inl (0, (600, .inl (fun _ => 0)))] : List va_E) := by
  intro D cA ad b0 had
  refine Met.ofW (cc := cX7_init) (maxL := 1) (ret := none) (by decide +kernel) rfl ?_
  intro p e s m args below meth c s₁ B hml hv
  obtain ⟨rfl, hsz, hP, hK, hD0, hEX, hNe⟩ := hv
  have hx := B.exec
  have hb := B.bytes
  have hr := B.returns
  have hts0 := atoms_spec (ws := Cond.code yX7_init cX7_init 1 none :: gU) B.pre
  have hts : ∀ w ∈ gU, w.before _ s = true := fun w hw => hts0 w (List.mem_cons_of_mem _ hw)
  have hown : s.vm.findClass RX7 = some m.cls := findClass_of_methodNamed B.named
  have hlocks := B.notSynchronized
  have hin : meth.name = "<init>" := (name_of_methodNamed B.named B.method).1
  have hD := hD0.self (sz := b0 + (cs0 ++ ([.inr (7, [.null, .int 0, .int 0, .int 0, .int 0, .int 0, .int 0, .int 0, .int 0])] : List va_E)).length)
  generalize hAe : va_A (gwl ad cA (cs0 ++ ([.inr (7, [.null, .int 0, .int 0, .int 0, .int 0, .int 0, .int 0, .int 0, .int 0])] : List va_E))) (b0 + (cs0 ++ ([.inr (7, [.null, .int 0, .int 0, .int 0, .int 0, .int 0, .int 0, .int 0, .int 0])] : List va_E)).length) = A at hD hEX ⊢
  have hA : ∀ q : Nat, s.heap.size ≤ q → A q := fun q h => by rw [← hAe]; exact Or.inr (by rw [← hsz]; exact h)
  have hnm0 : s.vm.findClass ("[" ++ FieldType.int.toString) = some (cA 0) := (hK.2 0 _ rfl).2
  have hR0 : gRelL D gCl cA ad b0 A s.heap (cs0 ++ ([.inr (7, [.null, .int 0, .int 0, .int 0, .int 0, .int 0, .int 0, .int 0, .int 0])] : List va_E)) s.heap [] := ⟨hP, hD, va_S.rf, hsz⟩
  have hl := lv_entry ([.ref (ad cs0.length)]) (n := 1) (Nat.le_of_ble_eq_true rfl)
  rw [lg_entry_eq]
  generalize (lg_sl ([.ref (ad cs0.length)]) ++ List.replicate (1 - (lg_sl ([.ref (ad cs0.length)])).length) Slot.unset).toArray = ls at hl ⊢
  have hl : lv_has ls 1 [(0, .ref (ad cs0.length))] := hl
  refine lv_aload_n hx hb (by decide +kernel : decode cX7_init 0 = .ok (.aload_n 0, 1)) rfl (lv_at hl 0 rfl) ?_
  refine W.objInit hx hb hown (hts _ wm_RX7_3) (hts _ wobj_i) (hts _ wobj_c) rfl (by rw [hml]; exact hl.1) rfl (by decide +kernel : decode cX7_init 1 = .ok (.invokespecial 3, 3)) (Nat.le_of_ble_eq_true rfl) (Nat.le_of_ble_eq_true rfl) ?_
  refine W.eq (g2 := F0 m 4 ls []) rfl ?_
  refine lv_aload_n hx hb (by decide +kernel : decode cX7_init 4 = .ok (.aload_n 0, 1)) rfl (lv_at hl 0 rfl) ?_
  refine lv_sipush (v := 600) hx hb (by decide +kernel : decode cX7_init 5 = .ok (.sipush 600, 3)) (by decide) ?_
  refine gn_newa (ty := .int) (t := 0) (k := 1) (N := 600) (a0 := (600, .inl (fun _ => 0))) hx hb rfl (hts _ warr_int) hnm0 hA hR0 rfl (had _ (by omega)) (fun _ => rfl) rfl (by decide) (by decide) (by decide) (Nat.le_of_ble_eq_true rfl) (Nat.le_of_ble_eq_true rfl) (by decide +kernel : decode cX7_init 8 = .ok (.newarray .int, 2)) (fun H1 hR1 => ?_)
  refine gn_put (C := RX7) (T := TX7) (N := 9) (ci := 7) (v := .ref (cs0.length + 1)) hx hb hts inU_X7 tyX7 tyX7_ok nmX7 hown hK hR1 0 rfl rfl 0 (by decide) rfl (hts _ wf_RX7_9) hin (tyX7_ok 0 (by decide)) rfl rfl (Nat.le_of_ble_eq_true rfl) rfl rfl rfl (by decide +kernel : decode cX7_init 10 = .ok (.putfield 9, 3)) (fun H2 L2 hR2 => ?_)
  refine lv_aload_n hx hb (by decide +kernel : decode cX7_init 13 = .ok (.aload_n 0, 1)) rfl (lv_at hl 0 rfl) ?_
  refine lv_iconst (v := (-1)) hx hb (by decide +kernel : decode cX7_init 14 = .ok (.iconst (-1), 1)) (by decide) ?_
  refine gn_put (C := RX7) (T := TX7) (N := 9) (ci := 7) (v := .int (-1)) hx hb hts inU_X7 tyX7 tyX7_ok nmX7 hown hK hR2 0 rfl rfl 8 (by decide) rfl (hts _ wf_RX7_15) hin (tyX7_ok 8 (by decide)) rfl rfl (Nat.le_of_ble_eq_true rfl) rfl rfl rfl (by decide +kernel : decode cX7_init 15 = .ok (.putfield 15, 3)) (fun H3 L3 hR3 => ?_)
  exact W.vret hx hb hr (fun t ht hW => ⟨rfl, ⟨by rw [ht]; exact hR3.1, hR3.2.1⟩, hR3.2.2.1.F ht, by rw [ht]; exact hR3.2.2.2⟩) hR3.2.2.1.2.2 (by decide +kernel : decode cX7_init 18 = .ok (.return_, 1))
set_option maxRecDepth 100000 in
set_option maxHeartbeats 4000000 in
theorem ct_X3 {EX : gEX} (hX : gExOk EX) (l : Launch) (cs0 : List va_E) (h82 : cs0.length + 5 ≤ 82) : gCt EX l yX3_init cX3_init { frames := 3, cells := 4, slots := 40, locals := 100 } 4 40 cs0 (.inr (3, [.int 0, .int 0, .null, .null, .null, .null])) ([.inr (3, [.int 0, .int 0, .ref (cs0.length + 1), .ref (cs0.length + 2), .ref (cs0.length + 3), .ref (cs0.length + 4)]), .inl (0, (8, .inl (fun _ => 0))), .inl (0, (8, .inl (fun _ => 0))), .inl (0, (12, .inl (fun _ => 0))), .inl (0, (12, .inl (fun _ => 0)))] : List va_E) := by
  intro D cA ad b0 had
  refine Met.ofW (cc := cX3_init) (maxL := 1) (ret := none) (by decide +kernel) rfl ?_
  intro p e s m args below meth c s₁ B hml hv
  obtain ⟨rfl, hsz, hP, hK, hD0, hEX, hNe⟩ := hv
  have hx := B.exec
  have hb := B.bytes
  have hr := B.returns
  have hts0 := atoms_spec (ws := Cond.code yX3_init cX3_init 1 none :: gU) B.pre
  have hts : ∀ w ∈ gU, w.before _ s = true := fun w hw => hts0 w (List.mem_cons_of_mem _ hw)
  have hown : s.vm.findClass RX3 = some m.cls := findClass_of_methodNamed B.named
  have hlocks := B.notSynchronized
  have hin : meth.name = "<init>" := (name_of_methodNamed B.named B.method).1
  have hD := hD0.self (sz := b0 + (cs0 ++ ([.inr (3, [.int 0, .int 0, .null, .null, .null, .null])] : List va_E)).length)
  generalize hAe : va_A (gwl ad cA (cs0 ++ ([.inr (3, [.int 0, .int 0, .null, .null, .null, .null])] : List va_E))) (b0 + (cs0 ++ ([.inr (3, [.int 0, .int 0, .null, .null, .null, .null])] : List va_E)).length) = A at hD hEX ⊢
  have hA : ∀ q : Nat, s.heap.size ≤ q → A q := fun q h => by rw [← hAe]; exact Or.inr (by rw [← hsz]; exact h)
  have hnm0 : s.vm.findClass ("[" ++ FieldType.int.toString) = some (cA 0) := (hK.2 0 _ rfl).2
  have hR0 : gRelL D gCl cA ad b0 A s.heap (cs0 ++ ([.inr (3, [.int 0, .int 0, .null, .null, .null, .null])] : List va_E)) s.heap [] := ⟨hP, hD, va_S.rf, hsz⟩
  have hl := lv_entry ([.ref (ad cs0.length)]) (n := 1) (Nat.le_of_ble_eq_true rfl)
  rw [lg_entry_eq]
  generalize (lg_sl ([.ref (ad cs0.length)]) ++ List.replicate (1 - (lg_sl ([.ref (ad cs0.length)])).length) Slot.unset).toArray = ls at hl ⊢
  have hl : lv_has ls 1 [(0, .ref (ad cs0.length))] := hl
  refine lv_aload_n hx hb (by decide +kernel : decode cX3_init 0 = .ok (.aload_n 0, 1)) rfl (lv_at hl 0 rfl) ?_
  refine W.objInit hx hb hown (hts _ wm_RX3_3) (hts _ wobj_i) (hts _ wobj_c) rfl (by rw [hml]; exact hl.1) rfl (by decide +kernel : decode cX3_init 1 = .ok (.invokespecial 3, 3)) (Nat.le_of_ble_eq_true rfl) (Nat.le_of_ble_eq_true rfl) ?_
  refine W.eq (g2 := F0 m 4 ls []) rfl ?_
  refine lv_aload_n hx hb (by decide +kernel : decode cX3_init 4 = .ok (.aload_n 0, 1)) rfl (lv_at hl 0 rfl) ?_
  refine lv_bipush (v := 8) hx hb (by decide +kernel : decode cX3_init 5 = .ok (.bipush 8, 2)) (by decide) ?_
  refine gn_newa (ty := .int) (t := 0) (k := 1) (N := 8) (a0 := (8, .inl (fun _ => 0))) hx hb rfl (hts _ warr_int) hnm0 hA hR0 rfl (had _ (by omega)) (fun _ => rfl) rfl (by decide) (by decide) (by decide) (Nat.le_of_ble_eq_true rfl) (Nat.le_of_ble_eq_true rfl) (by decide +kernel : decode cX3_init 7 = .ok (.newarray .int, 2)) (fun H1 hR1 => ?_)
  refine gn_put (C := RX3) (T := TX3) (N := 6) (ci := 3) (v := .ref (cs0.length + 1)) hx hb hts inU_X3 tyX3 tyX3_ok nmX3 hown hK hR1 0 rfl rfl 2 (by decide) rfl (hts _ wf_RX3_9) hin (tyX3_ok 2 (by decide)) rfl rfl (Nat.le_of_ble_eq_true rfl) rfl rfl rfl (by decide +kernel : decode cX3_init 9 = .ok (.putfield 9, 3)) (fun H2 L2 hR2 => ?_)
  refine lv_aload_n hx hb (by decide +kernel : decode cX3_init 12 = .ok (.aload_n 0, 1)) rfl (lv_at hl 0 rfl) ?_
  refine lv_bipush (v := 8) hx hb (by decide +kernel : decode cX3_init 13 = .ok (.bipush 8, 2)) (by decide) ?_
  refine gn_newa (ty := .int) (t := 0) (k := 2) (N := 8) (a0 := (8, .inl (fun _ => 0))) hx hb rfl (hts _ warr_int) hnm0 hA hR2 rfl (had _ (by omega)) (fun _ => rfl) rfl (by decide) (by decide) (by decide) (Nat.le_of_ble_eq_true rfl) (Nat.le_of_ble_eq_true rfl) (by decide +kernel : decode cX3_init 15 = .ok (.newarray .int, 2)) (fun H3 hR3 => ?_)
  refine gn_put (C := RX3) (T := TX3) (N := 6) (ci := 3) (v := .ref (cs0.length + 2)) hx hb hts inU_X3 tyX3 tyX3_ok nmX3 hown hK hR3 0 rfl rfl 3 (by decide) rfl (hts _ wf_RX3_15) hin (tyX3_ok 3 (by decide)) rfl rfl (Nat.le_of_ble_eq_true rfl) rfl rfl rfl (by decide +kernel : decode cX3_init 17 = .ok (.putfield 15, 3)) (fun H4 L4 hR4 => ?_)
  refine lv_aload_n hx hb (by decide +kernel : decode cX3_init 20 = .ok (.aload_n 0, 1)) rfl (lv_at hl 0 rfl) ?_
  refine lv_bipush (v := 12) hx hb (by decide +kernel : decode cX3_init 21 = .ok (.bipush 12, 2)) (by decide) ?_
  refine gn_newa (ty := .int) (t := 0) (k := 3) (N := 12) (a0 := (12, .inl (fun _ => 0))) hx hb rfl (hts _ warr_int) hnm0 hA hR4 rfl (had _ (by omega)) (fun _ => rfl) rfl (by decide) (by decide) (by decide) (Nat.le_of_ble_eq_true rfl) (Nat.le_of_ble_eq_true rfl) (by decide +kernel : decode cX3_init 23 = .ok (.newarray .int, 2)) (fun H5 hR5 => ?_)
  refine gn_put (C := RX3) (T := TX3) (N := 6) (ci := 3) (v := .ref (cs0.length + 3)) hx hb hts inU_X3 tyX3 tyX3_ok nmX3 hown hK hR5 0 rfl rfl 4 (by decide) rfl (hts _ wf_RX3_18) hin (tyX3_ok 4 (by decide)) rfl rfl (Nat.le_of_ble_eq_true rfl) rfl rfl rfl (by decide +kernel : decode cX3_init 25 = .ok (.putfield 18, 3)) (fun H6 L6 hR6 => ?_)
  refine lv_aload_n hx hb (by decide +kernel : decode cX3_init 28 = .ok (.aload_n 0, 1)) rfl (lv_at hl 0 rfl) ?_
  refine lv_bipush (v := 12) hx hb (by decide +kernel : decode cX3_init 29 = .ok (.bipush 12, 2)) (by decide) ?_
  refine gn_newa (ty := .int) (t := 0) (k := 4) (N := 12) (a0 := (12, .inl (fun _ => 0))) hx hb rfl (hts _ warr_int) hnm0 hA hR6 rfl (had _ (by omega)) (fun _ => rfl) rfl (by decide) (by decide) (by decide) (Nat.le_of_ble_eq_true rfl) (Nat.le_of_ble_eq_true rfl) (by decide +kernel : decode cX3_init 31 = .ok (.newarray .int, 2)) (fun H7 hR7 => ?_)
  refine gn_put (C := RX3) (T := TX3) (N := 6) (ci := 3) (v := .ref (cs0.length + 4)) hx hb hts inU_X3 tyX3 tyX3_ok nmX3 hown hK hR7 0 rfl rfl 5 (by decide) rfl (hts _ wf_RX3_21) hin (tyX3_ok 5 (by decide)) rfl rfl (Nat.le_of_ble_eq_true rfl) rfl rfl rfl (by decide +kernel : decode cX3_init 33 = .ok (.putfield 21, 3)) (fun H8 L8 hR8 => ?_)
  exact W.vret hx hb hr (fun t ht hW => ⟨rfl, ⟨by rw [ht]; exact hR8.1, hR8.2.1⟩, hR8.2.2.1.F ht, by rw [ht]; exact hR8.2.2.2⟩) hR8.2.2.1.2.2 (by decide +kernel : decode cX3_init 36 = .ok (.return_, 1))
set_option maxRecDepth 100000 in
set_option maxHeartbeats 4000000 in
theorem ct_X8 {EX : gEX} (hX : gExOk EX) (l : Launch) (cs0 : List va_E) (h82 : cs0.length + 4 ≤ 82) : gCt EX l yX8_init cX8_init { frames := 3, cells := 3, slots := 24, locals := 100 } 3 24 cs0 (.inr (8, [.null, .null, .null, .int 0, .int 0, .int 0, .int 0, .int 0])) ([.inr (8, [.ref (cs0.length + 1), .ref (cs0.length + 2), .ref (cs0.length + 3), .int 0, .int 1, .int 0, .int 1, .int 0]), .inl (0, (8, .inl (fun _ => 0))), .inl (0, (8, .inl (fun _ => 0))), .inl (0, (8, .inl (fun _ => 0)))] : List va_E) := by
  intro D cA ad b0 had
  refine Met.ofW (cc := cX8_init) (maxL := 1) (ret := none) (by decide +kernel) rfl ?_
  intro p e s m args below meth c s₁ B hml hv
  obtain ⟨rfl, hsz, hP, hK, hD0, hEX, hNe⟩ := hv
  have hx := B.exec
  have hb := B.bytes
  have hr := B.returns
  have hts0 := atoms_spec (ws := Cond.code yX8_init cX8_init 1 none :: gU) B.pre
  have hts : ∀ w ∈ gU, w.before _ s = true := fun w hw => hts0 w (List.mem_cons_of_mem _ hw)
  have hown : s.vm.findClass RX8 = some m.cls := findClass_of_methodNamed B.named
  have hlocks := B.notSynchronized
  have hin : meth.name = "<init>" := (name_of_methodNamed B.named B.method).1
  have hD := hD0.self (sz := b0 + (cs0 ++ ([.inr (8, [.null, .null, .null, .int 0, .int 0, .int 0, .int 0, .int 0])] : List va_E)).length)
  generalize hAe : va_A (gwl ad cA (cs0 ++ ([.inr (8, [.null, .null, .null, .int 0, .int 0, .int 0, .int 0, .int 0])] : List va_E))) (b0 + (cs0 ++ ([.inr (8, [.null, .null, .null, .int 0, .int 0, .int 0, .int 0, .int 0])] : List va_E)).length) = A at hD hEX ⊢
  have hA : ∀ q : Nat, s.heap.size ≤ q → A q := fun q h => by rw [← hAe]; exact Or.inr (by rw [← hsz]; exact h)
  have hnm0 : s.vm.findClass ("[" ++ FieldType.int.toString) = some (cA 0) := (hK.2 0 _ rfl).2
  have hR0 : gRelL D gCl cA ad b0 A s.heap (cs0 ++ ([.inr (8, [.null, .null, .null, .int 0, .int 0, .int 0, .int 0, .int 0])] : List va_E)) s.heap [] := ⟨hP, hD, va_S.rf, hsz⟩
  have hl := lv_entry ([.ref (ad cs0.length)]) (n := 1) (Nat.le_of_ble_eq_true rfl)
  rw [lg_entry_eq]
  generalize (lg_sl ([.ref (ad cs0.length)]) ++ List.replicate (1 - (lg_sl ([.ref (ad cs0.length)])).length) Slot.unset).toArray = ls at hl ⊢
  have hl : lv_has ls 1 [(0, .ref (ad cs0.length))] := hl
  refine lv_aload_n hx hb (by decide +kernel : decode cX8_init 0 = .ok (.aload_n 0, 1)) rfl (lv_at hl 0 rfl) ?_
  refine W.objInit hx hb hown (hts _ wm_RX8_3) (hts _ wobj_i) (hts _ wobj_c) rfl (by rw [hml]; exact hl.1) rfl (by decide +kernel : decode cX8_init 1 = .ok (.invokespecial 3, 3)) (Nat.le_of_ble_eq_true rfl) (Nat.le_of_ble_eq_true rfl) ?_
  refine W.eq (g2 := F0 m 4 ls []) rfl ?_
  refine lv_aload_n hx hb (by decide +kernel : decode cX8_init 4 = .ok (.aload_n 0, 1)) rfl (lv_at hl 0 rfl) ?_
  refine lv_bipush (v := 8) hx hb (by decide +kernel : decode cX8_init 5 = .ok (.bipush 8, 2)) (by decide) ?_
  refine gn_newa (ty := .int) (t := 0) (k := 1) (N := 8) (a0 := (8, .inl (fun _ => 0))) hx hb rfl (hts _ warr_int) hnm0 hA hR0 rfl (had _ (by omega)) (fun _ => rfl) rfl (by decide) (by decide) (by decide) (Nat.le_of_ble_eq_true rfl) (Nat.le_of_ble_eq_true rfl) (by decide +kernel : decode cX8_init 7 = .ok (.newarray .int, 2)) (fun H1 hR1 => ?_)
  refine gn_put (C := RX8) (T := TX8) (N := 8) (ci := 8) (v := .ref (cs0.length + 1)) hx hb hts inU_X8 tyX8 tyX8_ok nmX8 hown hK hR1 0 rfl rfl 0 (by decide) rfl (hts _ wf_RX8_9) hin (tyX8_ok 0 (by decide)) rfl rfl (Nat.le_of_ble_eq_true rfl) rfl rfl rfl (by decide +kernel : decode cX8_init 9 = .ok (.putfield 9, 3)) (fun H2 L2 hR2 => ?_)
  refine lv_aload_n hx hb (by decide +kernel : decode cX8_init 12 = .ok (.aload_n 0, 1)) rfl (lv_at hl 0 rfl) ?_
  refine lv_bipush (v := 8) hx hb (by decide +kernel : decode cX8_init 13 = .ok (.bipush 8, 2)) (by decide) ?_
  refine gn_newa (ty := .int) (t := 0) (k := 2) (N := 8) (a0 := (8, .inl (fun _ => 0))) hx hb rfl (hts _ warr_int) hnm0 hA hR2 rfl (had _ (by omega)) (fun _ => rfl) rfl (by decide) (by decide) (by decide) (Nat.le_of_ble_eq_true rfl) (Nat.le_of_ble_eq_true rfl) (by decide +kernel : decode cX8_init 15 = .ok (.newarray .int, 2)) (fun H3 hR3 => ?_)
  refine gn_put (C := RX8) (T := TX8) (N := 8) (ci := 8) (v := .ref (cs0.length + 2)) hx hb hts inU_X8 tyX8 tyX8_ok nmX8 hown hK hR3 0 rfl rfl 1 (by decide) rfl (hts _ wf_RX8_15) hin (tyX8_ok 1 (by decide)) rfl rfl (Nat.le_of_ble_eq_true rfl) rfl rfl rfl (by decide +kernel : decode cX8_init 17 = .ok (.putfield 15, 3)) (fun H4 L4 hR4 => ?_)
  refine lv_aload_n hx hb (by decide +kernel : decode cX8_init 20 = .ok (.aload_n 0, 1)) rfl (lv_at hl 0 rfl) ?_
  refine lv_bipush (v := 8) hx hb (by decide +kernel : decode cX8_init 21 = .ok (.bipush 8, 2)) (by decide) ?_
  refine gn_newa (ty := .int) (t := 0) (k := 3) (N := 8) (a0 := (8, .inl (fun _ => 0))) hx hb rfl (hts _ warr_int) hnm0 hA hR4 rfl (had _ (by omega)) (fun _ => rfl) rfl (by decide) (by decide) (by decide) (Nat.le_of_ble_eq_true rfl) (Nat.le_of_ble_eq_true rfl) (by decide +kernel : decode cX8_init 23 = .ok (.newarray .int, 2)) (fun H5 hR5 => ?_)
  refine gn_put (C := RX8) (T := TX8) (N := 8) (ci := 8) (v := .ref (cs0.length + 3)) hx hb hts inU_X8 tyX8 tyX8_ok nmX8 hown hK hR5 0 rfl rfl 2 (by decide) rfl (hts _ wf_RX8_18) hin (tyX8_ok 2 (by decide)) rfl rfl (Nat.le_of_ble_eq_true rfl) rfl rfl rfl (by decide +kernel : decode cX8_init 25 = .ok (.putfield 18, 3)) (fun H6 L6 hR6 => ?_)
  refine lv_aload_n hx hb (by decide +kernel : decode cX8_init 28 = .ok (.aload_n 0, 1)) rfl (lv_at hl 0 rfl) ?_
  refine lv_iconst (v := 1) hx hb (by decide +kernel : decode cX8_init 29 = .ok (.iconst 1, 1)) (by decide) ?_
  refine gn_put (C := RX8) (T := TX8) (N := 8) (ci := 8) (v := .int 1) hx hb hts inU_X8 tyX8 tyX8_ok nmX8 hown hK hR6 0 rfl rfl 4 (by decide) rfl (hts _ wf_RX8_21) hin (tyX8_ok 4 (by decide)) rfl rfl (Nat.le_of_ble_eq_true rfl) rfl rfl rfl (by decide +kernel : decode cX8_init 30 = .ok (.putfield 21, 3)) (fun H7 L7 hR7 => ?_)
  refine lv_aload_n hx hb (by decide +kernel : decode cX8_init 33 = .ok (.aload_n 0, 1)) rfl (lv_at hl 0 rfl) ?_
  refine lv_iconst (v := 1) hx hb (by decide +kernel : decode cX8_init 34 = .ok (.iconst 1, 1)) (by decide) ?_
  refine gn_put (C := RX8) (T := TX8) (N := 8) (ci := 8) (v := .int 1) hx hb hts inU_X8 tyX8 tyX8_ok nmX8 hown hK hR7 0 rfl rfl 6 (by decide) rfl (hts _ wf_RX8_25) hin (tyX8_ok 6 (by decide)) rfl rfl (Nat.le_of_ble_eq_true rfl) rfl rfl rfl (by decide +kernel : decode cX8_init 35 = .ok (.putfield 25, 3)) (fun H8 L8 hR8 => ?_)
  exact W.vret hx hb hr (fun t ht hW => ⟨rfl, ⟨by rw [ht]; exact hR8.1, hR8.2.1⟩, hR8.2.2.1.F ht, by rw [ht]; exact hR8.2.2.2⟩) hR8.2.2.1.2.2 (by decide +kernel : decode cX8_init 38 = .ok (.return_, 1))
set_option maxRecDepth 100000 in
set_option maxHeartbeats 4000000 in
theorem ct_X0 {EX : gEX} (hX : gExOk EX) (l : Launch) (cs0 : List va_E) (h82 : cs0.length + 3 ≤ 82) : gCt EX l yX0_init cX0_init { frames := 3, cells := 2, slots := 32, locals := 100 } 2 32 cs0 (.inr (0, [.null, .null, .int 0, .int 0, .int 0, .int 0, .int 0])) ([.inr (0, [.ref (cs0.length + 1), .ref (cs0.length + 2), .int 0, .int 0, .int 0, .int 0, .int 0]), .inl (0, (8, .inl (fun _ => 0))), .inl (0, (24, .inl (fun _ => 0)))] : List va_E) := by
  intro D cA ad b0 had
  refine Met.ofW (cc := cX0_init) (maxL := 1) (ret := none) (by decide +kernel) rfl ?_
  intro p e s m args below meth c s₁ B hml hv
  obtain ⟨rfl, hsz, hP, hK, hD0, hEX, hNe⟩ := hv
  have hx := B.exec
  have hb := B.bytes
  have hr := B.returns
  have hts0 := atoms_spec (ws := Cond.code yX0_init cX0_init 1 none :: gU) B.pre
  have hts : ∀ w ∈ gU, w.before _ s = true := fun w hw => hts0 w (List.mem_cons_of_mem _ hw)
  have hown : s.vm.findClass RX0 = some m.cls := findClass_of_methodNamed B.named
  have hlocks := B.notSynchronized
  have hin : meth.name = "<init>" := (name_of_methodNamed B.named B.method).1
  have hD := hD0.self (sz := b0 + (cs0 ++ ([.inr (0, [.null, .null, .int 0, .int 0, .int 0, .int 0, .int 0])] : List va_E)).length)
  generalize hAe : va_A (gwl ad cA (cs0 ++ ([.inr (0, [.null, .null, .int 0, .int 0, .int 0, .int 0, .int 0])] : List va_E))) (b0 + (cs0 ++ ([.inr (0, [.null, .null, .int 0, .int 0, .int 0, .int 0, .int 0])] : List va_E)).length) = A at hD hEX ⊢
  have hA : ∀ q : Nat, s.heap.size ≤ q → A q := fun q h => by rw [← hAe]; exact Or.inr (by rw [← hsz]; exact h)
  have hnm0 : s.vm.findClass ("[" ++ FieldType.int.toString) = some (cA 0) := (hK.2 0 _ rfl).2
  have hR0 : gRelL D gCl cA ad b0 A s.heap (cs0 ++ ([.inr (0, [.null, .null, .int 0, .int 0, .int 0, .int 0, .int 0])] : List va_E)) s.heap [] := ⟨hP, hD, va_S.rf, hsz⟩
  have hl := lv_entry ([.ref (ad cs0.length)]) (n := 1) (Nat.le_of_ble_eq_true rfl)
  rw [lg_entry_eq]
  generalize (lg_sl ([.ref (ad cs0.length)]) ++ List.replicate (1 - (lg_sl ([.ref (ad cs0.length)])).length) Slot.unset).toArray = ls at hl ⊢
  have hl : lv_has ls 1 [(0, .ref (ad cs0.length))] := hl
  refine lv_aload_n hx hb (by decide +kernel : decode cX0_init 0 = .ok (.aload_n 0, 1)) rfl (lv_at hl 0 rfl) ?_
  refine W.objInit hx hb hown (hts _ wm_RX0_3) (hts _ wobj_i) (hts _ wobj_c) rfl (by rw [hml]; exact hl.1) rfl (by decide +kernel : decode cX0_init 1 = .ok (.invokespecial 3, 3)) (Nat.le_of_ble_eq_true rfl) (Nat.le_of_ble_eq_true rfl) ?_
  refine W.eq (g2 := F0 m 4 ls []) rfl ?_
  refine lv_aload_n hx hb (by decide +kernel : decode cX0_init 4 = .ok (.aload_n 0, 1)) rfl (lv_at hl 0 rfl) ?_
  refine lv_bipush (v := 8) hx hb (by decide +kernel : decode cX0_init 5 = .ok (.bipush 8, 2)) (by decide) ?_
  refine gn_newa (ty := .int) (t := 0) (k := 1) (N := 8) (a0 := (8, .inl (fun _ => 0))) hx hb rfl (hts _ warr_int) hnm0 hA hR0 rfl (had _ (by omega)) (fun _ => rfl) rfl (by decide) (by decide) (by decide) (Nat.le_of_ble_eq_true rfl) (Nat.le_of_ble_eq_true rfl) (by decide +kernel : decode cX0_init 7 = .ok (.newarray .int, 2)) (fun H1 hR1 => ?_)
  refine gn_put (C := RX0) (T := TX0) (N := 7) (ci := 0) (v := .ref (cs0.length + 1)) hx hb hts inU_X0 tyX0 tyX0_ok nmX0 hown hK hR1 0 rfl rfl 0 (by decide) rfl (hts _ wf_RX0_9) hin (tyX0_ok 0 (by decide)) rfl rfl (Nat.le_of_ble_eq_true rfl) rfl rfl rfl (by decide +kernel : decode cX0_init 9 = .ok (.putfield 9, 3)) (fun H2 L2 hR2 => ?_)
  refine lv_aload_n hx hb (by decide +kernel : decode cX0_init 12 = .ok (.aload_n 0, 1)) rfl (lv_at hl 0 rfl) ?_
  refine lv_bipush (v := 24) hx hb (by decide +kernel : decode cX0_init 13 = .ok (.bipush 24, 2)) (by decide) ?_
  refine gn_newa (ty := .int) (t := 0) (k := 2) (N := 24) (a0 := (24, .inl (fun _ => 0))) hx hb rfl (hts _ warr_int) hnm0 hA hR2 rfl (had _ (by omega)) (fun _ => rfl) rfl (by decide) (by decide) (by decide) (Nat.le_of_ble_eq_true rfl) (Nat.le_of_ble_eq_true rfl) (by decide +kernel : decode cX0_init 15 = .ok (.newarray .int, 2)) (fun H3 hR3 => ?_)
  refine gn_put (C := RX0) (T := TX0) (N := 7) (ci := 0) (v := .ref (cs0.length + 2)) hx hb hts inU_X0 tyX0 tyX0_ok nmX0 hown hK hR3 0 rfl rfl 1 (by decide) rfl (hts _ wf_RX0_15) hin (tyX0_ok 1 (by decide)) rfl rfl (Nat.le_of_ble_eq_true rfl) rfl rfl rfl (by decide +kernel : decode cX0_init 17 = .ok (.putfield 15, 3)) (fun H4 L4 hR4 => ?_)
  exact W.vret hx hb hr (fun t ht hW => ⟨rfl, ⟨by rw [ht]; exact hR4.1, hR4.2.1⟩, hR4.2.2.1.F ht, by rw [ht]; exact hR4.2.2.2⟩) hR4.2.2.1.2.2 (by decide +kernel : decode cX0_init 20 = .ok (.return_, 1))
set_option maxRecDepth 100000 in
set_option maxHeartbeats 4000000 in
theorem ct_X1 {EX : gEX} (hX : gExOk EX) (l : Launch) (cs0 : List va_E) (h82 : cs0.length + 5 ≤ 82) : gCt EX l yX1_init cX1_init { frames := 3, cells := 4, slots := 152, locals := 100 } 4 152 cs0 (.inr (1, [.null, .null, .null, .null, .int 0, .int 0, .int 0, .int 0])) ([.inr (1, [.ref (cs0.length + 1), .ref (cs0.length + 2), .ref (cs0.length + 3), .ref (cs0.length + 4), .int 0, .int 0, .int 0, .int 0]), .inl (0, (38, .inl (fun _ => 0))), .inl (0, (38, .inl (fun _ => 0))), .inl (0, (38, .inl (fun _ => 0))), .inl (0, (38, .inl (fun _ => 0)))] : List va_E) := by
  intro D cA ad b0 had
  refine Met.ofW (cc := cX1_init) (maxL := 1) (ret := none) (by decide +kernel) rfl ?_
  intro p e s m args below meth c s₁ B hml hv
  obtain ⟨rfl, hsz, hP, hK, hD0, hEX, hNe⟩ := hv
  have hx := B.exec
  have hb := B.bytes
  have hr := B.returns
  have hts0 := atoms_spec (ws := Cond.code yX1_init cX1_init 1 none :: gU) B.pre
  have hts : ∀ w ∈ gU, w.before _ s = true := fun w hw => hts0 w (List.mem_cons_of_mem _ hw)
  have hown : s.vm.findClass RX1 = some m.cls := findClass_of_methodNamed B.named
  have hlocks := B.notSynchronized
  have hin : meth.name = "<init>" := (name_of_methodNamed B.named B.method).1
  have hD := hD0.self (sz := b0 + (cs0 ++ ([.inr (1, [.null, .null, .null, .null, .int 0, .int 0, .int 0, .int 0])] : List va_E)).length)
  generalize hAe : va_A (gwl ad cA (cs0 ++ ([.inr (1, [.null, .null, .null, .null, .int 0, .int 0, .int 0, .int 0])] : List va_E))) (b0 + (cs0 ++ ([.inr (1, [.null, .null, .null, .null, .int 0, .int 0, .int 0, .int 0])] : List va_E)).length) = A at hD hEX ⊢
  have hA : ∀ q : Nat, s.heap.size ≤ q → A q := fun q h => by rw [← hAe]; exact Or.inr (by rw [← hsz]; exact h)
  have hnm0 : s.vm.findClass ("[" ++ FieldType.int.toString) = some (cA 0) := (hK.2 0 _ rfl).2
  have hR0 : gRelL D gCl cA ad b0 A s.heap (cs0 ++ ([.inr (1, [.null, .null, .null, .null, .int 0, .int 0, .int 0, .int 0])] : List va_E)) s.heap [] := ⟨hP, hD, va_S.rf, hsz⟩
  have hl := lv_entry ([.ref (ad cs0.length)]) (n := 1) (Nat.le_of_ble_eq_true rfl)
  rw [lg_entry_eq]
  generalize (lg_sl ([.ref (ad cs0.length)]) ++ List.replicate (1 - (lg_sl ([.ref (ad cs0.length)])).length) Slot.unset).toArray = ls at hl ⊢
  have hl : lv_has ls 1 [(0, .ref (ad cs0.length))] := hl
  refine lv_aload_n hx hb (by decide +kernel : decode cX1_init 0 = .ok (.aload_n 0, 1)) rfl (lv_at hl 0 rfl) ?_
  refine W.objInit hx hb hown (hts _ wm_RX1_3) (hts _ wobj_i) (hts _ wobj_c) rfl (by rw [hml]; exact hl.1) rfl (by decide +kernel : decode cX1_init 1 = .ok (.invokespecial 3, 3)) (Nat.le_of_ble_eq_true rfl) (Nat.le_of_ble_eq_true rfl) ?_
  refine W.eq (g2 := F0 m 4 ls []) rfl ?_
  refine lv_aload_n hx hb (by decide +kernel : decode cX1_init 4 = .ok (.aload_n 0, 1)) rfl (lv_at hl 0 rfl) ?_
  refine lv_bipush (v := 38) hx hb (by decide +kernel : decode cX1_init 5 = .ok (.bipush 38, 2)) (by decide) ?_
  refine gn_newa (ty := .int) (t := 0) (k := 1) (N := 38) (a0 := (38, .inl (fun _ => 0))) hx hb rfl (hts _ warr_int) hnm0 hA hR0 rfl (had _ (by omega)) (fun _ => rfl) rfl (by decide) (by decide) (by decide) (Nat.le_of_ble_eq_true rfl) (Nat.le_of_ble_eq_true rfl) (by decide +kernel : decode cX1_init 7 = .ok (.newarray .int, 2)) (fun H1 hR1 => ?_)
  refine gn_put (C := RX1) (T := TX1) (N := 8) (ci := 1) (v := .ref (cs0.length + 1)) hx hb hts inU_X1 tyX1 tyX1_ok nmX1 hown hK hR1 0 rfl rfl 0 (by decide) rfl (hts _ wf_RX1_11) hin (tyX1_ok 0 (by decide)) rfl rfl (Nat.le_of_ble_eq_true rfl) rfl rfl rfl (by decide +kernel : decode cX1_init 9 = .ok (.putfield 11, 3)) (fun H2 L2 hR2 => ?_)
  refine lv_aload_n hx hb (by decide +kernel : decode cX1_init 12 = .ok (.aload_n 0, 1)) rfl (lv_at hl 0 rfl) ?_
  refine lv_bipush (v := 38) hx hb (by decide +kernel : decode cX1_init 13 = .ok (.bipush 38, 2)) (by decide) ?_
  refine gn_newa (ty := .int) (t := 0) (k := 2) (N := 38) (a0 := (38, .inl (fun _ => 0))) hx hb rfl (hts _ warr_int) hnm0 hA hR2 rfl (had _ (by omega)) (fun _ => rfl) rfl (by decide) (by decide) (by decide) (Nat.le_of_ble_eq_true rfl) (Nat.le_of_ble_eq_true rfl) (by decide +kernel : decode cX1_init 15 = .ok (.newarray .int, 2)) (fun H3 hR3 => ?_)
  refine gn_put (C := RX1) (T := TX1) (N := 8) (ci := 1) (v := .ref (cs0.length + 2)) hx hb hts inU_X1 tyX1 tyX1_ok nmX1 hown hK hR3 0 rfl rfl 1 (by decide) rfl (hts _ wf_RX1_15) hin (tyX1_ok 1 (by decide)) rfl rfl (Nat.le_of_ble_eq_true rfl) rfl rfl rfl (by decide +kernel : decode cX1_init 17 = .ok (.putfield 15, 3)) (fun H4 L4 hR4 => ?_)
  refine lv_aload_n hx hb (by decide +kernel : decode cX1_init 20 = .ok (.aload_n 0, 1)) rfl (lv_at hl 0 rfl) ?_
  refine lv_bipush (v := 38) hx hb (by decide +kernel : decode cX1_init 21 = .ok (.bipush 38, 2)) (by decide) ?_
  refine gn_newa (ty := .int) (t := 0) (k := 3) (N := 38) (a0 := (38, .inl (fun _ => 0))) hx hb rfl (hts _ warr_int) hnm0 hA hR4 rfl (had _ (by omega)) (fun _ => rfl) rfl (by decide) (by decide) (by decide) (Nat.le_of_ble_eq_true rfl) (Nat.le_of_ble_eq_true rfl) (by decide +kernel : decode cX1_init 23 = .ok (.newarray .int, 2)) (fun H5 hR5 => ?_)
  refine gn_put (C := RX1) (T := TX1) (N := 8) (ci := 1) (v := .ref (cs0.length + 3)) hx hb hts inU_X1 tyX1 tyX1_ok nmX1 hown hK hR5 0 rfl rfl 2 (by decide) rfl (hts _ wf_RX1_18) hin (tyX1_ok 2 (by decide)) rfl rfl (Nat.le_of_ble_eq_true rfl) rfl rfl rfl (by decide +kernel : decode cX1_init 25 = .ok (.putfield 18, 3)) (fun H6 L6 hR6 => ?_)
  refine lv_aload_n hx hb (by decide +kernel : decode cX1_init 28 = .ok (.aload_n 0, 1)) rfl (lv_at hl 0 rfl) ?_
  refine lv_bipush (v := 38) hx hb (by decide +kernel : decode cX1_init 29 = .ok (.bipush 38, 2)) (by decide) ?_
  refine gn_newa (ty := .int) (t := 0) (k := 4) (N := 38) (a0 := (38, .inl (fun _ => 0))) hx hb rfl (hts _ warr_int) hnm0 hA hR6 rfl (had _ (by omega)) (fun _ => rfl) rfl (by decide) (by decide) (by decide) (Nat.le_of_ble_eq_true rfl) (Nat.le_of_ble_eq_true rfl) (by decide +kernel : decode cX1_init 31 = .ok (.newarray .int, 2)) (fun H7 hR7 => ?_)
  refine gn_put (C := RX1) (T := TX1) (N := 8) (ci := 1) (v := .ref (cs0.length + 4)) hx hb hts inU_X1 tyX1 tyX1_ok nmX1 hown hK hR7 0 rfl rfl 3 (by decide) rfl (hts _ wf_RX1_21) hin (tyX1_ok 3 (by decide)) rfl rfl (Nat.le_of_ble_eq_true rfl) rfl rfl rfl (by decide +kernel : decode cX1_init 33 = .ok (.putfield 21, 3)) (fun H8 L8 hR8 => ?_)
  exact W.vret hx hb hr (fun t ht hW => ⟨rfl, ⟨by rw [ht]; exact hR8.1, hR8.2.1⟩, hR8.2.2.1.F ht, by rw [ht]; exact hR8.2.2.2⟩) hR8.2.2.1.2.2 (by decide +kernel : decode cX1_init 36 = .ok (.return_, 1))
set_option maxRecDepth 100000 in
set_option maxHeartbeats 4000000 in
theorem ct_X5 {EX : gEX} (hX : gExOk EX) (l : Launch) (cs0 : List va_E) (h82 : cs0.length + 3 ≤ 82) : gCt EX l yX5_init cX5_init { frames := 3, cells := 2, slots := 1410, locals := 100 } 2 1410 cs0 (.inr (5, [.null, .null, .int 0, .int 0])) ([.inr (5, [.ref (cs0.length + 1), .ref (cs0.length + 2), .int 0, .int 0]), .inl (0, (336, .inl (fun _ => 0))), .inl (0, (1074, .inl (fun _ => 0)))] : List va_E) := by
  intro D cA ad b0 had
  refine Met.ofW (cc := cX5_init) (maxL := 1) (ret := none) (by decide +kernel) rfl ?_
  intro p e s m args below meth c s₁ B hml hv
  obtain ⟨rfl, hsz, hP, hK, hD0, hEX, hNe⟩ := hv
  have hx := B.exec
  have hb := B.bytes
  have hr := B.returns
  have hts0 := atoms_spec (ws := Cond.code yX5_init cX5_init 1 none :: gU) B.pre
  have hts : ∀ w ∈ gU, w.before _ s = true := fun w hw => hts0 w (List.mem_cons_of_mem _ hw)
  have hown : s.vm.findClass RX5 = some m.cls := findClass_of_methodNamed B.named
  have hlocks := B.notSynchronized
  have hin : meth.name = "<init>" := (name_of_methodNamed B.named B.method).1
  have hD := hD0.self (sz := b0 + (cs0 ++ ([.inr (5, [.null, .null, .int 0, .int 0])] : List va_E)).length)
  generalize hAe : va_A (gwl ad cA (cs0 ++ ([.inr (5, [.null, .null, .int 0, .int 0])] : List va_E))) (b0 + (cs0 ++ ([.inr (5, [.null, .null, .int 0, .int 0])] : List va_E)).length) = A at hD hEX ⊢
  have hA : ∀ q : Nat, s.heap.size ≤ q → A q := fun q h => by rw [← hAe]; exact Or.inr (by rw [← hsz]; exact h)
  have hnm0 : s.vm.findClass ("[" ++ FieldType.int.toString) = some (cA 0) := (hK.2 0 _ rfl).2
  have hR0 : gRelL D gCl cA ad b0 A s.heap (cs0 ++ ([.inr (5, [.null, .null, .int 0, .int 0])] : List va_E)) s.heap [] := ⟨hP, hD, va_S.rf, hsz⟩
  have hl := lv_entry ([.ref (ad cs0.length)]) (n := 1) (Nat.le_of_ble_eq_true rfl)
  rw [lg_entry_eq]
  generalize (lg_sl ([.ref (ad cs0.length)]) ++ List.replicate (1 - (lg_sl ([.ref (ad cs0.length)])).length) Slot.unset).toArray = ls at hl ⊢
  have hl : lv_has ls 1 [(0, .ref (ad cs0.length))] := hl
  refine lv_aload_n hx hb (by decide +kernel : decode cX5_init 0 = .ok (.aload_n 0, 1)) rfl (lv_at hl 0 rfl) ?_
  refine W.objInit hx hb hown (hts _ wm_RX5_7) (hts _ wobj_i) (hts _ wobj_c) rfl (by rw [hml]; exact hl.1) rfl (by decide +kernel : decode cX5_init 1 = .ok (.invokespecial 7, 3)) (Nat.le_of_ble_eq_true rfl) (Nat.le_of_ble_eq_true rfl) ?_
  refine W.eq (g2 := F0 m 4 ls []) rfl ?_
  refine lv_aload_n hx hb (by decide +kernel : decode cX5_init 4 = .ok (.aload_n 0, 1)) rfl (lv_at hl 0 rfl) ?_
  refine lv_sipush (v := 336) hx hb (by decide +kernel : decode cX5_init 5 = .ok (.sipush 336, 3)) (by decide) ?_
  refine gn_newa (ty := .int) (t := 0) (k := 1) (N := 336) (a0 := (336, .inl (fun _ => 0))) hx hb rfl (hts _ warr_int) hnm0 hA hR0 rfl (had _ (by omega)) (fun _ => rfl) rfl (by decide) (by decide) (by decide) (Nat.le_of_ble_eq_true rfl) (Nat.le_of_ble_eq_true rfl) (by decide +kernel : decode cX5_init 8 = .ok (.newarray .int, 2)) (fun H1 hR1 => ?_)
  refine gn_put (C := RX5) (T := TX5) (N := 4) (ci := 5) (v := .ref (cs0.length + 1)) hx hb hts inU_X5 tyX5 tyX5_ok nmX5 hown hK hR1 0 rfl rfl 0 (by decide) rfl (hts _ wf_RX5_13) hin (tyX5_ok 0 (by decide)) rfl rfl (Nat.le_of_ble_eq_true rfl) rfl rfl rfl (by decide +kernel : decode cX5_init 10 = .ok (.putfield 13, 3)) (fun H2 L2 hR2 => ?_)
  refine lv_aload_n hx hb (by decide +kernel : decode cX5_init 13 = .ok (.aload_n 0, 1)) rfl (lv_at hl 0 rfl) ?_
  refine lv_sipush (v := 1074) hx hb (by decide +kernel : decode cX5_init 14 = .ok (.sipush 1074, 3)) (by decide) ?_
  refine gn_newa (ty := .int) (t := 0) (k := 2) (N := 1074) (a0 := (1074, .inl (fun _ => 0))) hx hb rfl (hts _ warr_int) hnm0 hA hR2 rfl (had _ (by omega)) (fun _ => rfl) rfl (by decide) (by decide) (by decide) (Nat.le_of_ble_eq_true rfl) (Nat.le_of_ble_eq_true rfl) (by decide +kernel : decode cX5_init 17 = .ok (.newarray .int, 2)) (fun H3 hR3 => ?_)
  refine gn_put (C := RX5) (T := TX5) (N := 4) (ci := 5) (v := .ref (cs0.length + 2)) hx hb hts inU_X5 tyX5 tyX5_ok nmX5 hown hK hR3 0 rfl rfl 1 (by decide) rfl (hts _ wf_RX5_17) hin (tyX5_ok 1 (by decide)) rfl rfl (Nat.le_of_ble_eq_true rfl) rfl rfl rfl (by decide +kernel : decode cX5_init 19 = .ok (.putfield 17, 3)) (fun H4 L4 hR4 => ?_)
  exact W.vret hx hb hr (fun t ht hW => ⟨rfl, ⟨by rw [ht]; exact hR4.1, hR4.2.1⟩, hR4.2.2.1.F ht, by rw [ht]; exact hR4.2.2.2⟩) hR4.2.2.1.2.2 (by decide +kernel : decode cX5_init 22 = .ok (.return_, 1))
set_option maxRecDepth 100000 in
set_option maxHeartbeats 4000000 in
theorem ct_X6 {EX : gEX} (hX : gExOk EX) (l : Launch) (cs0 : List va_E) (h82 : cs0.length + 4 ≤ 82) : gCt EX l yX6_init cX6_init { frames := 3, cells := 3, slots := 136, locals := 100 } 3 136 cs0 (.inr (6, [.null, .null, .null, .int 0, .int 0, .int 0])) ([.inr (6, [.ref (cs0.length + 1), .ref (cs0.length + 2), .ref (cs0.length + 3), .int 0, .int 0, .int 0]), .inl (0, (8, .inl (fun _ => 0))), .inl (0, (64, .inl (fun _ => 0))), .inl (0, (64, .inl (fun _ => 0)))] : List va_E) := by
  intro D cA ad b0 had
  refine Met.ofW (cc := cX6_init) (maxL := 1) (ret := none) (by decide +kernel) rfl ?_
  intro p e s m args below meth c s₁ B hml hv
  obtain ⟨rfl, hsz, hP, hK, hD0, hEX, hNe⟩ := hv
  have hx := B.exec
  have hb := B.bytes
  have hr := B.returns
  have hts0 := atoms_spec (ws := Cond.code yX6_init cX6_init 1 none :: gU) B.pre
  have hts : ∀ w ∈ gU, w.before _ s = true := fun w hw => hts0 w (List.mem_cons_of_mem _ hw)
  have hown : s.vm.findClass RX6 = some m.cls := findClass_of_methodNamed B.named
  have hlocks := B.notSynchronized
  have hin : meth.name = "<init>" := (name_of_methodNamed B.named B.method).1
  have hD := hD0.self (sz := b0 + (cs0 ++ ([.inr (6, [.null, .null, .null, .int 0, .int 0, .int 0])] : List va_E)).length)
  generalize hAe : va_A (gwl ad cA (cs0 ++ ([.inr (6, [.null, .null, .null, .int 0, .int 0, .int 0])] : List va_E))) (b0 + (cs0 ++ ([.inr (6, [.null, .null, .null, .int 0, .int 0, .int 0])] : List va_E)).length) = A at hD hEX ⊢
  have hA : ∀ q : Nat, s.heap.size ≤ q → A q := fun q h => by rw [← hAe]; exact Or.inr (by rw [← hsz]; exact h)
  have hnm0 : s.vm.findClass ("[" ++ FieldType.int.toString) = some (cA 0) := (hK.2 0 _ rfl).2
  have hR0 : gRelL D gCl cA ad b0 A s.heap (cs0 ++ ([.inr (6, [.null, .null, .null, .int 0, .int 0, .int 0])] : List va_E)) s.heap [] := ⟨hP, hD, va_S.rf, hsz⟩
  have hl := lv_entry ([.ref (ad cs0.length)]) (n := 1) (Nat.le_of_ble_eq_true rfl)
  rw [lg_entry_eq]
  generalize (lg_sl ([.ref (ad cs0.length)]) ++ List.replicate (1 - (lg_sl ([.ref (ad cs0.length)])).length) Slot.unset).toArray = ls at hl ⊢
  have hl : lv_has ls 1 [(0, .ref (ad cs0.length))] := hl
  refine lv_aload_n hx hb (by decide +kernel : decode cX6_init 0 = .ok (.aload_n 0, 1)) rfl (lv_at hl 0 rfl) ?_
  refine W.objInit hx hb hown (hts _ wm_RX6_3) (hts _ wobj_i) (hts _ wobj_c) rfl (by rw [hml]; exact hl.1) rfl (by decide +kernel : decode cX6_init 1 = .ok (.invokespecial 3, 3)) (Nat.le_of_ble_eq_true rfl) (Nat.le_of_ble_eq_true rfl) ?_
  refine W.eq (g2 := F0 m 4 ls []) rfl ?_
  refine lv_aload_n hx hb (by decide +kernel : decode cX6_init 4 = .ok (.aload_n 0, 1)) rfl (lv_at hl 0 rfl) ?_
  refine lv_bipush (v := 8) hx hb (by decide +kernel : decode cX6_init 5 = .ok (.bipush 8, 2)) (by decide) ?_
  refine gn_newa (ty := .int) (t := 0) (k := 1) (N := 8) (a0 := (8, .inl (fun _ => 0))) hx hb rfl (hts _ warr_int) hnm0 hA hR0 rfl (had _ (by omega)) (fun _ => rfl) rfl (by decide) (by decide) (by decide) (Nat.le_of_ble_eq_true rfl) (Nat.le_of_ble_eq_true rfl) (by decide +kernel : decode cX6_init 7 = .ok (.newarray .int, 2)) (fun H1 hR1 => ?_)
  refine gn_put (C := RX6) (T := TX6) (N := 6) (ci := 6) (v := .ref (cs0.length + 1)) hx hb hts inU_X6 tyX6 tyX6_ok nmX6 hown hK hR1 0 rfl rfl 0 (by decide) rfl (hts _ wf_RX6_9) hin (tyX6_ok 0 (by decide)) rfl rfl (Nat.le_of_ble_eq_true rfl) rfl rfl rfl (by decide +kernel : decode cX6_init 9 = .ok (.putfield 9, 3)) (fun H2 L2 hR2 => ?_)
  refine lv_aload_n hx hb (by decide +kernel : decode cX6_init 12 = .ok (.aload_n 0, 1)) rfl (lv_at hl 0 rfl) ?_
  refine lv_bipush (v := 64) hx hb (by decide +kernel : decode cX6_init 13 = .ok (.bipush 64, 2)) (by decide) ?_
  refine gn_newa (ty := .int) (t := 0) (k := 2) (N := 64) (a0 := (64, .inl (fun _ => 0))) hx hb rfl (hts _ warr_int) hnm0 hA hR2 rfl (had _ (by omega)) (fun _ => rfl) rfl (by decide) (by decide) (by decide) (Nat.le_of_ble_eq_true rfl) (Nat.le_of_ble_eq_true rfl) (by decide +kernel : decode cX6_init 15 = .ok (.newarray .int, 2)) (fun H3 hR3 => ?_)
  refine gn_put (C := RX6) (T := TX6) (N := 6) (ci := 6) (v := .ref (cs0.length + 2)) hx hb hts inU_X6 tyX6 tyX6_ok nmX6 hown hK hR3 0 rfl rfl 1 (by decide) rfl (hts _ wf_RX6_15) hin (tyX6_ok 1 (by decide)) rfl rfl (Nat.le_of_ble_eq_true rfl) rfl rfl rfl (by decide +kernel : decode cX6_init 17 = .ok (.putfield 15, 3)) (fun H4 L4 hR4 => ?_)
  refine lv_aload_n hx hb (by decide +kernel : decode cX6_init 20 = .ok (.aload_n 0, 1)) rfl (lv_at hl 0 rfl) ?_
  refine lv_bipush (v := 64) hx hb (by decide +kernel : decode cX6_init 21 = .ok (.bipush 64, 2)) (by decide) ?_
  refine gn_newa (ty := .int) (t := 0) (k := 3) (N := 64) (a0 := (64, .inl (fun _ => 0))) hx hb rfl (hts _ warr_int) hnm0 hA hR4 rfl (had _ (by omega)) (fun _ => rfl) rfl (by decide) (by decide) (by decide) (Nat.le_of_ble_eq_true rfl) (Nat.le_of_ble_eq_true rfl) (by decide +kernel : decode cX6_init 23 = .ok (.newarray .int, 2)) (fun H5 hR5 => ?_)
  refine gn_put (C := RX6) (T := TX6) (N := 6) (ci := 6) (v := .ref (cs0.length + 3)) hx hb hts inU_X6 tyX6 tyX6_ok nmX6 hown hK hR5 0 rfl rfl 2 (by decide) rfl (hts _ wf_RX6_18) hin (tyX6_ok 2 (by decide)) rfl rfl (Nat.le_of_ble_eq_true rfl) rfl rfl rfl (by decide +kernel : decode cX6_init 25 = .ok (.putfield 18, 3)) (fun H6 L6 hR6 => ?_)
  exact W.vret hx hb hr (fun t ht hW => ⟨rfl, ⟨by rw [ht]; exact hR6.1, hR6.2.1⟩, hR6.2.2.1.F ht, by rw [ht]; exact hR6.2.2.2⟩) hR6.2.2.1.2.2 (by decide +kernel : decode cX6_init 28 = .ok (.return_, 1))
set_option maxRecDepth 100000 in
set_option maxHeartbeats 4000000 in
theorem ct_X2 {EX : gEX} (hX : gExOk EX) (l : Launch) (cs0 : List va_E) (h82 : cs0.length + 5 ≤ 82) : gCt EX l yX2_init cX2_init { frames := 5, cells := 4, slots := 32, locals := 150 } 4 32 cs0 (.inr (2, [.null, .int 0, .int 0, .int 0])) ([.inr (2, [.ref (cs0.length + 1), .int 0, .int 0, .int 0]), .inr (8, [.ref (cs0.length + 2), .ref (cs0.length + 3), .ref (cs0.length + 4), .int 0, .int 1, .int 0, .int 1, .int 0]), .inl (0, (8, .inl (fun _ => 0))), .inl (0, (8, .inl (fun _ => 0))), .inl (0, (8, .inl (fun _ => 0)))] : List va_E) := by
  intro D cA ad b0 had
  refine Met.ofW (cc := cX2_init) (maxL := 1) (ret := none) (by decide +kernel) rfl ?_
  intro p e s m args below meth c s₁ B hml hv
  obtain ⟨rfl, hsz, hP, hK, hD0, hEX, hNe⟩ := hv
  have hx := B.exec
  have hb := B.bytes
  have hr := B.returns
  have hts0 := atoms_spec (ws := Cond.code yX2_init cX2_init 1 none :: gU) B.pre
  have hts : ∀ w ∈ gU, w.before _ s = true := fun w hw => hts0 w (List.mem_cons_of_mem _ hw)
  have hown : s.vm.findClass RX2 = some m.cls := findClass_of_methodNamed B.named
  have hlocks := B.notSynchronized
  have hin : meth.name = "<init>" := (name_of_methodNamed B.named B.method).1
  have hD := hD0.self (sz := b0 + (cs0 ++ ([.inr (2, [.null, .int 0, .int 0, .int 0])] : List va_E)).length)
  generalize hAe : va_A (gwl ad cA (cs0 ++ ([.inr (2, [.null, .int 0, .int 0, .int 0])] : List va_E))) (b0 + (cs0 ++ ([.inr (2, [.null, .int 0, .int 0, .int 0])] : List va_E)).length) = A at hD hEX ⊢
  have hA : ∀ q : Nat, s.heap.size ≤ q → A q := fun q h => by rw [← hAe]; exact Or.inr (by rw [← hsz]; exact h)
  have hnm0 : s.vm.findClass ("[" ++ FieldType.int.toString) = some (cA 0) := (hK.2 0 _ rfl).2
  have hR0 : gRelL D gCl cA ad b0 A s.heap (cs0 ++ ([.inr (2, [.null, .int 0, .int 0, .int 0])] : List va_E)) s.heap [] := ⟨hP, hD, va_S.rf, hsz⟩
  have hl := lv_entry ([.ref (ad cs0.length)]) (n := 1) (Nat.le_of_ble_eq_true rfl)
  rw [lg_entry_eq]
  generalize (lg_sl ([.ref (ad cs0.length)]) ++ List.replicate (1 - (lg_sl ([.ref (ad cs0.length)])).length) Slot.unset).toArray = ls at hl ⊢
  have hl : lv_has ls 1 [(0, .ref (ad cs0.length))] := hl
  refine lv_aload_n hx hb (by decide +kernel : decode cX2_init 0 = .ok (.aload_n 0, 1)) rfl (lv_at hl 0 rfl) ?_
  refine W.objInit hx hb hown (hts _ wm_RX2_3) (hts _ wobj_i) (hts _ wobj_c) rfl (by rw [hml]; exact hl.1) rfl (by decide +kernel : decode cX2_init 1 = .ok (.invokespecial 3, 3)) (Nat.le_of_ble_eq_true rfl) (Nat.le_of_ble_eq_true rfl) ?_
  refine W.eq (g2 := F0 m 4 ls []) rfl ?_
  refine lv_aload_n hx hb (by decide +kernel : decode cX2_init 4 = .ok (.aload_n 0, 1)) rfl (lv_at hl 0 rfl) ?_
  refine gn_new (C := RX8) (T := TX8) (N := 8) (ci := 8) (k := 1) (fs := [.null, .null, .null, .int 0, .int 0, .int 0, .int 0, .int 0]) hx hb hts inU_X8 tyX8 tyX8_ok hown (hts _ wl_RX2_9) (hts _ wins_X8) (hts _ wi_CommaState_World) hK hA hR0 rfl rfl (had _ (by omega)) (df_X8 ad) rfl (Nat.le_of_ble_eq_true rfl) (Nat.le_of_ble_eq_true rfl) (by decide +kernel : decode cX2_init 5 = .ok (.new 9, 3)) (fun H1 hR1 => ?_)
  refine lv_dup hx hb (by decide +kernel : decode cX2_init 8 = .ok (.dup, 1)) rfl ?_
  refine gn_ctN (Q := _) hX (own := RX2) (host := RX9) (y := yX8_init) (k := 1) (lc := ([.inr (2, [.null, .int 0, .int 0, .int 0])] : List va_E)) hml hx hb hown hts hA hK hEX hNe had (ct_X8 hX l (cs0 ++ ([.inr (2, [.null, .int 0, .int 0, .int 0])] : List va_E)) (by rw [List.length_append]; show cs0.length + 1 + 4 ≤ 82; omega)) (List.mem_of_getElem? (i := 8) rfl) wi_CommaState_World winstanceMethod_yX8_init wc_yX8_init rfl ⟨rfl, rfl⟩ (by decide +kernel) ⟨Nat.le_of_ble_eq_true rfl, Nat.le_of_ble_eq_true rfl⟩ rfl (lc2 := ([.inr (2, [.null, .int 0, .int 0, .int 0]), .inr (8, [.ref (cs0.length + 2), .ref (cs0.length + 3), .ref (cs0.length + 4), .int 0, .int 1, .int 0, .int 1, .int 0]), .inl (0, (8, .inl (fun _ => 0))), .inl (0, (8, .inl (fun _ => 0))), .inl (0, (8, .inl (fun _ => 0)))] : List va_E)) (by rw [List.length_append]; rfl) rfl hR1 hl.1 (Nat.le_of_ble_eq_true rfl) (by decide +kernel : decode cX2_init 9 = .ok (.invokespecial 11, 3)) ⟨Nat.le_of_ble_eq_true rfl, Nat.le_of_ble_eq_true rfl⟩ (fun H2 L2 hR2 => ?_)
  refine gn_put (C := RX2) (T := TX2) (N := 4) (ci := 2) (v := .ref (cs0.length + 1)) hx hb hts inU_X2 tyX2 tyX2_ok nmX2 hown hK hR2 0 rfl rfl 0 (by decide) rfl (hts _ wf_RX2_12) hin (tyX2_ok 0 (by decide)) rfl rfl (Nat.le_of_ble_eq_true rfl) rfl rfl rfl (by decide +kernel : decode cX2_init 12 = .ok (.putfield 12, 3)) (fun H3 L3 hR3 => ?_)
  exact W.vret hx hb hr (fun t ht hW => ⟨rfl, ⟨by rw [ht]; exact hR3.1, hR3.2.1⟩, hR3.2.2.1.F ht, by rw [ht]; exact hR3.2.2.2⟩) hR3.2.2.1.2.2 (by decide +kernel : decode cX2_init 15 = .ok (.return_, 1))
