/-! ===== the law's entry ===== -/
set_option maxRecDepth 20000 in
theorem wl_RL_8 : Cond.classLink RL 8 RX9 ∈ gU := gmU (gt1 _ (List.mem_of_getElem? (i := 24) rfl)) rfl
set_option maxRecDepth 20000 in
theorem wins_X9 : Cond.instantiable RX9 16 ∈ gU := gmU (gt1 _ (List.mem_of_getElem? (i := 25) rfl)) rfl
set_option maxRecDepth 20000 in
theorem wm_RL_108 : Cond.methodLink RL 108 yX9_init ∈ gU := gmU (gt1 _ (List.mem_of_getElem? (i := 26) rfl)) rfl
set_option maxRecDepth 20000 in
theorem winstanceMethod_yX9_init : Cond.instanceMethod yX9_init ∈ gU := gmU (gt1 _ (List.mem_of_getElem? (i := 27) rfl)) rfl
set_option maxRecDepth 20000 in
theorem wc_yX9_init : Cond.code yX9_init cX9_init 1 none ∈ gU := gmU (gt1 _ (List.mem_of_getElem? (i := 28) rfl)) rfl
set_option maxRecDepth 20000 in
theorem wl_RL_109 : Cond.classLink RL 109 RX10 ∈ gU := gmU (gt6 _ (List.mem_of_getElem? (i := 40) rfl)) rfl
set_option maxRecDepth 20000 in
theorem wins_X10 : Cond.instantiable RX10 54 ∈ gU := gmU (gt6 _ (List.mem_of_getElem? (i := 41) rfl)) rfl
set_option maxRecDepth 20000 in
theorem wm_RL_111 : Cond.methodLink RL 111 yX10_init ∈ gU := gmU (gt6 _ (List.mem_of_getElem? (i := 42) rfl)) rfl
set_option maxRecDepth 20000 in
theorem winstanceMethod_yX10_init : Cond.instanceMethod yX10_init ∈ gU := gmU (gt6 _ (List.mem_of_getElem? (i := 43) rfl)) rfl
set_option maxRecDepth 20000 in
theorem wc_yX10_init : Cond.code yX10_init cX10_init 1 none ∈ gU := gmU (gt6 _ (List.mem_of_getElem? (i := 44) rfl)) rfl
set_option maxRecDepth 20000 in
theorem warr_long : Cond.arrayClass .long ∈ gU := gmU (gt8 _ (List.mem_of_getElem? (i := 165) rfl)) rfl
def P9 : Nat → Nat := fun f => ([0, 3, 8, 0, 0, 21, 25, 29, 32] : List Nat).getD f 0
def cI9 : Nat → Nat → Int32 := fun o f => (([[0, 0, 0, 0, 0, 0, 0, 0, 0, 0, 0, 0, 0, 0, 0, 0], [0, 0, 0, 0, 0, 0, 0, 0, (-1)], [], [0, 0, 0, 0, 0, 0], [], [], [], [], [0, 0, 0, 0, 0, 0], [], [], [], [], [0, 0, 0, 0, 1, 0, 1, 0], [], [], [], [0, 0, 0, 0, 1, 0, 1, 0], [], [], [], [0, 0, 0, (nI 5)], [], [], [], [0, 0, 0, (nI 5)], [], [], [], [0, 0, 0, 0, 0, 0, 0], [], [], [0, 0, 0, 0, 0, 0, 0], [], [], [0, 0, 0, 0, 0, 0, 0, 0], [], [], [], [], [0, 0, 0, 0], [], [], [0, 0, 0, 0, 0, 0], [], [], [], [0, 0, 0, 0], [0, 0, 0, 0, 1, 0, 1, 0], [], [], []] : List (List Int32)).getD o []).getD f 0
noncomputable def cA9 : Nat → Nat → Int32 := fun o => if o = 22 then plain0 else if o = 26 then plain0 else fun _ => 0
noncomputable def rf0 : List va_E := (List.range 52).map (cE cck 0 P9 cI9 cA9)
noncomputable def rg0 : List va_E := (List.range 29).map (cE mck 52 (fun _ => 0) (iI cI1) iA)
theorem rf0_len : rf0.length = 52 := by unfold rf0; rw [List.length_map, List.length_range]
theorem rg0_len : rg0.length = 29 := by unfold rg0; rw [List.length_map, List.length_range]
set_option maxRecDepth 100000 in
theorem rf0_eq : ([.inr (9, [.ref (([] : List va_E).length + 1), .ref (([] : List va_E).length + 3), .ref (([] : List va_E).length + 8), .ref (([] : List va_E).length + 13), .ref (([] : List va_E).length + 17), .ref (([] : List va_E).length + 21), .ref (([] : List va_E).length + 25), .ref (([] : List va_E).length + 29), .ref (([] : List va_E).length + 32), .ref (([] : List va_E).length + 35), .ref (([] : List va_E).length + 40), .ref (([] : List va_E).length + 43), .ref (([] : List va_E).length + 47), .int 0, .int 0, .int 0]), .inr (7, [.ref (([] : List va_E).length + 2), .int 0, .int 0, .int 0, .int 0, .int 0, .int 0, .int 0, .int (-1)]), .inl (0, (600, .inl (fun _ => 0))), .inr (3, [.int 0, .int 0, .ref (([] : List va_E).length + 4), .ref (([] : List va_E).length + 5), .ref (([] : List va_E).length + 6), .ref (([] : List va_E).length + 7)]), .inl (0, (8, .inl (fun _ => 0))), .inl (0, (8, .inl (fun _ => 0))), .inl (0, (12, .inl (fun _ => 0))), .inl (0, (12, .inl (fun _ => 0))), .inr (3, [.int 0, .int 0, .ref (([] : List va_E).length + 9), .ref (([] : List va_E).length + 10), .ref (([] : List va_E).length + 11), .ref (([] : List va_E).length + 12)]), .inl (0, (8, .inl (fun _ => 0))), .inl (0, (8, .inl (fun _ => 0))), .inl (0, (12, .inl (fun _ => 0))), .inl (0, (12, .inl (fun _ => 0))), .inr (8, [.ref (([] : List va_E).length + 14), .ref (([] : List va_E).length + 15), .ref (([] : List va_E).length + 16), .int 0, .int 1, .int 0, .int 1, .int 0]), .inl (0, (8, .inl (fun _ => 0))), .inl (0, (8, .inl (fun _ => 0))), .inl (0, (8, .inl (fun _ => 0))), .inr (8, [.ref (([] : List va_E).length + 18), .ref (([] : List va_E).length + 19), .ref (([] : List va_E).length + 20), .int 0, .int 1, .int 0, .int 1, .int 0]), .inl (0, (8, .inl (fun _ => 0))), .inl (0, (8, .inl (fun _ => 0))), .inl (0, (8, .inl (fun _ => 0))), .inr (4, [.ref (([] : List va_E).length + 22), .ref (([] : List va_E).length + 23), .ref (([] : List va_E).length + 24), .int (nI 5)]), .inl (0, (150, .inl plain0)), .inl (0, (10, .inl (fun _ => 0))), .inl (0, (32, .inl (fun _ => 0))), .inr (4, [.ref (([] : List va_E).length + 26), .ref (([] : List va_E).length + 27), .ref (([] : List va_E).length + 28), .int (nI 5)]), .inl (0, (150, .inl plain0)), .inl (0, (10, .inl (fun _ => 0))), .inl (0, (32, .inl (fun _ => 0))), .inr (0, [.ref (([] : List va_E).length + 30), .ref (([] : List va_E).length + 31), .int 0, .int 0, .int 0, .int 0, .int 0]), .inl (0, (8, .inl (fun _ => 0))), .inl (0, (24, .inl (fun _ => 0))), .inr (0, [.ref (([] : List va_E).length + 33), .ref (([] : List va_E).length + 34), .int 0, .int 0, .int 0, .int 0, .int 0]), .inl (0, (8, .inl (fun _ => 0))), .inl (0, (24, .inl (fun _ => 0))), .inr (1, [.ref (([] : List va_E).length + 36), .ref (([] : List va_E).length + 37), .ref (([] : List va_E).length + 38), .ref (([] : List va_E).length + 39), .int 0, .int 0, .int 0, .int 0]), .inl (0, (38, .inl (fun _ => 0))), .inl (0, (38, .inl (fun _ => 0))), .inl (0, (38, .inl (fun _ => 0))), .inl (0, (38, .inl (fun _ => 0))), .inr (5, [.ref (([] : List va_E).length + 41), .ref (([] : List va_E).length + 42), .int 0, .int 0]), .inl (0, (336, .inl (fun _ => 0))), .inl (0, (1074, .inl (fun _ => 0))), .inr (6, [.ref (([] : List va_E).length + 44), .ref (([] : List va_E).length + 45), .ref (([] : List va_E).length + 46), .int 0, .int 0, .int 0]), .inl (0, (8, .inl (fun _ => 0))), .inl (0, (64, .inl (fun _ => 0))), .inl (0, (64, .inl (fun _ => 0))), .inr (2, [.ref (([] : List va_E).length + 48), .int 0, .int 0, .int 0]), .inr (8, [.ref (([] : List va_E).length + 49), .ref (([] : List va_E).length + 50), .ref (([] : List va_E).length + 51), .int 0, .int 1, .int 0, .int 1, .int 0]), .inl (0, (8, .inl (fun _ => 0))), .inl (0, (8, .inl (fun _ => 0))), .inl (0, (8, .inl (fun _ => 0)))] : List va_E) = rf0 := by
  unfold rf0
  show _ = [cE cck 0 P9 cI9 cA9 0, cE cck 0 P9 cI9 cA9 1, cE cck 0 P9 cI9 cA9 2, cE cck 0 P9 cI9 cA9 3, cE cck 0 P9 cI9 cA9 4, cE cck 0 P9 cI9 cA9 5, cE cck 0 P9 cI9 cA9 6, cE cck 0 P9 cI9 cA9 7, cE cck 0 P9 cI9 cA9 8, cE cck 0 P9 cI9 cA9 9, cE cck 0 P9 cI9 cA9 10, cE cck 0 P9 cI9 cA9 11, cE cck 0 P9 cI9 cA9 12, cE cck 0 P9 cI9 cA9 13, cE cck 0 P9 cI9 cA9 14, cE cck 0 P9 cI9 cA9 15, cE cck 0 P9 cI9 cA9 16, cE cck 0 P9 cI9 cA9 17, cE cck 0 P9 cI9 cA9 18, cE cck 0 P9 cI9 cA9 19, cE cck 0 P9 cI9 cA9 20, cE cck 0 P9 cI9 cA9 21, cE cck 0 P9 cI9 cA9 22, cE cck 0 P9 cI9 cA9 23, cE cck 0 P9 cI9 cA9 24, cE cck 0 P9 cI9 cA9 25, cE cck 0 P9 cI9 cA9 26, cE cck 0 P9 cI9 cA9 27, cE cck 0 P9 cI9 cA9 28, cE cck 0 P9 cI9 cA9 29, cE cck 0 P9 cI9 cA9 30, cE cck 0 P9 cI9 cA9 31, cE cck 0 P9 cI9 cA9 32, cE cck 0 P9 cI9 cA9 33, cE cck 0 P9 cI9 cA9 34, cE cck 0 P9 cI9 cA9 35, cE cck 0 P9 cI9 cA9 36, cE cck 0 P9 cI9 cA9 37, cE cck 0 P9 cI9 cA9 38, cE cck 0 P9 cI9 cA9 39, cE cck 0 P9 cI9 cA9 40, cE cck 0 P9 cI9 cA9 41, cE cck 0 P9 cI9 cA9 42, cE cck 0 P9 cI9 cA9 43, cE cck 0 P9 cI9 cA9 44, cE cck 0 P9 cI9 cA9 45, cE cck 0 P9 cI9 cA9 46, cE cck 0 P9 cI9 cA9 47, cE cck 0 P9 cI9 cA9 48, cE cck 0 P9 cI9 cA9 49, cE cck 0 P9 cI9 cA9 50, cE cck 0 P9 cI9 cA9 51]
  exact l_cons rfl (l_cons rfl (l_cons rfl (l_cons rfl (l_cons rfl (l_cons rfl (l_cons rfl (l_cons rfl (l_cons rfl (l_cons rfl (l_cons rfl (l_cons rfl (l_cons rfl (l_cons rfl (l_cons rfl (l_cons rfl (l_cons rfl (l_cons rfl (l_cons rfl (l_cons rfl (l_cons rfl (l_cons rfl (l_cons rfl (l_cons rfl (l_cons rfl (l_cons rfl (l_cons rfl (l_cons rfl (l_cons rfl (l_cons rfl (l_cons rfl (l_cons rfl (l_cons rfl (l_cons rfl (l_cons rfl (l_cons rfl (l_cons rfl (l_cons rfl (l_cons rfl (l_cons rfl (l_cons rfl (l_cons rfl (l_cons rfl (l_cons rfl (l_cons rfl (l_cons rfl (l_cons rfl (l_cons rfl (l_cons rfl (l_cons rfl (l_cons rfl (l_cons rfl (rfl))))))))))))))))))))))))))))))))))))))))))))))))))))
theorem cRep_9 : cRep sInit P9 cI9 cA9 := cRep_init ⟨Or.inl ⟨rfl, rfl⟩, Or.inl ⟨rfl, rfl⟩, Or.inl ⟨rfl, rfl⟩⟩ rfl rfl rfl rfl rfl rfl rfl rfl rfl rfl rfl rfl rfl rfl rfl rfl rfl rfl rfl rfl rfl rfl
theorem rRep_10 : rRep sInit (iI cI1) iA := rRep_iA rfl rfl rfl rfl
theorem gLst_lW {e : va_E} {f : Nat → Int64} (he : e = .inl (1, (1, .inr (.inl f)))) : gLst ((rf0 ++ rg0) ++ [e]) = lW f P9 cI9 cA9 (fun _ => 0) (iI cI1) iA := by
  subst he
  funext h
  unfold gLst lW gset
  by_cases h1 : h < 52
  · rw [if_pos ⟨Nat.zero_le _, (cck_n _).mpr (by omega)⟩, List.getElem?_append_left (by rw [List.length_append, rf0_len]; omega), List.getElem?_append_left (by rw [rf0_len]; exact h1)]
    unfold rf0
    rw [List.getElem?_map, List.getElem?_range h1]
    rfl
  · rw [if_neg (fun q => h1 ((cck_n _).mp q.2))]
    by_cases h2 : h < 81
    · rw [if_pos ⟨by omega, (mck_n _).mpr (by omega)⟩, List.getElem?_append_left (by rw [List.length_append, rf0_len, rg0_len]; omega), List.getElem?_append_right (by rw [rf0_len]; omega), rf0_len]
      unfold rg0
      rw [List.getElem?_map, List.getElem?_range (by omega)]
      rfl
    · rw [if_neg (fun q => h2 (by have := (mck_n _).mp q.2; omega)), List.getElem?_append_right (by rw [List.length_append, rf0_len, rg0_len]; omega), List.length_append, rf0_len, rg0_len]
      unfold lH
      by_cases h3 : h = 81
      · subst h3
        rfl
      · rw [if_neg h3, List.getElem?_eq_none (by show 1 ≤ h - (52 + 29); omega)]
theorem gKn_all {args : Array Value} {s : State} (hts : ∀ w ∈ gU, w.before args s = true) : ∃ (dC : Nat → ClassId) (dI : Nat → Nat → Nat), ∀ (k : Nat) (q : vw_C), gCl[k]? = some q → u_Kn s q.1 q.2.1 q.2.2 (dC k) (dI k) := by
  obtain ⟨c0, i0, h0⟩ := u_known (C := RX0) (T := TX0) (N := 7) (n := 7) hts inU_X0 (hts _ wins_X0)
  obtain ⟨c1, i1, h1⟩ := u_known (C := RX1) (T := TX1) (N := 8) (n := 8) hts inU_X1 (hts _ wins_X1)
  obtain ⟨c2, i2, h2⟩ := u_known (C := RX2) (T := TX2) (N := 4) (n := 4) hts inU_X2 (hts _ wins_X2)
  obtain ⟨c3, i3, h3⟩ := u_known (C := RX3) (T := TX3) (N := 6) (n := 6) hts inU_X3 (hts _ wins_X3)
  obtain ⟨c4, i4, h4⟩ := u_known (C := RX4) (T := TX4) (N := 4) (n := 4) hts inU_X4 (hts _ wins_X4)
  obtain ⟨c5, i5, h5⟩ := u_known (C := RX5) (T := TX5) (N := 4) (n := 4) hts inU_X5 (hts _ wins_X5)
  obtain ⟨c6, i6, h6⟩ := u_known (C := RX6) (T := TX6) (N := 6) (n := 6) hts inU_X6 (hts _ wins_X6)
  obtain ⟨c7, i7, h7⟩ := u_known (C := RX7) (T := TX7) (N := 9) (n := 9) hts inU_X7 (hts _ wins_X7)
  obtain ⟨c8, i8, h8⟩ := u_known (C := RX8) (T := TX8) (N := 8) (n := 8) hts inU_X8 (hts _ wins_X8)
  obtain ⟨c9, i9, h9⟩ := u_known (C := RX9) (T := TX9) (N := 16) (n := 16) hts inU_X9 (hts _ wins_X9)
  obtain ⟨c10, i10, h10⟩ := u_known (C := RX10) (T := TX10) (N := 54) (n := 54) hts inU_X10 (hts _ wins_X10)
  refine ⟨fun k => ([c0, c1, c2, c3, c4, c5, c6, c7, c8, c9, c10] : List ClassId).getD k c0, fun k => ([i0, i1, i2, i3, i4, i5, i6, i7, i8, i9, i10] : List (Nat → Nat)).getD k i0, fun k q hq => ?_⟩
  match k, hq with
  | 0, hq => cases hq; exact h0
  | 1, hq => cases hq; exact h1
  | 2, hq => cases hq; exact h2
  | 3, hq => cases hq; exact h3
  | 4, hq => cases hq; exact h4
  | 5, hq => cases hq; exact h5
  | 6, hq => cases hq; exact h6
  | 7, hq => cases hq; exact h7
  | 8, hq => cases hq; exact h8
  | 9, hq => cases hq; exact h9
  | 10, hq => cases hq; exact h10
  | k + 11, hq => cases hq
section LST
variable {p : Program} {l : Launch} {e : Env} {s : State} {m : MethodId} {below : List Frame} {meth : Method} {c : Code} {Q : State → Prop} {b L : Nat} {xs : Nat → Int32} {D : va_G} {cA : Nat → ClassId} {ad : Nat → Nat} {AA : Nat → Prop} {args : Array Value}
set_option maxRecDepth 100000 in
set_option maxHeartbeats 4000000 in
/-- the entry: both objects and the row are made -/
theorem law_entry (hT : gThT (gEXv L xs) l) (hC : gCx p s m args meth c cL_law_ 8 RL (some .boolean) D gCl cA AA gU) (hEX : gEXv L xs ad AA s s.heap) (hNe : gNest s) (had : ∀ h, h < 82 → ad h = s.heap.size + h) (hAA : ∀ q, AA q → s.heap.size ≤ q) {ls : Array Slot} (hl : lv_has ls 8 [(0, .ref (ad 4000000))])
    (kk : gAt p l e room_1 s m args below meth c 8 D gCl cA ad 82 AA (lawZ 1300) Q 23 (lL3 0 none none none) [] (lW (fun _ => 0) P9 cI9 cA9 (fun _ => 0) (iI cI1) iA)) : W p l e room_1 s m args below meth c s.heap [] 0 0 Q (F0 m 0 ls []) := by
  obtain ⟨hx, hb, hml, hown, hts, hK, hA, hrt, hlk⟩ := hC
  have hX := gEXv_ok L xs
  have hS := gEXv_str L xs
  have hZ := gEXv_x L xs
  have hnm0 : s.vm.findClass ("[" ++ FieldType.int.toString) = some (cA 0) := (hK.2 0 _ rfl).2
  have hnm1 : s.vm.findClass ("[" ++ FieldType.long.toString) = some (cA 1) := (hK.2 1 _ rfl).2
  have hR0 : gRelL D gCl cA ad s.heap.size AA s.heap ([] ++ ([] : List va_E)) s.heap [] := ⟨fun k q h => (by cases h), ⟨fun i j p q h => (by cases h), fun k q h => (by cases h)⟩, va_S.rf, rfl⟩
  refine gn_new (C := RX9) (T := TX9) (N := 16) (ci := 9) (k := 0) (cs0 := []) (lc := []) (lc' := [.inr (9, [.null, .null, .null, .null, .null, .null, .null, .null, .null, .null, .null, .null, .null, .int 0, .int 0, .int 0])]) (fs := [.null, .null, .null, .null, .null, .null, .null, .null, .null, .null, .null, .null, .null, .int 0, .int 0, .int 0]) hx hb hts inU_X9 tyX9 tyX9_ok hown (hts _ wl_RL_8) (hts _ wins_X9) (hts _ wi_CommaState) hK hA hR0 rfl rfl (had _ (by decide)) (df_X9 ad) rfl (Nat.le_of_ble_eq_true rfl) (Nat.le_of_ble_eq_true rfl) (by decide +kernel : decode cL_law_ 0 = .ok (.new 8, 3)) (fun H1 hR1 => ?_)
  refine lv_dup hx hb (by decide +kernel : decode cL_law_ 3 = .ok (.dup, 1)) rfl ?_
  refine gn_ctI hX (own := RL) (y := yX9_init) (k := 0) (cs0 := []) (lc := []) hml hx hb hown hts hA hK hEX hNe had (ct_X9 hX hS hZ hT ([] ++ []) (by decide)) wm_RL_108 wi_CommaState winstanceMethod_yX9_init wc_yX9_init rfl ⟨rfl, rfl⟩ (by decide +kernel) ⟨Nat.le_of_ble_eq_true rfl, Nat.le_of_ble_eq_true rfl⟩ rfl (lc2 := rf0) rf0_eq rfl hR1 hl.1 (Nat.le_of_ble_eq_true rfl) (by decide +kernel : decode cL_law_ 4 = .ok (.invokespecial 108, 3)) ⟨Nat.le_of_ble_eq_true rfl, Nat.le_of_ble_eq_true rfl⟩ (fun H2 L2 hR2 => ?_)
  refine lv_astore_n (lv' := [(1, .ref (ad 0)), (0, .ref (ad 4000000))]) hx hb (by decide +kernel : decode cL_law_ 7 = .ok (.astore_n 1, 1)) rfl hl (by decide) rfl (fun ls hl => ?_)
  have hR2 : gRelL D gCl cA ad s.heap.size AA s.heap (rf0 ++ ([] : List va_E)) H2 L2 := by rw [List.append_nil]; exact hR2
  have e52 : rf0.length + 0 = 52 := by rw [rf0_len]
  refine gn_new (C := RX10) (T := TX10) (N := 54) (ci := 10) (k := 0) (cs0 := rf0) (lc := []) (lc' := [.inr (10, [.int 0, .null, .int 0, .int 0, .int 0, .int 0, .int 0, .int 0, .int 0, .null, .null, .null, .null, .null, .null, .null, .int 0, .int 0, .int 0, .int 0, .int 0, .null, .null, .null, .null, .null, .int 0, .int 0, .null, .null, .null, .int 0, .int 0, .int 0, .int 0, .int 0, .int 0, .null, .null, .null, .null, .null, .null, .int 0, .null, .null, .null, .null, .null, .int 0, .int 0, .int 0, .null, .int 0])]) (fs := [.int 0, .null, .int 0, .int 0, .int 0, .int 0, .int 0, .int 0, .int 0, .null, .null, .null, .null, .null, .null, .null, .int 0, .int 0, .int 0, .int 0, .int 0, .null, .null, .null, .null, .null, .int 0, .int 0, .null, .null, .null, .int 0, .int 0, .int 0, .int 0, .int 0, .int 0, .null, .null, .null, .null, .null, .null, .int 0, .null, .null, .null, .null, .null, .int 0, .int 0, .int 0, .null, .int 0]) hx hb hts inU_X10 tyX10 tyX10_ok hown (hts _ wl_RL_109) (hts _ wins_X10) (hts _ wi_CommaStateModel) hK hA hR2 rfl rfl (had _ (by rw [e52]; decide)) (df_X10 ad) rfl (Nat.le_of_ble_eq_true rfl) (Nat.le_of_ble_eq_true rfl) (by decide +kernel : decode cL_law_ 8 = .ok (.new 109, 3)) (fun H3 hR3 => ?_)
  refine lv_dup hx hb (by decide +kernel : decode cL_law_ 11 = .ok (.dup, 1)) rfl ?_
  have e0 : (rf0 ++ ([] : List va_E)).length = 52 := by rw [List.append_nil, rf0_len]
  refine gn_ctI hX (own := RL) (y := yX10_init) (k := 0) (cs0 := rf0) (lc := []) hml hx hb hown hts hA hK hEX hNe had (ct_X10 hX hS hZ hT (rf0 ++ []) (by rw [e0]; decide)) wm_RL_111 wi_CommaStateModel winstanceMethod_yX10_init wc_yX10_init rfl ⟨rfl, rfl⟩ (by decide +kernel) ⟨Nat.le_of_ble_eq_true rfl, Nat.le_of_ble_eq_true rfl⟩ rfl (lc2 := rg0) (by rw [e0]; rfl) rfl hR3 hl.1 (Nat.le_of_ble_eq_true rfl) (by decide +kernel : decode cL_law_ 12 = .ok (.invokespecial 111, 3)) ⟨Nat.le_of_ble_eq_true rfl, Nat.le_of_ble_eq_true rfl⟩ (fun H4 L4 hR4 => ?_)
  rw [e52]
  refine lv_astore_n (lv' := [(2, .ref (ad 52)), (1, .ref (ad 0)), (0, .ref (ad 4000000))]) hx hb (by decide +kernel : decode cL_law_ 15 = .ok (.astore_n 2, 1)) rfl hl (by decide) rfl (fun ls hl => ?_)
  refine lv_iconst (v := 1) hx hb (by decide +kernel : decode cL_law_ 16 = .ok (.iconst 1, 1)) (by decide) ?_
  have e81 : (rf0 ++ rg0).length + 0 = 81 := by rw [List.length_append, rf0_len, rg0_len]
  have hR4 : gRelL D gCl cA ad s.heap.size AA s.heap ((rf0 ++ rg0) ++ ([] : List va_E)) H4 L4 := by rw [List.append_nil]; exact hR4
  refine gn_newa (ty := .long) (t := 1) (k := 0) (N := 1) (a0 := (1, .inr (.inl (fun _ => 0)))) (cs0 := rf0 ++ rg0) (lc := []) (lc' := [.inl (1, (1, .inr (.inl (fun _ => 0))))]) hx hb rfl (hts _ warr_long) hnm1 hA hR4 rfl (had _ (by rw [e81]; decide)) (fun _ => rfl) rfl (by decide) (by decide) (by decide) (Nat.le_of_ble_eq_true rfl) (Nat.le_of_ble_eq_true rfl) (by decide +kernel : decode cL_law_ 17 = .ok (.newarray .long, 2)) (fun H5 hR5 => ?_)
  rw [e81]
  refine lv_astore_n (lv' := [(3, .ref (ad 81)), (2, .ref (ad 52)), (1, .ref (ad 0)), (0, .ref (ad 4000000))]) hx hb (by decide +kernel : decode cL_law_ 19 = .ok (.astore_n 3, 1)) rfl hl (by decide) rfl (fun ls hl => ?_)
  refine lv_iconst (v := 0) hx hb (by decide +kernel : decode cL_law_ 20 = .ok (.iconst 0, 1)) (by decide) ?_
  refine lv_istore (lv' := [(4, .int 0), (3, .ref (ad 81)), (2, .ref (ad 52)), (1, .ref (ad 0)), (0, .ref (ad 4000000))]) hx hb (by decide +kernel : decode cL_law_ 21 = .ok (.istore 4, 2)) hl (by decide) rfl (fun ls hl => ?_)
  have hlen : ((rf0 ++ rg0) ++ ([.inl (1, (1, .inr (.inl (fun _ => 0))))] : List va_E)).length = 82 := by rw [List.length_append, List.length_append, rf0_len, rg0_len]; rfl
  have hrel : gRel D gCl cA ad 82 AA s.heap (gLst ((rf0 ++ rg0) ++ ([.inl (1, (1, .inr (.inl (fun _ => 0))))] : List va_E))) H5 L4 := by
    refine ⟨?_, ?_, ?_, hR5.2.2.1⟩
    · rw [← hlen]; exact gLst_dom _
    · rw [← hlen, gwl_eq]; exact hR5.1
    · rw [← hlen, gwl_eq]; exact hR5.2.1
  rw [gLst_lW rfl] at hrel
  have hfin := kk H5 L4 ls hrel ⟨hl.1, hl.2.1, fun i v hi => ?_⟩
  · refine W.widen ?_ ?_ hfin
    · rw [lz_23]; exact Nat.le_of_ble_eq_true rfl
    · rw [lz_23]; exact Nat.le_of_ble_eq_true rfl
  · match i, hi with
    | 0, hi => cases hi; exact lv_at hl 4 rfl
    | 1, hi => cases hi; exact lv_at hl 3 rfl
    | 2, hi => cases hi; exact lv_at hl 2 rfl
    | 3, hi => cases hi; exact lv_at hl 1 rfl
    | 4, hi => cases hi; exact lv_at hl 0 rfl
    | 5, hi => cases hi
    | 6, hi => cases hi
    | 7, hi => cases hi
    | i + 8, hi => cases hi
end LST
