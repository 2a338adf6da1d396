/-! ===== blocks ===== -/
set_option maxRecDepth 20000 in
theorem wb_S_status_0 {S : Nat → gS} (hm : ∀ k, gMono (gTab (tb_S_status S) k)) {Q : gQ} {X : gX} {H : gH} {x : Nat} {P : Nat → Nat} {I A : Nat → Nat → Int32} {v1 : Int32}
    (h : ((¬ v1 = 0 → ((¬ v1 = 1 → gWp (gTab (tb_S_status S)) Q X 22 [some (.ref (x + 0)), some (.int v1)] [.int ((-1))] (gset H x cck P I A)) ∧ (¬ (¬ v1 = 1) → gWp (gTab (tb_S_status S)) Q X 22 [some (.ref (x + 0)), some (.int v1)] [.int (I 0 15)] (gset H x cck P I A)))) ∧ (¬ (¬ v1 = 0) → Q (some (.int (I 0 14))) (gset H x cck P I A)))) :
    gWp (gTab (tb_S_status S)) Q X 0 [some (.ref (x + 0)), some (.int v1)] [] (gset H x cck P I A) :=
  x_iload hm (show gTab (tb_S_status S) 0 = gi_iload 1 1 from rfl) rfl (x_if hm (show gTab (tb_S_status S) 1 = gi_if 4 9 (fun x => ¬ x = 0) from rfl) (fun c0 => x_iload hm (show gTab (tb_S_status S) 9 = gi_iload 10 1 from rfl) rfl (x_st hm (show gTab (tb_S_status S) 10 = gi_st 11 (gf_push (.int 1)) from rfl) rfl (x_icmp hm (show gTab (tb_S_status S) 11 = gi_icmp 14 21 (fun x y => ¬ x = y) from rfl) (fun c1 => x_st hm (show gTab (tb_S_status S) 21 = gi_st 22 (gf_push (.int (-1))) from rfl) rfl (((h.1 c0).1 c1))) (fun c1 => x_aload hm (show gTab (tb_S_status S) 14 = gi_aload 15 0 from rfl) rfl (x_get hm (show gTab (tb_S_status S) 15 = gi_get 18 9 15 from rfl) (o := 0) rfl rfl (x_goto hm (show gTab (tb_S_status S) 18 = gi_goto 22 from rfl) (((h.1 c0).2 c1)))))))) (fun c0 => x_aload hm (show gTab (tb_S_status S) 4 = gi_aload 5 0 from rfl) rfl (x_get hm (show gTab (tb_S_status S) 5 = gi_get 8 9 14 from rfl) (o := 0) rfl rfl (x_iret hm (show gTab (tb_S_status S) 8 = gi_iret from rfl) (h.2 c0)))))
set_option maxRecDepth 20000 in
theorem wb_S_status_22 {S : Nat → gS} (hm : ∀ k, gMono (gTab (tb_S_status S) k)) {Q : gQ} {X : gX} {H : gH} {x : Nat} {P : Nat → Nat} {I A : Nat → Nat → Int32} {s0 : Int32} {v1 : Int32}
    (h : Q (some (.int s0)) (gset H x cck P I A)) :
    gWp (gTab (tb_S_status S)) Q X 22 [some (.ref (x + 0)), some (.int v1)] [.int s0] (gset H x cck P I A) :=
  x_iret hm (show gTab (tb_S_status S) 22 = gi_iret from rfl) h
set_option maxRecDepth 20000 in
theorem me_S_status {d : Nat} {Q : gQ} {X : gX} {H : gH} {x : Nat} {v1 : Int32} (h : gWp (gTab (tb_S_status (meth d))) Q X 0 [some (.ref (x + 0)), some (.int v1)] [] H) : meth (d + 1) 135 [.ref (x + 0), .int v1] H Q X := (show _ ∧ _ from ⟨Nat.le_of_ble_eq_true rfl, h⟩)
set_option maxRecDepth 20000 in
theorem wb_S_count_0 {S : Nat → gS} (hm : ∀ k, gMono (gTab (tb_S_count S) k)) {Q : gQ} {X : gX} {H : gH} {x : Nat} {P : Nat → Nat} {I A : Nat → Nat → Int32} {v1 : Int32}
    (h : gWp (gTab (tb_S_count S)) Q X (if v1.toInt < 0 ∨ 0 + (([28, 36, 44] : List Nat).length : Int) ≤ v1.toInt then 52 else ([28, 36, 44] : List Nat).getD (v1.toInt - 0).toNat 52) [some (.ref (x + 0)), some (.int v1)] [] (gset H x cck P I A)) :
    gWp (gTab (tb_S_count S)) Q X 0 [some (.ref (x + 0)), some (.int v1)] [] (gset H x cck P I A) :=
  x_iload hm (show gTab (tb_S_count S) 0 = gi_iload 1 1 from rfl) rfl (x_tsw hm (show gTab (tb_S_count S) 1 = gi_tsw 0 [28, 36, 44] 52 from rfl) h)
set_option maxRecDepth 20000 in
theorem wb_S_count_28 {S : Nat → gS} (hm : ∀ k, gMono (gTab (tb_S_count S) k)) {Q : gQ} {X : gX} {H : gH} {x : Nat} {P : Nat → Nat} {I A : Nat → Nat → Int32} {v1 : Int32}
    (h : Q (some (.int (I 40 3))) (gset H x cck P I A)) :
    gWp (gTab (tb_S_count S)) Q X 28 [some (.ref (x + 0)), some (.int v1)] [] (gset H x cck P I A) :=
  x_aload hm (show gTab (tb_S_count S) 28 = gi_aload 29 0 from rfl) rfl (x_get hm (show gTab (tb_S_count S) 29 = gi_get 32 9 10 from rfl) (o := 0) rfl rfl (x_get hm (show gTab (tb_S_count S) 32 = gi_get 35 5 3 from rfl) (o := 40) rfl rfl (x_iret hm (show gTab (tb_S_count S) 35 = gi_iret from rfl) h)))
set_option maxRecDepth 20000 in
theorem wb_S_count_36 {S : Nat → gS} (hm : ∀ k, gMono (gTab (tb_S_count S) k)) {Q : gQ} {X : gX} {H : gH} {x : Nat} {P : Nat → Nat} {I A : Nat → Nat → Int32} {v1 : Int32}
    (h : Q (some (.int (I 1 1))) (gset H x cck P I A)) :
    gWp (gTab (tb_S_count S)) Q X 36 [some (.ref (x + 0)), some (.int v1)] [] (gset H x cck P I A) :=
  x_aload hm (show gTab (tb_S_count S) 36 = gi_aload 37 0 from rfl) rfl (x_get hm (show gTab (tb_S_count S) 37 = gi_get 40 9 0 from rfl) (o := 0) rfl rfl (x_get hm (show gTab (tb_S_count S) 40 = gi_get 43 7 1 from rfl) (o := 1) rfl rfl (x_iret hm (show gTab (tb_S_count S) 43 = gi_iret from rfl) h)))
set_option maxRecDepth 20000 in
theorem wb_S_count_44 {S : Nat → gS} (hm : ∀ k, gMono (gTab (tb_S_count S) k)) {Q : gQ} {X : gX} {H : gH} {x : Nat} {P : Nat → Nat} {I A : Nat → Nat → Int32} {v1 : Int32}
    (h : Q (some (.int (I 40 2))) (gset H x cck P I A)) :
    gWp (gTab (tb_S_count S)) Q X 44 [some (.ref (x + 0)), some (.int v1)] [] (gset H x cck P I A) :=
  x_aload hm (show gTab (tb_S_count S) 44 = gi_aload 45 0 from rfl) rfl (x_get hm (show gTab (tb_S_count S) 45 = gi_get 48 9 10 from rfl) (o := 0) rfl rfl (x_get hm (show gTab (tb_S_count S) 48 = gi_get 51 5 2 from rfl) (o := 40) rfl rfl (x_iret hm (show gTab (tb_S_count S) 51 = gi_iret from rfl) h)))
set_option maxRecDepth 20000 in
theorem wb_S_count_52 {S : Nat → gS} (hm : ∀ k, gMono (gTab (tb_S_count S) k)) {Q : gQ} {X : gX} {H : gH} {x : Nat} {P : Nat → Nat} {I A : Nat → Nat → Int32} {v1 : Int32}
    (h : Q (some (.int ((-1)))) (gset H x cck P I A)) :
    gWp (gTab (tb_S_count S)) Q X 52 [some (.ref (x + 0)), some (.int v1)] [] (gset H x cck P I A) :=
  x_st hm (show gTab (tb_S_count S) 52 = gi_st 53 (gf_push (.int (-1))) from rfl) rfl (x_iret hm (show gTab (tb_S_count S) 53 = gi_iret from rfl) h)
set_option maxRecDepth 20000 in
theorem me_S_count {d : Nat} {Q : gQ} {X : gX} {H : gH} {x : Nat} {v1 : Int32} (h : gWp (gTab (tb_S_count (meth d))) Q X 0 [some (.ref (x + 0)), some (.int v1)] [] H) : meth (d + 1) 136 [.ref (x + 0), .int v1] H Q X := (show _ ∧ _ from ⟨Nat.le_of_ble_eq_true rfl, h⟩)
set_option maxRecDepth 20000 in
theorem wb_S_within_0 {S : Nat → gS} (hm : ∀ k, gMono (gTab (tb_S_within S) k)) {Q : gQ} {X : gX} {H : gH} {x : Nat} {P : Nat → Nat} {I A : Nat → Nat → Int32} {v0 : Int32} {v1 : Int32} {v2 : Int32}
    (h : ((v0 < v1 → gWp (gTab (tb_S_within S)) Q X 14 [some (.int v0), some (.int v1), some (.int v2)] [] (gset H x cck P I A)) ∧ (¬ (v0 < v1) → ((v2 < v0 → gWp (gTab (tb_S_within S)) Q X 14 [some (.int v0), some (.int v1), some (.int v2)] [] (gset H x cck P I A)) ∧ (¬ (v2 < v0) → gWp (gTab (tb_S_within S)) Q X 15 [some (.int v0), some (.int v1), some (.int v2)] [.int 1] (gset H x cck P I A)))))) :
    gWp (gTab (tb_S_within S)) Q X 0 [some (.int v0), some (.int v1), some (.int v2)] [] (gset H x cck P I A) :=
  x_iload hm (show gTab (tb_S_within S) 0 = gi_iload 1 0 from rfl) rfl (x_iload hm (show gTab (tb_S_within S) 1 = gi_iload 2 1 from rfl) rfl (x_icmp hm (show gTab (tb_S_within S) 2 = gi_icmp 5 14 (fun x y => x < y) from rfl) (fun c0 => (h.1 c0)) (fun c0 => x_iload hm (show gTab (tb_S_within S) 5 = gi_iload 6 0 from rfl) rfl (x_iload hm (show gTab (tb_S_within S) 6 = gi_iload 7 2 from rfl) rfl (x_icmp hm (show gTab (tb_S_within S) 7 = gi_icmp 10 14 (fun x y => y < x) from rfl) (fun c1 => ((h.2 c0).1 c1)) (fun c1 => x_st hm (show gTab (tb_S_within S) 10 = gi_st 11 (gf_push (.int 1)) from rfl) rfl (x_goto hm (show gTab (tb_S_within S) 11 = gi_goto 15 from rfl) (((h.2 c0).2 c1)))))))))
set_option maxRecDepth 20000 in
theorem wb_S_within_14 {S : Nat → gS} (hm : ∀ k, gMono (gTab (tb_S_within S) k)) {Q : gQ} {X : gX} {H : gH} {x : Nat} {P : Nat → Nat} {I A : Nat → Nat → Int32} {v0 : Int32} {v1 : Int32} {v2 : Int32}
    (h : gWp (gTab (tb_S_within S)) Q X 15 [some (.int v0), some (.int v1), some (.int v2)] [.int 0] (gset H x cck P I A)) :
    gWp (gTab (tb_S_within S)) Q X 14 [some (.int v0), some (.int v1), some (.int v2)] [] (gset H x cck P I A) :=
  x_st hm (show gTab (tb_S_within S) 14 = gi_st 15 (gf_push (.int 0)) from rfl) rfl (h)
set_option maxRecDepth 20000 in
theorem wb_S_within_15 {S : Nat → gS} (hm : ∀ k, gMono (gTab (tb_S_within S) k)) {Q : gQ} {X : gX} {H : gH} {x : Nat} {P : Nat → Nat} {I A : Nat → Nat → Int32} {s0 : Int32} {v0 : Int32} {v1 : Int32} {v2 : Int32}
    (h : (narrow .boolean (.int s0) = .int s0 ∧ Q (some (.int s0)) (gset H x cck P I A))) :
    gWp (gTab (tb_S_within S)) Q X 15 [some (.int v0), some (.int v1), some (.int v2)] [.int s0] (gset H x cck P I A) :=
  x_zret hm (show gTab (tb_S_within S) 15 = gi_zret .boolean from rfl) h.1 h.2
set_option maxRecDepth 20000 in
theorem me_S_within {d : Nat} {Q : gQ} {X : gX} {H : gH} {v0 : Int32} {v1 : Int32} {v2 : Int32} (h : gWp (gTab (tb_S_within (meth d))) Q X 0 [some (.int v0), some (.int v1), some (.int v2)] [] H) : meth (d + 1) 137 [.int v0, .int v1, .int v2] H Q X := (show _ ∧ _ from ⟨Nat.le_of_ble_eq_true rfl, h⟩)
set_option maxRecDepth 20000 in
theorem wb_S_need_0 {S : Nat → gS} (hm : ∀ k, gMono (gTab (tb_S_need S) k)) {Q : gQ} {X : gX} {H : gH} {x : Nat} {P : Nat → Nat} {I A : Nat → Nat → Int32} {v1 : Int32}
    (h : ((¬ v1 = 0 → Q none (gset H x cck P I A)) ∧ (¬ (¬ v1 = 0) → X "java/lang/IllegalArgumentException" (gset H x cck P (upI I 0 15 ((I 0 15) + 1)) A)))) :
    gWp (gTab (tb_S_need S)) Q X 0 [some (.ref (x + 0)), some (.int v1)] [] (gset H x cck P I A) :=
  x_iload hm (show gTab (tb_S_need S) 0 = gi_iload 1 1 from rfl) rfl (x_if hm (show gTab (tb_S_need S) 1 = gi_if 4 25 (fun x => ¬ x = 0) from rfl) (fun c0 => x_vret hm (show gTab (tb_S_need S) 25 = gi_vret from rfl) (h.1 c0)) (fun c0 => x_aload hm (show gTab (tb_S_need S) 4 = gi_aload 5 0 from rfl) rfl (x_st hm (show gTab (tb_S_need S) 5 = gi_st 6 gf_dup from rfl) rfl (x_get hm (show gTab (tb_S_need S) 6 = gi_get 9 9 15 from rfl) (o := 0) rfl rfl (x_st hm (show gTab (tb_S_need S) 9 = gi_st 10 (gf_push (.int 1)) from rfl) rfl (x_st hm (show gTab (tb_S_need S) 10 = gi_st 11 (gf_i2 (fun x y => x + y)) from rfl) rfl (x_puti hm (show gTab (tb_S_need S) 11 = gi_puti 14 9 15 from rfl) (o := 0) rfl rfl cp_9_15 (x_throw hm (show gTab (tb_S_need S) 14 = gi_throw "java/lang/IllegalArgumentException" from rfl) (h.2 c0)))))))))
set_option maxRecDepth 20000 in
theorem me_S_need {d : Nat} {Q : gQ} {X : gX} {H : gH} {x : Nat} {v1 : Int32} (h : gWp (gTab (tb_S_need (meth d))) Q X 0 [some (.ref (x + 0)), some (.int v1)] [] H) : meth (d + 1) 138 [.ref (x + 0), .int v1] H Q X := (show _ ∧ _ from ⟨Nat.le_of_ble_eq_true rfl, h⟩)
set_option maxRecDepth 20000 in
theorem wb_S_needSuch_0 {S : Nat → gS} (hm : ∀ k, gMono (gTab (tb_S_needSuch S) k)) {Q : gQ} {X : gX} {H : gH} {x : Nat} {P : Nat → Nat} {I A : Nat → Nat → Int32} {v1 : Int32}
    (h : ((¬ v1 = 0 → Q none (gset H x cck P I A)) ∧ (¬ (¬ v1 = 0) → X "java/util/NoSuchElementException" (gset H x cck P (upI I 0 14 ((I 0 14) + 1)) A)))) :
    gWp (gTab (tb_S_needSuch S)) Q X 0 [some (.ref (x + 0)), some (.int v1)] [] (gset H x cck P I A) :=
  x_iload hm (show gTab (tb_S_needSuch S) 0 = gi_iload 1 1 from rfl) rfl (x_if hm (show gTab (tb_S_needSuch S) 1 = gi_if 4 25 (fun x => ¬ x = 0) from rfl) (fun c0 => x_vret hm (show gTab (tb_S_needSuch S) 25 = gi_vret from rfl) (h.1 c0)) (fun c0 => x_aload hm (show gTab (tb_S_needSuch S) 4 = gi_aload 5 0 from rfl) rfl (x_st hm (show gTab (tb_S_needSuch S) 5 = gi_st 6 gf_dup from rfl) rfl (x_get hm (show gTab (tb_S_needSuch S) 6 = gi_get 9 9 14 from rfl) (o := 0) rfl rfl (x_st hm (show gTab (tb_S_needSuch S) 9 = gi_st 10 (gf_push (.int 1)) from rfl) rfl (x_st hm (show gTab (tb_S_needSuch S) 10 = gi_st 11 (gf_i2 (fun x y => x + y)) from rfl) rfl (x_puti hm (show gTab (tb_S_needSuch S) 11 = gi_puti 14 9 14 from rfl) (o := 0) rfl rfl cp_9_14 (x_throw hm (show gTab (tb_S_needSuch S) 14 = gi_throw "java/util/NoSuchElementException" from rfl) (h.2 c0)))))))))
set_option maxRecDepth 20000 in
theorem me_S_needSuch {d : Nat} {Q : gQ} {X : gX} {H : gH} {x : Nat} {v1 : Int32} (h : gWp (gTab (tb_S_needSuch (meth d))) Q X 0 [some (.ref (x + 0)), some (.int v1)] [] H) : meth (d + 1) 139 [.ref (x + 0), .int v1] H Q X := (show _ ∧ _ from ⟨Nat.le_of_ble_eq_true rfl, h⟩)
set_option maxRecDepth 20000 in
theorem wb_S_needTown_0 {S : Nat → gS} (hm : ∀ k, gMono (gTab (tb_S_needTown S) k)) {Q : gQ} {X : gX} {H : gH} {x : Nat} {P : Nat → Nat} {I A : Nat → Nat → Int32} {v1 : Int32} (hP1 : cck (P 1) = (3 + 2, 0))
    (h : S 137 [.int v1, .int 0, .int ((I (P 1) 0) - 1)] (gset H x cck P I A) (fun r H' => gWp (gTab (tb_S_needTown S)) Q X 15 [some (.ref (x + 0)), some (.int v1)] (r.toList ++ [.ref (x + 0)]) H') X) :
    gWp (gTab (tb_S_needTown S)) Q X 0 [some (.ref (x + 0)), some (.int v1)] [] (gset H x cck P I A) :=
  x_aload hm (show gTab (tb_S_needTown S) 0 = gi_aload 1 0 from rfl) rfl (x_iload hm (show gTab (tb_S_needTown S) 1 = gi_iload 2 1 from rfl) rfl (x_st hm (show gTab (tb_S_needTown S) 2 = gi_st 3 (gf_push (.int 0)) from rfl) rfl (x_aload hm (show gTab (tb_S_needTown S) 3 = gi_aload 4 0 from rfl) rfl (x_get hm (show gTab (tb_S_needTown S) 4 = gi_get 7 9 1 from rfl) (o := 0) rfl rfl (x_get hm (show gTab (tb_S_needTown S) 7 = gi_get 10 3 0 from rfl) (o := (P 1)) hP1 rfl (x_st hm (show gTab (tb_S_needTown S) 10 = gi_st 11 (gf_push (.int 1)) from rfl) rfl (x_st hm (show gTab (tb_S_needTown S) 11 = gi_st 12 (gf_i2 (fun x y => x - y)) from rfl) rfl (x_calls hm (show gTab (tb_S_needTown S) 12 = gi_calls (S 137) 15 3 from rfl) (as := [.int v1, .int 0, .int ((I (P 1) 0) - 1)]) (rest := [.ref (x + 0)]) rfl rfl (Nat.le_of_ble_eq_true rfl) (Nat.le_of_ble_eq_true rfl) h))))))))
set_option maxRecDepth 20000 in
theorem wb_S_needTown_15 {S : Nat → gS} (hm : ∀ k, gMono (gTab (tb_S_needTown S) k)) {Q : gQ} {X : gX} {H : gH} {x : Nat} {P : Nat → Nat} {I A : Nat → Nat → Int32} {s1 : Int32} {v1 : Int32}
    (h : S 139 [.ref (x + 0), .int s1] (gset H x cck P I A) (fun r H' => gWp (gTab (tb_S_needTown S)) Q X 18 [some (.ref (x + 0)), some (.int v1)] (r.toList ++ []) H') X) :
    gWp (gTab (tb_S_needTown S)) Q X 15 [some (.ref (x + 0)), some (.int v1)] [.int s1, .ref (x + 0)] (gset H x cck P I A) :=
  x_callv hm (show gTab (tb_S_needTown S) 15 = gi_callv (S 139) 9 18 2 from rfl) (o := 0) (as := [.int s1]) (rest := []) rfl rfl (Nat.le_of_ble_eq_true rfl) (Nat.le_of_ble_eq_true rfl) rfl h
set_option maxRecDepth 20000 in
theorem wb_S_needTown_18 {S : Nat → gS} (hm : ∀ k, gMono (gTab (tb_S_needTown S) k)) {Q : gQ} {X : gX} {H : gH} {x : Nat} {P : Nat → Nat} {I A : Nat → Nat → Int32} {v1 : Int32}
    (h : Q none (gset H x cck P I A)) :
    gWp (gTab (tb_S_needTown S)) Q X 18 [some (.ref (x + 0)), some (.int v1)] [] (gset H x cck P I A) :=
  x_vret hm (show gTab (tb_S_needTown S) 18 = gi_vret from rfl) h
set_option maxRecDepth 20000 in
theorem me_S_needTown {d : Nat} {Q : gQ} {X : gX} {H : gH} {x : Nat} {v1 : Int32} (h : gWp (gTab (tb_S_needTown (meth d))) Q X 0 [some (.ref (x + 0)), some (.int v1)] [] H) : meth (d + 1) 140 [.ref (x + 0), .int v1] H Q X := (show _ ∧ _ from ⟨Nat.le_of_ble_eq_true rfl, h⟩)
set_option maxRecDepth 20000 in
theorem wb_S_needText_0 {S : Nat → gS} (hm : ∀ k, gMono (gTab (tb_S_needText S) k)) {Q : gQ} {X : gX} {H : gH} {x : Nat} {P : Nat → Nat} {I A : Nat → Nat → Int32} {v1 : Int32} {v2 : Int32}
    (h : S 137 [.int v1, .int 0, .int (gmin v2 (I 1 1))] (gset H x cck P I A) (fun r H' => gWp (gTab (tb_S_needText S)) Q X 17 [some (.ref (x + 0)), some (.int v1), some (.int v2)] (r.toList ++ [.ref (x + 0)]) H') X) :
    gWp (gTab (tb_S_needText S)) Q X 0 [some (.ref (x + 0)), some (.int v1), some (.int v2)] [] (gset H x cck P I A) :=
  x_aload hm (show gTab (tb_S_needText S) 0 = gi_aload 1 0 from rfl) rfl (x_iload hm (show gTab (tb_S_needText S) 1 = gi_iload 2 1 from rfl) rfl (x_st hm (show gTab (tb_S_needText S) 2 = gi_st 3 (gf_push (.int 0)) from rfl) rfl (x_iload hm (show gTab (tb_S_needText S) 3 = gi_iload 4 2 from rfl) rfl (x_aload hm (show gTab (tb_S_needText S) 4 = gi_aload 5 0 from rfl) rfl (x_get hm (show gTab (tb_S_needText S) 5 = gi_get 8 9 0 from rfl) (o := 0) rfl rfl (x_get hm (show gTab (tb_S_needText S) 8 = gi_get 11 7 1 from rfl) (o := 1) rfl rfl (x_st hm (show gTab (tb_S_needText S) 11 = gi_st 14 (gf_m2 gmin) from rfl) rfl (x_calls hm (show gTab (tb_S_needText S) 14 = gi_calls (S 137) 17 3 from rfl) (as := [.int v1, .int 0, .int (gmin v2 (I 1 1))]) (rest := [.ref (x + 0)]) rfl rfl (Nat.le_of_ble_eq_true rfl) (Nat.le_of_ble_eq_true rfl) h))))))))
set_option maxRecDepth 20000 in
theorem wb_S_needText_17 {S : Nat → gS} (hm : ∀ k, gMono (gTab (tb_S_needText S) k)) {Q : gQ} {X : gX} {H : gH} {x : Nat} {P : Nat → Nat} {I A : Nat → Nat → Int32} {s1 : Int32} {v1 : Int32} {v2 : Int32}
    (h : S 138 [.ref (x + 0), .int s1] (gset H x cck P I A) (fun r H' => gWp (gTab (tb_S_needText S)) Q X 20 [some (.ref (x + 0)), some (.int v1), some (.int v2)] (r.toList ++ []) H') X) :
    gWp (gTab (tb_S_needText S)) Q X 17 [some (.ref (x + 0)), some (.int v1), some (.int v2)] [.int s1, .ref (x + 0)] (gset H x cck P I A) :=
  x_callv hm (show gTab (tb_S_needText S) 17 = gi_callv (S 138) 9 20 2 from rfl) (o := 0) (as := [.int s1]) (rest := []) rfl rfl (Nat.le_of_ble_eq_true rfl) (Nat.le_of_ble_eq_true rfl) rfl h
set_option maxRecDepth 20000 in
theorem wb_S_needText_20 {S : Nat → gS} (hm : ∀ k, gMono (gTab (tb_S_needText S) k)) {Q : gQ} {X : gX} {H : gH} {x : Nat} {P : Nat → Nat} {I A : Nat → Nat → Int32} {v1 : Int32} {v2 : Int32}
    (h : Q none (gset H x cck P I A)) :
    gWp (gTab (tb_S_needText S)) Q X 20 [some (.ref (x + 0)), some (.int v1), some (.int v2)] [] (gset H x cck P I A) :=
  x_vret hm (show gTab (tb_S_needText S) 20 = gi_vret from rfl) h
set_option maxRecDepth 20000 in
theorem me_S_needText {d : Nat} {Q : gQ} {X : gX} {H : gH} {x : Nat} {v1 : Int32} {v2 : Int32} (h : gWp (gTab (tb_S_needText (meth d))) Q X 0 [some (.ref (x + 0)), some (.int v1), some (.int v2)] [] H) : meth (d + 1) 141 [.ref (x + 0), .int v1, .int v2] H Q X := (show _ ∧ _ from ⟨Nat.le_of_ble_eq_true rfl, h⟩)
