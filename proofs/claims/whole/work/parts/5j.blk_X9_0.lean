/-! ===== blocks ===== -/
set_option maxRecDepth 20000 in
theorem wb_S_feed_0 {S : Nat → gS} (hm : ∀ k, gMono (gTab (tb_S_feed S) k)) {Q : gQ} {X : gX} {H : gH} {x : Nat} {P : Nat → Nat} {I A : Nat → Nat → Int32} {v1 : Int32} {v2 : Int32} {v3 : Int32} {v4 : Int32} {v5 : Int32}
    (h : ((((I 1 1) + 20) ≤ 600 → S 65 [.ref (x + 1), .int v1] (gset H x cck P I A) (fun r H' => gWp (gTab (tb_S_feed S)) Q X 26 [some (.ref (x + 0)), some (.int v1), some (.int v2), some (.int v3), some (.int v4), some (.int v5)] (r.toList ++ []) H') X) ∧ (¬ (((I 1 1) + 20) ≤ 600) → Q (some (.int ((-1)))) (gset H x cck P I A)))) :
    gWp (gTab (tb_S_feed S)) Q X 0 [some (.ref (x + 0)), some (.int v1), some (.int v2), some (.int v3), some (.int v4), some (.int v5)] [] (gset H x cck P I A) :=
  x_aload hm (show gTab (tb_S_feed S) 0 = gi_aload 1 0 from rfl) rfl (x_get hm (show gTab (tb_S_feed S) 1 = gi_get 4 9 0 from rfl) (o := 0) rfl rfl (x_get hm (show gTab (tb_S_feed S) 4 = gi_get 7 7 1 from rfl) (o := 1) rfl rfl (x_st hm (show gTab (tb_S_feed S) 7 = gi_st 9 (gf_push (.int 20)) from rfl) rfl (x_st hm (show gTab (tb_S_feed S) 9 = gi_st 10 (gf_i2 (fun x y => x + y)) from rfl) rfl (x_st hm (show gTab (tb_S_feed S) 10 = gi_st 13 (gf_push (.int 600)) from rfl) rfl (x_icmp hm (show gTab (tb_S_feed S) 13 = gi_icmp 16 18 (fun x y => x ≤ y) from rfl) (fun c0 => x_aload hm (show gTab (tb_S_feed S) 18 = gi_aload 19 0 from rfl) rfl (x_get hm (show gTab (tb_S_feed S) 19 = gi_get 22 9 0 from rfl) (o := 0) rfl rfl (x_iload hm (show gTab (tb_S_feed S) 22 = gi_iload 23 1 from rfl) rfl (x_callv hm (show gTab (tb_S_feed S) 23 = gi_callv (S 65) 7 26 2 from rfl) (o := 1) (as := [.int v1]) (rest := []) rfl rfl (Nat.le_of_ble_eq_true rfl) (Nat.le_of_ble_eq_true rfl) rfl (h.1 c0))))) (fun c0 => x_st hm (show gTab (tb_S_feed S) 16 = gi_st 17 (gf_push (.int (-1))) from rfl) rfl (x_iret hm (show gTab (tb_S_feed S) 17 = gi_iret from rfl) (h.2 c0)))))))))
set_option maxRecDepth 20000 in
theorem wb_S_feed_26 {S : Nat → gS} (hm : ∀ k, gMono (gTab (tb_S_feed S) k)) {Q : gQ} {X : gX} {H : gH} {x : Nat} {P : Nat → Nat} {I A : Nat → Nat → Int32} {v1 : Int32} {v2 : Int32} {v3 : Int32} {v4 : Int32} {v5 : Int32}
    (h : S 65 [.ref (x + 1), .int v2] (gset H x cck P I A) (fun r H' => gWp (gTab (tb_S_feed S)) Q X 34 [some (.ref (x + 0)), some (.int v1), some (.int v2), some (.int v3), some (.int v4), some (.int v5)] (r.toList ++ []) H') X) :
    gWp (gTab (tb_S_feed S)) Q X 26 [some (.ref (x + 0)), some (.int v1), some (.int v2), some (.int v3), some (.int v4), some (.int v5)] [] (gset H x cck P I A) :=
  x_aload hm (show gTab (tb_S_feed S) 26 = gi_aload 27 0 from rfl) rfl (x_get hm (show gTab (tb_S_feed S) 27 = gi_get 30 9 0 from rfl) (o := 0) rfl rfl (x_iload hm (show gTab (tb_S_feed S) 30 = gi_iload 31 2 from rfl) rfl (x_callv hm (show gTab (tb_S_feed S) 31 = gi_callv (S 65) 7 34 2 from rfl) (o := 1) (as := [.int v2]) (rest := []) rfl rfl (Nat.le_of_ble_eq_true rfl) (Nat.le_of_ble_eq_true rfl) rfl h)))
set_option maxRecDepth 20000 in
theorem wb_S_feed_34 {S : Nat → gS} (hm : ∀ k, gMono (gTab (tb_S_feed S) k)) {Q : gQ} {X : gX} {H : gH} {x : Nat} {P : Nat → Nat} {I A : Nat → Nat → Int32} {v1 : Int32} {v2 : Int32} {v3 : Int32} {v4 : Int32} {v5 : Int32}
    (h : S 65 [.ref (x + 1), .int v3] (gset H x cck P I A) (fun r H' => gWp (gTab (tb_S_feed S)) Q X 42 [some (.ref (x + 0)), some (.int v1), some (.int v2), some (.int v3), some (.int v4), some (.int v5)] (r.toList ++ []) H') X) :
    gWp (gTab (tb_S_feed S)) Q X 34 [some (.ref (x + 0)), some (.int v1), some (.int v2), some (.int v3), some (.int v4), some (.int v5)] [] (gset H x cck P I A) :=
  x_aload hm (show gTab (tb_S_feed S) 34 = gi_aload 35 0 from rfl) rfl (x_get hm (show gTab (tb_S_feed S) 35 = gi_get 38 9 0 from rfl) (o := 0) rfl rfl (x_iload hm (show gTab (tb_S_feed S) 38 = gi_iload 39 3 from rfl) rfl (x_callv hm (show gTab (tb_S_feed S) 39 = gi_callv (S 65) 7 42 2 from rfl) (o := 1) (as := [.int v3]) (rest := []) rfl rfl (Nat.le_of_ble_eq_true rfl) (Nat.le_of_ble_eq_true rfl) rfl h)))
set_option maxRecDepth 20000 in
theorem wb_S_feed_42 {S : Nat → gS} (hm : ∀ k, gMono (gTab (tb_S_feed S) k)) {Q : gQ} {X : gX} {H : gH} {x : Nat} {P : Nat → Nat} {I A : Nat → Nat → Int32} {v1 : Int32} {v2 : Int32} {v3 : Int32} {v4 : Int32} {v5 : Int32}
    (h : S 65 [.ref (x + 1), .int v4] (gset H x cck P I A) (fun r H' => gWp (gTab (tb_S_feed S)) Q X 51 [some (.ref (x + 0)), some (.int v1), some (.int v2), some (.int v3), some (.int v4), some (.int v5)] (r.toList ++ []) H') X) :
    gWp (gTab (tb_S_feed S)) Q X 42 [some (.ref (x + 0)), some (.int v1), some (.int v2), some (.int v3), some (.int v4), some (.int v5)] [] (gset H x cck P I A) :=
  x_aload hm (show gTab (tb_S_feed S) 42 = gi_aload 43 0 from rfl) rfl (x_get hm (show gTab (tb_S_feed S) 43 = gi_get 46 9 0 from rfl) (o := 0) rfl rfl (x_iload hm (show gTab (tb_S_feed S) 46 = gi_iload 48 4 from rfl) rfl (x_callv hm (show gTab (tb_S_feed S) 48 = gi_callv (S 65) 7 51 2 from rfl) (o := 1) (as := [.int v4]) (rest := []) rfl rfl (Nat.le_of_ble_eq_true rfl) (Nat.le_of_ble_eq_true rfl) rfl h)))
set_option maxRecDepth 20000 in
theorem wb_S_feed_51 {S : Nat → gS} (hm : ∀ k, gMono (gTab (tb_S_feed S) k)) {Q : gQ} {X : gX} {H : gH} {x : Nat} {P : Nat → Nat} {I A : Nat → Nat → Int32} {v1 : Int32} {v2 : Int32} {v3 : Int32} {v4 : Int32} {v5 : Int32}
    (h : S 65 [.ref (x + 1), .int v5] (gset H x cck P I A) (fun r H' => gWp (gTab (tb_S_feed S)) Q X 60 [some (.ref (x + 0)), some (.int v1), some (.int v2), some (.int v3), some (.int v4), some (.int v5)] (r.toList ++ []) H') X) :
    gWp (gTab (tb_S_feed S)) Q X 51 [some (.ref (x + 0)), some (.int v1), some (.int v2), some (.int v3), some (.int v4), some (.int v5)] [] (gset H x cck P I A) :=
  x_aload hm (show gTab (tb_S_feed S) 51 = gi_aload 52 0 from rfl) rfl (x_get hm (show gTab (tb_S_feed S) 52 = gi_get 55 9 0 from rfl) (o := 0) rfl rfl (x_iload hm (show gTab (tb_S_feed S) 55 = gi_iload 57 5 from rfl) rfl (x_callv hm (show gTab (tb_S_feed S) 57 = gi_callv (S 65) 7 60 2 from rfl) (o := 1) (as := [.int v5]) (rest := []) rfl rfl (Nat.le_of_ble_eq_true rfl) (Nat.le_of_ble_eq_true rfl) rfl h)))
set_option maxRecDepth 20000 in
theorem wb_S_feed_60 {S : Nat → gS} (hm : ∀ k, gMono (gTab (tb_S_feed S) k)) {Q : gQ} {X : gX} {H : gH} {x : Nat} {P : Nat → Nat} {I A : Nat → Nat → Int32} {v1 : Int32} {v2 : Int32} {v3 : Int32} {v4 : Int32} {v5 : Int32}
    (h : Q (some (.int (I 1 1))) (gset H x cck P I A)) :
    gWp (gTab (tb_S_feed S)) Q X 60 [some (.ref (x + 0)), some (.int v1), some (.int v2), some (.int v3), some (.int v4), some (.int v5)] [] (gset H x cck P I A) :=
  x_aload hm (show gTab (tb_S_feed S) 60 = gi_aload 61 0 from rfl) rfl (x_get hm (show gTab (tb_S_feed S) 61 = gi_get 64 9 0 from rfl) (o := 0) rfl rfl (x_get hm (show gTab (tb_S_feed S) 64 = gi_get 67 7 1 from rfl) (o := 1) rfl rfl (x_iret hm (show gTab (tb_S_feed S) 67 = gi_iret from rfl) h)))
set_option maxRecDepth 20000 in
theorem me_S_feed {d : Nat} {Q : gQ} {X : gX} {H : gH} {x : Nat} {v1 : Int32} {v2 : Int32} {v3 : Int32} {v4 : Int32} {v5 : Int32} (h : gWp (gTab (tb_S_feed (meth d))) Q X 0 [some (.ref (x + 0)), some (.int v1), some (.int v2), some (.int v3), some (.int v4), some (.int v5)] [] H) : meth (d + 1) 98 [.ref (x + 0), .int v1, .int v2, .int v3, .int v4, .int v5] H Q X := (show _ ∧ _ from ⟨Nat.le_of_ble_eq_true rfl, h⟩)
set_option maxRecDepth 20000 in
theorem wb_S_state_0 {S : Nat → gS} (hm : ∀ k, gMono (gTab (tb_S_state S) k)) {Q : gQ} {X : gX} {H : gH} {x : Nat} {P : Nat → Nat} {I A : Nat → Nat → Int32} {v1 : Int32}
    (h : S 141 [.ref (x + 0), .int v1, .int 600] (gset H x cck P I A) (fun r H' => gWp (gTab (tb_S_state S)) Q X 8 [some (.ref (x + 0)), some (.int v1), none] (r.toList ++ []) H') X) :
    gWp (gTab (tb_S_state S)) Q X 0 [some (.ref (x + 0)), some (.int v1), none] [] (gset H x cck P I A) :=
  x_aload hm (show gTab (tb_S_state S) 0 = gi_aload 1 0 from rfl) rfl (x_iload hm (show gTab (tb_S_state S) 1 = gi_iload 2 1 from rfl) rfl (x_st hm (show gTab (tb_S_state S) 2 = gi_st 5 (gf_push (.int 600)) from rfl) rfl (x_callv hm (show gTab (tb_S_state S) 5 = gi_callv (S 141) 9 8 3 from rfl) (o := 0) (as := [.int v1, .int 600]) (rest := []) rfl rfl (Nat.le_of_ble_eq_true rfl) (Nat.le_of_ble_eq_true rfl) rfl h)))
set_option maxRecDepth 20000 in
theorem wb_S_state_8 {S : Nat → gS} (hm : ∀ k, gMono (gTab (tb_S_state S) k)) {Q : gQ} {X : gX} {H : gH} {x : Nat} {P : Nat → Nat} {I A : Nat → Nat → Int32} {v1 : Int32}
    (h : S 67 [.ref (x + 1), .int v1] (gset H x cck P I A) (fun r H' => gWp (gTab (tb_S_state S)) Q X 16 [some (.ref (x + 0)), some (.int v1), none] (r.toList ++ []) H') X) :
    gWp (gTab (tb_S_state S)) Q X 8 [some (.ref (x + 0)), some (.int v1), none] [] (gset H x cck P I A) :=
  x_aload hm (show gTab (tb_S_state S) 8 = gi_aload 9 0 from rfl) rfl (x_get hm (show gTab (tb_S_state S) 9 = gi_get 12 9 0 from rfl) (o := 0) rfl rfl (x_iload hm (show gTab (tb_S_state S) 12 = gi_iload 13 1 from rfl) rfl (x_callv hm (show gTab (tb_S_state S) 13 = gi_callv (S 67) 7 16 2 from rfl) (o := 1) (as := [.int v1]) (rest := []) rfl rfl (Nat.le_of_ble_eq_true rfl) (Nat.le_of_ble_eq_true rfl) rfl h)))
set_option maxRecDepth 20000 in
theorem wb_S_state_16 {S : Nat → gS} (hm : ∀ k, gMono (gTab (tb_S_state S) k)) {Q : gQ} {X : gX} {H : gH} {x : Nat} {P : Nat → Nat} {I A : Nat → Nat → Int32} {v1 : Int32}
    (h : S 77 [.ref (x + 17)] (gset H x cck P I A) (fun r H' => gWp (gTab (tb_S_state S)) Q X 23 [some (.ref (x + 0)), some (.int v1), none] (r.toList ++ []) H') X) :
    gWp (gTab (tb_S_state S)) Q X 16 [some (.ref (x + 0)), some (.int v1), none] [] (gset H x cck P I A) :=
  x_aload hm (show gTab (tb_S_state S) 16 = gi_aload 17 0 from rfl) rfl (x_get hm (show gTab (tb_S_state S) 17 = gi_get 20 9 4 from rfl) (o := 0) rfl rfl (x_callv hm (show gTab (tb_S_state S) 20 = gi_callv (S 77) 8 23 1 from rfl) (o := 17) (as := []) (rest := []) rfl rfl (Nat.le_of_ble_eq_true rfl) (Nat.le_of_ble_eq_true rfl) rfl h))
set_option maxRecDepth 20000 in
theorem wb_S_state_23 {S : Nat → gS} (hm : ∀ k, gMono (gTab (tb_S_state S) k)) {Q : gQ} {X : gX} {H : gH} {x : Nat} {P : Nat → Nat} {I A : Nat → Nat → Int32} {v1 : Int32} (hP2 : cck (P 2) = (3 + 2, 0))
    (h : S 20 [.ref (x + (P 2)), .ref (x + 1), .ref (x + 17)] (gset H x cck P I A) (fun r H' => gWp (gTab (tb_S_state S)) Q X 38 [some (.ref (x + 0)), some (.int v1), none] (r.toList ++ []) H') X) :
    gWp (gTab (tb_S_state S)) Q X 23 [some (.ref (x + 0)), some (.int v1), none] [] (gset H x cck P I A) :=
  x_aload hm (show gTab (tb_S_state S) 23 = gi_aload 24 0 from rfl) rfl (x_get hm (show gTab (tb_S_state S) 24 = gi_get 27 9 2 from rfl) (o := 0) rfl rfl (x_aload hm (show gTab (tb_S_state S) 27 = gi_aload 28 0 from rfl) rfl (x_get hm (show gTab (tb_S_state S) 28 = gi_get 31 9 0 from rfl) (o := 0) rfl rfl (x_aload hm (show gTab (tb_S_state S) 31 = gi_aload 32 0 from rfl) rfl (x_get hm (show gTab (tb_S_state S) 32 = gi_get 35 9 4 from rfl) (o := 0) rfl rfl (x_callv hm (show gTab (tb_S_state S) 35 = gi_callv (S 20) 3 38 3 from rfl) (o := (P 2)) (as := [.ref (x + 1), .ref (x + 17)]) (rest := []) rfl rfl (Nat.le_of_ble_eq_true rfl) (Nat.le_of_ble_eq_true rfl) hP2 h))))))
set_option maxRecDepth 20000 in
theorem wb_S_state_38 {S : Nat → gS} (hm : ∀ k, gMono (gTab (tb_S_state S) k)) {Q : gQ} {X : gX} {H : gH} {x : Nat} {P : Nat → Nat} {I A : Nat → Nat → Int32} {v1 : Int32}
    (h : S 68 [.ref (x + 1)] (gset H x cck P I A) (fun r H' => gWp (gTab (tb_S_state S)) Q X 45 [some (.ref (x + 0)), some (.int v1), none] (r.toList ++ []) H') X) :
    gWp (gTab (tb_S_state S)) Q X 38 [some (.ref (x + 0)), some (.int v1), none] [] (gset H x cck P I A) :=
  x_aload hm (show gTab (tb_S_state S) 38 = gi_aload 39 0 from rfl) rfl (x_get hm (show gTab (tb_S_state S) 39 = gi_get 42 9 0 from rfl) (o := 0) rfl rfl (x_callv hm (show gTab (tb_S_state S) 42 = gi_callv (S 68) 7 45 1 from rfl) (o := 1) (as := []) (rest := []) rfl rfl (Nat.le_of_ble_eq_true rfl) (Nat.le_of_ble_eq_true rfl) rfl h))
set_option maxRecDepth 20000 in
theorem wb_S_state_45 {S : Nat → gS} (hm : ∀ k, gMono (gTab (tb_S_state S) k)) {Q : gQ} {X : gX} {H : gH} {x : Nat} {P : Nat → Nat} {I A : Nat → Nat → Int32} {s0 : Int32} {v1 : Int32}
    (h : ((¬ s0 = 0 → S 78 [.ref (x + 13), .ref (x + 17)] (gset H x cck (upP (upP P 1 ((P 2))) 2 ((P 1))) I A) (fun r H' => gWp (gTab (tb_S_state S)) Q X 85 [some (.ref (x + 0)), some (.int v1), some (.ref (x + (P 1)))] (r.toList ++ []) H') X) ∧ (¬ (¬ s0 = 0) → S 69 [.ref (x + 1)] (gset H x cck P I A) (fun r H' => gWp (gTab (tb_S_state S)) Q X 55 [some (.ref (x + 0)), some (.int v1), none] (r.toList ++ []) H') X))) :
    gWp (gTab (tb_S_state S)) Q X 45 [some (.ref (x + 0)), some (.int v1), none] [.int s0] (gset H x cck P I A) :=
  x_if hm (show gTab (tb_S_state S) 45 = gi_if 48 56 (fun x => ¬ x = 0) from rfl) (fun c0 => x_aload hm (show gTab (tb_S_state S) 56 = gi_aload 57 0 from rfl) rfl (x_get hm (show gTab (tb_S_state S) 57 = gi_get 60 9 1 from rfl) (o := 0) rfl rfl (x_astore hm (show gTab (tb_S_state S) 60 = gi_astore 61 2 from rfl) rfl (x_aload hm (show gTab (tb_S_state S) 61 = gi_aload 62 0 from rfl) rfl (x_aload hm (show gTab (tb_S_state S) 62 = gi_aload 63 0 from rfl) rfl (x_get hm (show gTab (tb_S_state S) 63 = gi_get 66 9 2 from rfl) (o := 0) rfl rfl (x_putr hm (show gTab (tb_S_state S) 66 = gi_putr 69 9 1 from rfl) (r := ((P 2))) rfl cck_9 rfl cr_1 (x_aload hm (show gTab (tb_S_state S) 69 = gi_aload 70 0 from rfl) rfl (x_aload hm (show gTab (tb_S_state S) 70 = gi_aload 71 2 from rfl) rfl (x_putr hm (show gTab (tb_S_state S) 71 = gi_putr 74 9 2 from rfl) (r := ((P 1))) rfl cck_9 rfl cr_2 (x_aload hm (show gTab (tb_S_state S) 74 = gi_aload 75 0 from rfl) rfl (x_get hm (show gTab (tb_S_state S) 75 = gi_get 78 9 3 from rfl) (o := 0) rfl rfl (x_aload hm (show gTab (tb_S_state S) 78 = gi_aload 79 0 from rfl) rfl (x_get hm (show gTab (tb_S_state S) 79 = gi_get 82 9 4 from rfl) (o := 0) rfl rfl (x_callv hm (show gTab (tb_S_state S) 82 = gi_callv (S 78) 8 85 2 from rfl) (o := 13) (as := [.ref (x + 17)]) (rest := []) rfl rfl (Nat.le_of_ble_eq_true rfl) (Nat.le_of_ble_eq_true rfl) rfl (h.1 c0)))))))))))))))) (fun c0 => x_aload hm (show gTab (tb_S_state S) 48 = gi_aload 49 0 from rfl) rfl (x_get hm (show gTab (tb_S_state S) 49 = gi_get 52 9 0 from rfl) (o := 0) rfl rfl (x_callv hm (show gTab (tb_S_state S) 52 = gi_callv (S 69) 7 55 1 from rfl) (o := 1) (as := []) (rest := []) rfl rfl (Nat.le_of_ble_eq_true rfl) (Nat.le_of_ble_eq_true rfl) rfl (h.2 c0))))
set_option maxRecDepth 20000 in
theorem wb_S_state_55 {S : Nat → gS} (hm : ∀ k, gMono (gTab (tb_S_state S) k)) {Q : gQ} {X : gX} {H : gH} {x : Nat} {P : Nat → Nat} {I A : Nat → Nat → Int32} {s0 : Int32} {v1 : Int32}
    (h : Q (some (.int s0)) (gset H x cck P I A)) :
    gWp (gTab (tb_S_state S)) Q X 55 [some (.ref (x + 0)), some (.int v1), none] [.int s0] (gset H x cck P I A) :=
  x_iret hm (show gTab (tb_S_state S) 55 = gi_iret from rfl) h
set_option maxRecDepth 20000 in
theorem wb_S_state_85 {S : Nat → gS} (hm : ∀ k, gMono (gTab (tb_S_state S) k)) {Q : gQ} {X : gX} {H : gH} {x : Nat} {P : Nat → Nat} {I A : Nat → Nat → Int32} {v1 : Int32} (hP5 : cck (P 5) = (4 + 2, 0))
    (h : S 32 [.ref (x + (P 5))] (gset H x cck P I A) (fun r H' => gWp (gTab (tb_S_state S)) Q X 92 [some (.ref (x + 0)), some (.int v1), some (.ref (x + (P 1)))] (r.toList ++ []) H') X) :
    gWp (gTab (tb_S_state S)) Q X 85 [some (.ref (x + 0)), some (.int v1), some (.ref (x + (P 1)))] [] (gset H x cck P I A) :=
  x_aload hm (show gTab (tb_S_state S) 85 = gi_aload 86 0 from rfl) rfl (x_get hm (show gTab (tb_S_state S) 86 = gi_get 89 9 5 from rfl) (o := 0) rfl rfl (x_callv hm (show gTab (tb_S_state S) 89 = gi_callv (S 32) 4 92 1 from rfl) (o := (P 5)) (as := []) (rest := []) rfl rfl (Nat.le_of_ble_eq_true rfl) (Nat.le_of_ble_eq_true rfl) hP5 h))
set_option maxRecDepth 20000 in
theorem wb_S_state_92 {S : Nat → gS} (hm : ∀ k, gMono (gTab (tb_S_state S) k)) {Q : gQ} {X : gX} {H : gH} {x : Nat} {P : Nat → Nat} {I A : Nat → Nat → Int32} {v1 : Int32} (hP7 : cck (P 7) = (0 + 2, 0))
    (h : S 0 [.ref (x + (P 7))] (gset H x cck P I A) (fun r H' => gWp (gTab (tb_S_state S)) Q X 99 [some (.ref (x + 0)), some (.int v1), some (.ref (x + (P 1)))] (r.toList ++ []) H') X) :
    gWp (gTab (tb_S_state S)) Q X 92 [some (.ref (x + 0)), some (.int v1), some (.ref (x + (P 1)))] [] (gset H x cck P I A) :=
  x_aload hm (show gTab (tb_S_state S) 92 = gi_aload 93 0 from rfl) rfl (x_get hm (show gTab (tb_S_state S) 93 = gi_get 96 9 7 from rfl) (o := 0) rfl rfl (x_callv hm (show gTab (tb_S_state S) 96 = gi_callv (S 0) 0 99 1 from rfl) (o := (P 7)) (as := []) (rest := []) rfl rfl (Nat.le_of_ble_eq_true rfl) (Nat.le_of_ble_eq_true rfl) hP7 h))
set_option maxRecDepth 20000 in
theorem wb_S_state_99 {S : Nat → gS} (hm : ∀ k, gMono (gTab (tb_S_state S) k)) {Q : gQ} {X : gX} {H : gH} {x : Nat} {P : Nat → Nat} {I A : Nat → Nat → Int32} {v1 : Int32}
    (h : S 42 [.ref (x + 40)] (gset H x cck P I A) (fun r H' => gWp (gTab (tb_S_state S)) Q X 106 [some (.ref (x + 0)), some (.int v1), some (.ref (x + (P 1)))] (r.toList ++ []) H') X) :
    gWp (gTab (tb_S_state S)) Q X 99 [some (.ref (x + 0)), some (.int v1), some (.ref (x + (P 1)))] [] (gset H x cck P I A) :=
  x_aload hm (show gTab (tb_S_state S) 99 = gi_aload 100 0 from rfl) rfl (x_get hm (show gTab (tb_S_state S) 100 = gi_get 103 9 10 from rfl) (o := 0) rfl rfl (x_callv hm (show gTab (tb_S_state S) 103 = gi_callv (S 42) 5 106 1 from rfl) (o := 40) (as := []) (rest := []) rfl rfl (Nat.le_of_ble_eq_true rfl) (Nat.le_of_ble_eq_true rfl) rfl h))
set_option maxRecDepth 20000 in
theorem wb_S_state_106 {S : Nat → gS} (hm : ∀ k, gMono (gTab (tb_S_state S) k)) {Q : gQ} {X : gX} {H : gH} {x : Nat} {P : Nat → Nat} {I A : Nat → Nat → Int32} {v1 : Int32} (hP1 : cck (P 1) = (3 + 2, 0))
    (h : Q (some (.int ((upI I 0 13 0) (P 1) 0))) (gset H x cck P (upI I 0 13 0) A)) :
    gWp (gTab (tb_S_state S)) Q X 106 [some (.ref (x + 0)), some (.int v1), some (.ref (x + (P 1)))] [] (gset H x cck P I A) :=
  x_aload hm (show gTab (tb_S_state S) 106 = gi_aload 107 0 from rfl) rfl (x_st hm (show gTab (tb_S_state S) 107 = gi_st 108 (gf_push (.int 0)) from rfl) rfl (x_puti hm (show gTab (tb_S_state S) 108 = gi_puti 111 9 13 from rfl) (o := 0) rfl rfl cp_9_13 (x_aload hm (show gTab (tb_S_state S) 111 = gi_aload 112 0 from rfl) rfl (x_get hm (show gTab (tb_S_state S) 112 = gi_get 115 9 1 from rfl) (o := 0) rfl rfl (x_get hm (show gTab (tb_S_state S) 115 = gi_get 118 3 0 from rfl) (o := (P 1)) hP1 rfl (x_iret hm (show gTab (tb_S_state S) 118 = gi_iret from rfl) h))))))
set_option maxRecDepth 20000 in
theorem me_S_state {d : Nat} {Q : gQ} {X : gX} {H : gH} {x : Nat} {v1 : Int32} (h : gWp (gTab (tb_S_state (meth d))) Q X 0 [some (.ref (x + 0)), some (.int v1), none] [] H) : meth (d + 1) 99 [.ref (x + 0), .int v1] H Q X := (show _ ∧ _ from ⟨Nat.le_of_ble_eq_true rfl, h⟩)
set_option maxRecDepth 20000 in
theorem wb_S_law_0 {S : Nat → gS} (hm : ∀ k, gMono (gTab (tb_S_law S) k)) {Q : gQ} {X : gX} {H : gH} {x : Nat} {P : Nat → Nat} {I A : Nat → Nat → Int32} {v1 : Int32}
    (h : S 141 [.ref (x + 0), .int v1, .int 150] (gset H x cck P I A) (fun r H' => gWp (gTab (tb_S_law S)) Q X 8 [some (.ref (x + 0)), some (.int v1), none] (r.toList ++ []) H') X) :
    gWp (gTab (tb_S_law S)) Q X 0 [some (.ref (x + 0)), some (.int v1), none] [] (gset H x cck P I A) :=
  x_aload hm (show gTab (tb_S_law S) 0 = gi_aload 1 0 from rfl) rfl (x_iload hm (show gTab (tb_S_law S) 1 = gi_iload 2 1 from rfl) rfl (x_st hm (show gTab (tb_S_law S) 2 = gi_st 5 (gf_push (.int 150)) from rfl) rfl (x_callv hm (show gTab (tb_S_law S) 5 = gi_callv (S 141) 9 8 3 from rfl) (o := 0) (as := [.int v1, .int 150]) (rest := []) rfl rfl (Nat.le_of_ble_eq_true rfl) (Nat.le_of_ble_eq_true rfl) rfl h)))
set_option maxRecDepth 20000 in
theorem wb_S_law_8 {S : Nat → gS} (hm : ∀ k, gMono (gTab (tb_S_law S) k)) {Q : gQ} {X : gX} {H : gH} {x : Nat} {P : Nat → Nat} {I A : Nat → Nat → Int32} {v1 : Int32}
    (h : S 67 [.ref (x + 1), .int v1] (gset H x cck P I A) (fun r H' => gWp (gTab (tb_S_law S)) Q X 16 [some (.ref (x + 0)), some (.int v1), none] (r.toList ++ []) H') X) :
    gWp (gTab (tb_S_law S)) Q X 8 [some (.ref (x + 0)), some (.int v1), none] [] (gset H x cck P I A) :=
  x_aload hm (show gTab (tb_S_law S) 8 = gi_aload 9 0 from rfl) rfl (x_get hm (show gTab (tb_S_law S) 9 = gi_get 12 9 0 from rfl) (o := 0) rfl rfl (x_iload hm (show gTab (tb_S_law S) 12 = gi_iload 13 1 from rfl) rfl (x_callv hm (show gTab (tb_S_law S) 13 = gi_callv (S 67) 7 16 2 from rfl) (o := 1) (as := [.int v1]) (rest := []) rfl rfl (Nat.le_of_ble_eq_true rfl) (Nat.le_of_ble_eq_true rfl) rfl h)))
set_option maxRecDepth 20000 in
theorem wb_S_law_16 {S : Nat → gS} (hm : ∀ k, gMono (gTab (tb_S_law S) k)) {Q : gQ} {X : gX} {H : gH} {x : Nat} {P : Nat → Nat} {I A : Nat → Nat → Int32} {v1 : Int32} (hP6 : cck (P 6) = (4 + 2, 0))
    (h : S 34 [.ref (x + (P 6)), .ref (x + 1)] (gset H x cck P I A) (fun r H' => gWp (gTab (tb_S_law S)) Q X 27 [some (.ref (x + 0)), some (.int v1), none] (r.toList ++ []) H') X) :
    gWp (gTab (tb_S_law S)) Q X 16 [some (.ref (x + 0)), some (.int v1), none] [] (gset H x cck P I A) :=
  x_aload hm (show gTab (tb_S_law S) 16 = gi_aload 17 0 from rfl) rfl (x_get hm (show gTab (tb_S_law S) 17 = gi_get 20 9 6 from rfl) (o := 0) rfl rfl (x_aload hm (show gTab (tb_S_law S) 20 = gi_aload 21 0 from rfl) rfl (x_get hm (show gTab (tb_S_law S) 21 = gi_get 24 9 0 from rfl) (o := 0) rfl rfl (x_callv hm (show gTab (tb_S_law S) 24 = gi_callv (S 34) 4 27 2 from rfl) (o := (P 6)) (as := [.ref (x + 1)]) (rest := []) rfl rfl (Nat.le_of_ble_eq_true rfl) (Nat.le_of_ble_eq_true rfl) hP6 h))))
set_option maxRecDepth 20000 in
theorem wb_S_law_27 {S : Nat → gS} (hm : ∀ k, gMono (gTab (tb_S_law S) k)) {Q : gQ} {X : gX} {H : gH} {x : Nat} {P : Nat → Nat} {I A : Nat → Nat → Int32} {v1 : Int32}
    (h : S 68 [.ref (x + 1)] (gset H x cck P I A) (fun r H' => gWp (gTab (tb_S_law S)) Q X 34 [some (.ref (x + 0)), some (.int v1), none] (r.toList ++ []) H') X) :
    gWp (gTab (tb_S_law S)) Q X 27 [some (.ref (x + 0)), some (.int v1), none] [] (gset H x cck P I A) :=
  x_aload hm (show gTab (tb_S_law S) 27 = gi_aload 28 0 from rfl) rfl (x_get hm (show gTab (tb_S_law S) 28 = gi_get 31 9 0 from rfl) (o := 0) rfl rfl (x_callv hm (show gTab (tb_S_law S) 31 = gi_callv (S 68) 7 34 1 from rfl) (o := 1) (as := []) (rest := []) rfl rfl (Nat.le_of_ble_eq_true rfl) (Nat.le_of_ble_eq_true rfl) rfl h))
set_option maxRecDepth 20000 in
theorem wb_S_law_34 {S : Nat → gS} (hm : ∀ k, gMono (gTab (tb_S_law S) k)) {Q : gQ} {X : gX} {H : gH} {x : Nat} {P : Nat → Nat} {I A : Nat → Nat → Int32} {s0 : Int32} {v1 : Int32}
    (h : ((¬ s0 = 0 → Q (some (.int 1)) (gset H x cck (upP (upP P 5 ((P 6))) 6 ((P 5))) I A)) ∧ (¬ (¬ s0 = 0) → S 69 [.ref (x + 1)] (gset H x cck P I A) (fun r H' => gWp (gTab (tb_S_law S)) Q X 44 [some (.ref (x + 0)), some (.int v1), none] (r.toList ++ []) H') X))) :
    gWp (gTab (tb_S_law S)) Q X 34 [some (.ref (x + 0)), some (.int v1), none] [.int s0] (gset H x cck P I A) :=
  x_if hm (show gTab (tb_S_law S) 34 = gi_if 37 45 (fun x => ¬ x = 0) from rfl) (fun c0 => x_aload hm (show gTab (tb_S_law S) 45 = gi_aload 46 0 from rfl) rfl (x_get hm (show gTab (tb_S_law S) 46 = gi_get 49 9 5 from rfl) (o := 0) rfl rfl (x_astore hm (show gTab (tb_S_law S) 49 = gi_astore 50 2 from rfl) rfl (x_aload hm (show gTab (tb_S_law S) 50 = gi_aload 51 0 from rfl) rfl (x_aload hm (show gTab (tb_S_law S) 51 = gi_aload 52 0 from rfl) rfl (x_get hm (show gTab (tb_S_law S) 52 = gi_get 55 9 6 from rfl) (o := 0) rfl rfl (x_putr hm (show gTab (tb_S_law S) 55 = gi_putr 58 9 5 from rfl) (r := ((P 6))) rfl cck_9 rfl cr_5 (x_aload hm (show gTab (tb_S_law S) 58 = gi_aload 59 0 from rfl) rfl (x_aload hm (show gTab (tb_S_law S) 59 = gi_aload 60 2 from rfl) rfl (x_putr hm (show gTab (tb_S_law S) 60 = gi_putr 63 9 6 from rfl) (r := ((P 5))) rfl cck_9 rfl cr_6 (x_st hm (show gTab (tb_S_law S) 63 = gi_st 64 (gf_push (.int 1)) from rfl) rfl (x_iret hm (show gTab (tb_S_law S) 64 = gi_iret from rfl) (h.1 c0))))))))))))) (fun c0 => x_aload hm (show gTab (tb_S_law S) 37 = gi_aload 38 0 from rfl) rfl (x_get hm (show gTab (tb_S_law S) 38 = gi_get 41 9 0 from rfl) (o := 0) rfl rfl (x_callv hm (show gTab (tb_S_law S) 41 = gi_callv (S 69) 7 44 1 from rfl) (o := 1) (as := []) (rest := []) rfl rfl (Nat.le_of_ble_eq_true rfl) (Nat.le_of_ble_eq_true rfl) rfl (h.2 c0))))
set_option maxRecDepth 20000 in
theorem wb_S_law_44 {S : Nat → gS} (hm : ∀ k, gMono (gTab (tb_S_law S) k)) {Q : gQ} {X : gX} {H : gH} {x : Nat} {P : Nat → Nat} {I A : Nat → Nat → Int32} {s0 : Int32} {v1 : Int32}
    (h : Q (some (.int s0)) (gset H x cck P I A)) :
    gWp (gTab (tb_S_law S)) Q X 44 [some (.ref (x + 0)), some (.int v1), none] [.int s0] (gset H x cck P I A) :=
  x_iret hm (show gTab (tb_S_law S) 44 = gi_iret from rfl) h
set_option maxRecDepth 20000 in
theorem me_S_law {d : Nat} {Q : gQ} {X : gX} {H : gH} {x : Nat} {v1 : Int32} (h : gWp (gTab (tb_S_law (meth d))) Q X 0 [some (.ref (x + 0)), some (.int v1), none] [] H) : meth (d + 1) 100 [.ref (x + 0), .int v1] H Q X := (show _ ∧ _ from ⟨Nat.le_of_ble_eq_true rfl, h⟩)
set_option maxRecDepth 20000 in
theorem wb_S_work_0 {S : Nat → gS} (hm : ∀ k, gMono (gTab (tb_S_work S) k)) {Q : gQ} {X : gX} {H : gH} {x : Nat} {P : Nat → Nat} {I A : Nat → Nat → Int32} {v1 : Int32}
    (h : S 141 [.ref (x + 0), .int v1, .int 150] (gset H x cck P I A) (fun r H' => gWp (gTab (tb_S_work S)) Q X 8 [some (.ref (x + 0)), some (.int v1)] (r.toList ++ []) H') X) :
    gWp (gTab (tb_S_work S)) Q X 0 [some (.ref (x + 0)), some (.int v1)] [] (gset H x cck P I A) :=
  x_aload hm (show gTab (tb_S_work S) 0 = gi_aload 1 0 from rfl) rfl (x_iload hm (show gTab (tb_S_work S) 1 = gi_iload 2 1 from rfl) rfl (x_st hm (show gTab (tb_S_work S) 2 = gi_st 5 (gf_push (.int 150)) from rfl) rfl (x_callv hm (show gTab (tb_S_work S) 5 = gi_callv (S 141) 9 8 3 from rfl) (o := 0) (as := [.int v1, .int 150]) (rest := []) rfl rfl (Nat.le_of_ble_eq_true rfl) (Nat.le_of_ble_eq_true rfl) rfl h)))
set_option maxRecDepth 20000 in
theorem wb_S_work_8 {S : Nat → gS} (hm : ∀ k, gMono (gTab (tb_S_work S) k)) {Q : gQ} {X : gX} {H : gH} {x : Nat} {P : Nat → Nat} {I A : Nat → Nat → Int32} {v1 : Int32}
    (h : (((I 40 2) < 16 → S 67 [.ref (x + 1), .int v1] (gset H x cck P I A) (fun r H' => gWp (gTab (tb_S_work S)) Q X 38 [some (.ref (x + 0)), some (.int v1)] (r.toList ++ []) H') X) ∧ (¬ ((I 40 2) < 16) → S 66 [.ref (x + 1)] (gset H x cck P I A) (fun r H' => gWp (gTab (tb_S_work S)) Q X 27 [some (.ref (x + 0)), some (.int v1)] (r.toList ++ []) H') X))) :
    gWp (gTab (tb_S_work S)) Q X 8 [some (.ref (x + 0)), some (.int v1)] [] (gset H x cck P I A) :=
  x_aload hm (show gTab (tb_S_work S) 8 = gi_aload 9 0 from rfl) rfl (x_get hm (show gTab (tb_S_work S) 9 = gi_get 12 9 10 from rfl) (o := 0) rfl rfl (x_get hm (show gTab (tb_S_work S) 12 = gi_get 15 5 2 from rfl) (o := 40) rfl rfl (x_st hm (show gTab (tb_S_work S) 15 = gi_st 17 (gf_push (.int 16)) from rfl) rfl (x_icmp hm (show gTab (tb_S_work S) 17 = gi_icmp 20 30 (fun x y => x < y) from rfl) (fun c0 => x_aload hm (show gTab (tb_S_work S) 30 = gi_aload 31 0 from rfl) rfl (x_get hm (show gTab (tb_S_work S) 31 = gi_get 34 9 0 from rfl) (o := 0) rfl rfl (x_iload hm (show gTab (tb_S_work S) 34 = gi_iload 35 1 from rfl) rfl (x_callv hm (show gTab (tb_S_work S) 35 = gi_callv (S 67) 7 38 2 from rfl) (o := 1) (as := [.int v1]) (rest := []) rfl rfl (Nat.le_of_ble_eq_true rfl) (Nat.le_of_ble_eq_true rfl) rfl (h.1 c0))))) (fun c0 => x_aload hm (show gTab (tb_S_work S) 20 = gi_aload 21 0 from rfl) rfl (x_get hm (show gTab (tb_S_work S) 21 = gi_get 24 9 0 from rfl) (o := 0) rfl rfl (x_callv hm (show gTab (tb_S_work S) 24 = gi_callv (S 66) 7 27 1 from rfl) (o := 1) (as := []) (rest := []) rfl rfl (Nat.le_of_ble_eq_true rfl) (Nat.le_of_ble_eq_true rfl) rfl (h.2 c0))))))))
set_option maxRecDepth 20000 in
theorem wb_S_work_27 {S : Nat → gS} (hm : ∀ k, gMono (gTab (tb_S_work S) k)) {Q : gQ} {X : gX} {H : gH} {x : Nat} {P : Nat → Nat} {I A : Nat → Nat → Int32} {v1 : Int32}
    (h : Q (some (.int ((-20)))) (gset H x cck P I A)) :
    gWp (gTab (tb_S_work S)) Q X 27 [some (.ref (x + 0)), some (.int v1)] [] (gset H x cck P I A) :=
  x_st hm (show gTab (tb_S_work S) 27 = gi_st 29 (gf_push (.int (-20))) from rfl) rfl (x_iret hm (show gTab (tb_S_work S) 29 = gi_iret from rfl) h)
set_option maxRecDepth 20000 in
theorem wb_S_work_38 {S : Nat → gS} (hm : ∀ k, gMono (gTab (tb_S_work S) k)) {Q : gQ} {X : gX} {H : gH} {x : Nat} {P : Nat → Nat} {I A : Nat → Nat → Int32} {v1 : Int32} (hP1 : cck (P 1) = (3 + 2, 0))
    (h : S 9 [.ref (x + 35), .ref (x + 1), .int (I (P 1) 0)] (gset H x cck P I A) (fun r H' => gWp (gTab (tb_S_work S)) Q X 56 [some (.ref (x + 0)), some (.int v1)] (r.toList ++ []) H') X) :
    gWp (gTab (tb_S_work S)) Q X 38 [some (.ref (x + 0)), some (.int v1)] [] (gset H x cck P I A) :=
  x_aload hm (show gTab (tb_S_work S) 38 = gi_aload 39 0 from rfl) rfl (x_get hm (show gTab (tb_S_work S) 39 = gi_get 42 9 9 from rfl) (o := 0) rfl rfl (x_aload hm (show gTab (tb_S_work S) 42 = gi_aload 43 0 from rfl) rfl (x_get hm (show gTab (tb_S_work S) 43 = gi_get 46 9 0 from rfl) (o := 0) rfl rfl (x_aload hm (show gTab (tb_S_work S) 46 = gi_aload 47 0 from rfl) rfl (x_get hm (show gTab (tb_S_work S) 47 = gi_get 50 9 1 from rfl) (o := 0) rfl rfl (x_get hm (show gTab (tb_S_work S) 50 = gi_get 53 3 0 from rfl) (o := (P 1)) hP1 rfl (x_callv hm (show gTab (tb_S_work S) 53 = gi_callv (S 9) 1 56 3 from rfl) (o := 35) (as := [.ref (x + 1), .int (I (P 1) 0)]) (rest := []) rfl rfl (Nat.le_of_ble_eq_true rfl) (Nat.le_of_ble_eq_true rfl) rfl h)))))))
set_option maxRecDepth 20000 in
theorem wb_S_work_56 {S : Nat → gS} (hm : ∀ k, gMono (gTab (tb_S_work S) k)) {Q : gQ} {X : gX} {H : gH} {x : Nat} {P : Nat → Nat} {I A : Nat → Nat → Int32} {v1 : Int32}
    (h : S 68 [.ref (x + 1)] (gset H x cck P I A) (fun r H' => gWp (gTab (tb_S_work S)) Q X 63 [some (.ref (x + 0)), some (.int v1)] (r.toList ++ []) H') X) :
    gWp (gTab (tb_S_work S)) Q X 56 [some (.ref (x + 0)), some (.int v1)] [] (gset H x cck P I A) :=
  x_aload hm (show gTab (tb_S_work S) 56 = gi_aload 57 0 from rfl) rfl (x_get hm (show gTab (tb_S_work S) 57 = gi_get 60 9 0 from rfl) (o := 0) rfl rfl (x_callv hm (show gTab (tb_S_work S) 60 = gi_callv (S 68) 7 63 1 from rfl) (o := 1) (as := []) (rest := []) rfl rfl (Nat.le_of_ble_eq_true rfl) (Nat.le_of_ble_eq_true rfl) rfl h))
set_option maxRecDepth 20000 in
theorem wb_S_work_63 {S : Nat → gS} (hm : ∀ k, gMono (gTab (tb_S_work S) k)) {Q : gQ} {X : gX} {H : gH} {x : Nat} {P : Nat → Nat} {I A : Nat → Nat → Int32} {s0 : Int32} {v1 : Int32}
    (h : ((¬ s0 = 0 → S 43 [.ref (x + 40), .ref (x + 13)] (gset H x cck P I A) (fun r H' => gWp (gTab (tb_S_work S)) Q X 85 [some (.ref (x + 0)), some (.int v1)] (r.toList ++ []) H') X) ∧ (¬ (¬ s0 = 0) → S 69 [.ref (x + 1)] (gset H x cck P I A) (fun r H' => gWp (gTab (tb_S_work S)) Q X 73 [some (.ref (x + 0)), some (.int v1)] (r.toList ++ []) H') X))) :
    gWp (gTab (tb_S_work S)) Q X 63 [some (.ref (x + 0)), some (.int v1)] [.int s0] (gset H x cck P I A) :=
  x_if hm (show gTab (tb_S_work S) 63 = gi_if 66 74 (fun x => ¬ x = 0) from rfl) (fun c0 => x_aload hm (show gTab (tb_S_work S) 74 = gi_aload 75 0 from rfl) rfl (x_get hm (show gTab (tb_S_work S) 75 = gi_get 78 9 10 from rfl) (o := 0) rfl rfl (x_aload hm (show gTab (tb_S_work S) 78 = gi_aload 79 0 from rfl) rfl (x_get hm (show gTab (tb_S_work S) 79 = gi_get 82 9 3 from rfl) (o := 0) rfl rfl (x_callv hm (show gTab (tb_S_work S) 82 = gi_callv (S 43) 5 85 2 from rfl) (o := 40) (as := [.ref (x + 13)]) (rest := []) rfl rfl (Nat.le_of_ble_eq_true rfl) (Nat.le_of_ble_eq_true rfl) rfl (h.1 c0)))))) (fun c0 => x_aload hm (show gTab (tb_S_work S) 66 = gi_aload 67 0 from rfl) rfl (x_get hm (show gTab (tb_S_work S) 67 = gi_get 70 9 0 from rfl) (o := 0) rfl rfl (x_callv hm (show gTab (tb_S_work S) 70 = gi_callv (S 69) 7 73 1 from rfl) (o := 1) (as := []) (rest := []) rfl rfl (Nat.le_of_ble_eq_true rfl) (Nat.le_of_ble_eq_true rfl) rfl (h.2 c0))))
set_option maxRecDepth 20000 in
theorem wb_S_work_73 {S : Nat → gS} (hm : ∀ k, gMono (gTab (tb_S_work S) k)) {Q : gQ} {X : gX} {H : gH} {x : Nat} {P : Nat → Nat} {I A : Nat → Nat → Int32} {s0 : Int32} {v1 : Int32}
    (h : Q (some (.int s0)) (gset H x cck P I A)) :
    gWp (gTab (tb_S_work S)) Q X 73 [some (.ref (x + 0)), some (.int v1)] [.int s0] (gset H x cck P I A) :=
  x_iret hm (show gTab (tb_S_work S) 73 = gi_iret from rfl) h
set_option maxRecDepth 20000 in
theorem wb_S_work_85 {S : Nat → gS} (hm : ∀ k, gMono (gTab (tb_S_work S) k)) {Q : gQ} {X : gX} {H : gH} {x : Nat} {P : Nat → Nat} {I A : Nat → Nat → Int32} {v1 : Int32}
    (h : S 12 [.ref (x + 35)] (gset H x cck P I A) (fun r H' => gWp (gTab (tb_S_work S)) Q X 92 [some (.ref (x + 0)), some (.int v1)] (r.toList ++ []) H') X) :
    gWp (gTab (tb_S_work S)) Q X 85 [some (.ref (x + 0)), some (.int v1)] [] (gset H x cck P I A) :=
  x_aload hm (show gTab (tb_S_work S) 85 = gi_aload 86 0 from rfl) rfl (x_get hm (show gTab (tb_S_work S) 86 = gi_get 89 9 9 from rfl) (o := 0) rfl rfl (x_callv hm (show gTab (tb_S_work S) 89 = gi_callv (S 12) 1 92 1 from rfl) (o := 35) (as := []) (rest := []) rfl rfl (Nat.le_of_ble_eq_true rfl) (Nat.le_of_ble_eq_true rfl) rfl h))
set_option maxRecDepth 20000 in
theorem wb_S_work_92 {S : Nat → gS} (hm : ∀ k, gMono (gTab (tb_S_work S) k)) {Q : gQ} {X : gX} {H : gH} {x : Nat} {P : Nat → Nat} {I A : Nat → Nat → Int32} {v1 : Int32}
    (h : S 13 [.ref (x + 35), .ref (x + 13), .ref (x + (P 1)), .ref (x + (P 5)), .int 0, .int (I 35 4), .int 0] (gset H x cck P I A) (fun r H' => gWp (gTab (tb_S_work S)) Q X 120 [some (.ref (x + 0)), some (.int v1)] (r.toList ++ []) H') X) :
    gWp (gTab (tb_S_work S)) Q X 92 [some (.ref (x + 0)), some (.int v1)] [] (gset H x cck P I A) :=
  x_aload hm (show gTab (tb_S_work S) 92 = gi_aload 93 0 from rfl) rfl (x_get hm (show gTab (tb_S_work S) 93 = gi_get 96 9 9 from rfl) (o := 0) rfl rfl (x_aload hm (show gTab (tb_S_work S) 96 = gi_aload 97 0 from rfl) rfl (x_get hm (show gTab (tb_S_work S) 97 = gi_get 100 9 3 from rfl) (o := 0) rfl rfl (x_aload hm (show gTab (tb_S_work S) 100 = gi_aload 101 0 from rfl) rfl (x_get hm (show gTab (tb_S_work S) 101 = gi_get 104 9 1 from rfl) (o := 0) rfl rfl (x_aload hm (show gTab (tb_S_work S) 104 = gi_aload 105 0 from rfl) rfl (x_get hm (show gTab (tb_S_work S) 105 = gi_get 108 9 5 from rfl) (o := 0) rfl rfl (x_st hm (show gTab (tb_S_work S) 108 = gi_st 109 (gf_push (.int 0)) from rfl) rfl (x_aload hm (show gTab (tb_S_work S) 109 = gi_aload 110 0 from rfl) rfl (x_get hm (show gTab (tb_S_work S) 110 = gi_get 113 9 9 from rfl) (o := 0) rfl rfl (x_get hm (show gTab (tb_S_work S) 113 = gi_get 116 1 4 from rfl) (o := 35) rfl rfl (x_st hm (show gTab (tb_S_work S) 116 = gi_st 117 (gf_push (.int 0)) from rfl) rfl (x_callv hm (show gTab (tb_S_work S) 117 = gi_callv (S 13) 1 120 7 from rfl) (o := 35) (as := [.ref (x + 13), .ref (x + (P 1)), .ref (x + (P 5)), .int 0, .int (I 35 4), .int 0]) (rest := []) rfl rfl (Nat.le_of_ble_eq_true rfl) (Nat.le_of_ble_eq_true rfl) rfl h)))))))))))))
set_option maxRecDepth 20000 in
theorem wb_S_work_120 {S : Nat → gS} (hm : ∀ k, gMono (gTab (tb_S_work S) k)) {Q : gQ} {X : gX} {H : gH} {x : Nat} {P : Nat → Nat} {I A : Nat → Nat → Int32} {v1 : Int32}
    (h : Q (some (.int (I 35 6))) (gset H x cck P (upI I 0 13 (I 35 7)) A)) :
    gWp (gTab (tb_S_work S)) Q X 120 [some (.ref (x + 0)), some (.int v1)] [] (gset H x cck P I A) :=
  x_aload hm (show gTab (tb_S_work S) 120 = gi_aload 121 0 from rfl) rfl (x_aload hm (show gTab (tb_S_work S) 121 = gi_aload 122 0 from rfl) rfl (x_get hm (show gTab (tb_S_work S) 122 = gi_get 125 9 9 from rfl) (o := 0) rfl rfl (x_get hm (show gTab (tb_S_work S) 125 = gi_get 128 1 7 from rfl) (o := 35) rfl rfl (x_puti hm (show gTab (tb_S_work S) 128 = gi_puti 131 9 13 from rfl) (o := 0) rfl rfl cp_9_13 (x_aload hm (show gTab (tb_S_work S) 131 = gi_aload 132 0 from rfl) rfl (x_get hm (show gTab (tb_S_work S) 132 = gi_get 135 9 9 from rfl) (o := 0) rfl rfl (x_get hm (show gTab (tb_S_work S) 135 = gi_get 138 1 6 from rfl) (o := 35) rfl rfl (x_iret hm (show gTab (tb_S_work S) 138 = gi_iret from rfl) h))))))))
set_option maxRecDepth 20000 in
theorem me_S_work {d : Nat} {Q : gQ} {X : gX} {H : gH} {x : Nat} {v1 : Int32} (h : gWp (gTab (tb_S_work (meth d))) Q X 0 [some (.ref (x + 0)), some (.int v1)] [] H) : meth (d + 1) 101 [.ref (x + 0), .int v1] H Q X := (show _ ∧ _ from ⟨Nat.le_of_ble_eq_true rfl, h⟩)
set_option maxRecDepth 20000 in
theorem wb_S_book_0 {S : Nat → gS} (hm : ∀ k, gMono (gTab (tb_S_book S) k)) {Q : gQ} {X : gX} {H : gH} {x : Nat} {P : Nat → Nat} {I A : Nat → Nat → Int32} {v1 : Int32}
    (h : S 141 [.ref (x + 0), .int v1, .int 60] (gset H x cck P I A) (fun r H' => gWp (gTab (tb_S_book S)) Q X 7 [some (.ref (x + 0)), some (.int v1), none] (r.toList ++ []) H') X) :
    gWp (gTab (tb_S_book S)) Q X 0 [some (.ref (x + 0)), some (.int v1), none] [] (gset H x cck P I A) :=
  x_aload hm (show gTab (tb_S_book S) 0 = gi_aload 1 0 from rfl) rfl (x_iload hm (show gTab (tb_S_book S) 1 = gi_iload 2 1 from rfl) rfl (x_st hm (show gTab (tb_S_book S) 2 = gi_st 4 (gf_push (.int 60)) from rfl) rfl (x_callv hm (show gTab (tb_S_book S) 4 = gi_callv (S 141) 9 7 3 from rfl) (o := 0) (as := [.int v1, .int 60]) (rest := []) rfl rfl (Nat.le_of_ble_eq_true rfl) (Nat.le_of_ble_eq_true rfl) rfl h)))
set_option maxRecDepth 20000 in
theorem wb_S_book_7 {S : Nat → gS} (hm : ∀ k, gMono (gTab (tb_S_book S) k)) {Q : gQ} {X : gX} {H : gH} {x : Nat} {P : Nat → Nat} {I A : Nat → Nat → Int32} {v1 : Int32}
    (h : S 67 [.ref (x + 1), .int v1] (gset H x cck P I A) (fun r H' => gWp (gTab (tb_S_book S)) Q X 15 [some (.ref (x + 0)), some (.int v1), none] (r.toList ++ []) H') X) :
    gWp (gTab (tb_S_book S)) Q X 7 [some (.ref (x + 0)), some (.int v1), none] [] (gset H x cck P I A) :=
  x_aload hm (show gTab (tb_S_book S) 7 = gi_aload 8 0 from rfl) rfl (x_get hm (show gTab (tb_S_book S) 8 = gi_get 11 9 0 from rfl) (o := 0) rfl rfl (x_iload hm (show gTab (tb_S_book S) 11 = gi_iload 12 1 from rfl) rfl (x_callv hm (show gTab (tb_S_book S) 12 = gi_callv (S 67) 7 15 2 from rfl) (o := 1) (as := [.int v1]) (rest := []) rfl rfl (Nat.le_of_ble_eq_true rfl) (Nat.le_of_ble_eq_true rfl) rfl h)))
set_option maxRecDepth 20000 in
theorem wb_S_book_15 {S : Nat → gS} (hm : ∀ k, gMono (gTab (tb_S_book S) k)) {Q : gQ} {X : gX} {H : gH} {x : Nat} {P : Nat → Nat} {I A : Nat → Nat → Int32} {v1 : Int32} (hP1 : cck (P 1) = (3 + 2, 0)) (hP8 : cck (P 8) = (0 + 2, 0))
    (h : S 1 [.ref (x + (P 8)), .ref (x + 1), .int (I (P 1) 0)] (gset H x cck P I A) (fun r H' => gWp (gTab (tb_S_book S)) Q X 33 [some (.ref (x + 0)), some (.int v1), none] (r.toList ++ []) H') X) :
    gWp (gTab (tb_S_book S)) Q X 15 [some (.ref (x + 0)), some (.int v1), none] [] (gset H x cck P I A) :=
  x_aload hm (show gTab (tb_S_book S) 15 = gi_aload 16 0 from rfl) rfl (x_get hm (show gTab (tb_S_book S) 16 = gi_get 19 9 8 from rfl) (o := 0) rfl rfl (x_aload hm (show gTab (tb_S_book S) 19 = gi_aload 20 0 from rfl) rfl (x_get hm (show gTab (tb_S_book S) 20 = gi_get 23 9 0 from rfl) (o := 0) rfl rfl (x_aload hm (show gTab (tb_S_book S) 23 = gi_aload 24 0 from rfl) rfl (x_get hm (show gTab (tb_S_book S) 24 = gi_get 27 9 1 from rfl) (o := 0) rfl rfl (x_get hm (show gTab (tb_S_book S) 27 = gi_get 30 3 0 from rfl) (o := (P 1)) hP1 rfl (x_callv hm (show gTab (tb_S_book S) 30 = gi_callv (S 1) 0 33 3 from rfl) (o := (P 8)) (as := [.ref (x + 1), .int (I (P 1) 0)]) (rest := []) rfl rfl (Nat.le_of_ble_eq_true rfl) (Nat.le_of_ble_eq_true rfl) hP8 h)))))))
set_option maxRecDepth 20000 in
theorem wb_S_book_33 {S : Nat → gS} (hm : ∀ k, gMono (gTab (tb_S_book S) k)) {Q : gQ} {X : gX} {H : gH} {x : Nat} {P : Nat → Nat} {I A : Nat → Nat → Int32} {v1 : Int32}
    (h : S 68 [.ref (x + 1)] (gset H x cck P I A) (fun r H' => gWp (gTab (tb_S_book S)) Q X 40 [some (.ref (x + 0)), some (.int v1), none] (r.toList ++ []) H') X) :
    gWp (gTab (tb_S_book S)) Q X 33 [some (.ref (x + 0)), some (.int v1), none] [] (gset H x cck P I A) :=
  x_aload hm (show gTab (tb_S_book S) 33 = gi_aload 34 0 from rfl) rfl (x_get hm (show gTab (tb_S_book S) 34 = gi_get 37 9 0 from rfl) (o := 0) rfl rfl (x_callv hm (show gTab (tb_S_book S) 37 = gi_callv (S 68) 7 40 1 from rfl) (o := 1) (as := []) (rest := []) rfl rfl (Nat.le_of_ble_eq_true rfl) (Nat.le_of_ble_eq_true rfl) rfl h))
set_option maxRecDepth 20000 in
theorem wb_S_book_40 {S : Nat → gS} (hm : ∀ k, gMono (gTab (tb_S_book S) k)) {Q : gQ} {X : gX} {H : gH} {x : Nat} {P : Nat → Nat} {I A : Nat → Nat → Int32} {s0 : Int32} {v1 : Int32} (hP8 : cck (P 8) = (0 + 2, 0))
    (h : ((¬ s0 = 0 → Q (some (.int (I (P 8) 2))) (gset H x cck (upP (upP P 7 ((P 8))) 8 ((P 7))) I A)) ∧ (¬ (¬ s0 = 0) → S 69 [.ref (x + 1)] (gset H x cck P I A) (fun r H' => gWp (gTab (tb_S_book S)) Q X 50 [some (.ref (x + 0)), some (.int v1), none] (r.toList ++ []) H') X))) :
    gWp (gTab (tb_S_book S)) Q X 40 [some (.ref (x + 0)), some (.int v1), none] [.int s0] (gset H x cck P I A) :=
  x_if hm (show gTab (tb_S_book S) 40 = gi_if 43 51 (fun x => ¬ x = 0) from rfl) (fun c0 => x_aload hm (show gTab (tb_S_book S) 51 = gi_aload 52 0 from rfl) rfl (x_get hm (show gTab (tb_S_book S) 52 = gi_get 55 9 7 from rfl) (o := 0) rfl rfl (x_astore hm (show gTab (tb_S_book S) 55 = gi_astore 56 2 from rfl) rfl (x_aload hm (show gTab (tb_S_book S) 56 = gi_aload 57 0 from rfl) rfl (x_aload hm (show gTab (tb_S_book S) 57 = gi_aload 58 0 from rfl) rfl (x_get hm (show gTab (tb_S_book S) 58 = gi_get 61 9 8 from rfl) (o := 0) rfl rfl (x_putr hm (show gTab (tb_S_book S) 61 = gi_putr 64 9 7 from rfl) (r := ((P 8))) rfl cck_9 rfl cr_7 (x_aload hm (show gTab (tb_S_book S) 64 = gi_aload 65 0 from rfl) rfl (x_aload hm (show gTab (tb_S_book S) 65 = gi_aload 66 2 from rfl) rfl (x_putr hm (show gTab (tb_S_book S) 66 = gi_putr 69 9 8 from rfl) (r := ((P 7))) rfl cck_9 rfl cr_8 (x_aload hm (show gTab (tb_S_book S) 69 = gi_aload 70 0 from rfl) rfl (x_get hm (show gTab (tb_S_book S) 70 = gi_get 73 9 7 from rfl) (o := 0) rfl rfl (x_get hm (show gTab (tb_S_book S) 73 = gi_get 76 0 2 from rfl) (o := (P 8)) hP8 rfl (x_iret hm (show gTab (tb_S_book S) 76 = gi_iret from rfl) (h.1 c0))))))))))))))) (fun c0 => x_aload hm (show gTab (tb_S_book S) 43 = gi_aload 44 0 from rfl) rfl (x_get hm (show gTab (tb_S_book S) 44 = gi_get 47 9 0 from rfl) (o := 0) rfl rfl (x_callv hm (show gTab (tb_S_book S) 47 = gi_callv (S 69) 7 50 1 from rfl) (o := 1) (as := []) (rest := []) rfl rfl (Nat.le_of_ble_eq_true rfl) (Nat.le_of_ble_eq_true rfl) rfl (h.2 c0))))
set_option maxRecDepth 20000 in
theorem wb_S_book_50 {S : Nat → gS} (hm : ∀ k, gMono (gTab (tb_S_book S) k)) {Q : gQ} {X : gX} {H : gH} {x : Nat} {P : Nat → Nat} {I A : Nat → Nat → Int32} {s0 : Int32} {v1 : Int32}
    (h : Q (some (.int s0)) (gset H x cck P I A)) :
    gWp (gTab (tb_S_book S)) Q X 50 [some (.ref (x + 0)), some (.int v1), none] [.int s0] (gset H x cck P I A) :=
  x_iret hm (show gTab (tb_S_book S) 50 = gi_iret from rfl) h
set_option maxRecDepth 20000 in
theorem me_S_book {d : Nat} {Q : gQ} {X : gX} {H : gH} {x : Nat} {v1 : Int32} (h : gWp (gTab (tb_S_book (meth d))) Q X 0 [some (.ref (x + 0)), some (.int v1), none] [] H) : meth (d + 1) 102 [.ref (x + 0), .int v1] H Q X := (show _ ∧ _ from ⟨Nat.le_of_ble_eq_true rfl, h⟩)
set_option maxRecDepth 20000 in
theorem wb_S_fault_0 {S : Nat → gS} (hm : ∀ k, gMono (gTab (tb_S_fault S) k)) {Q : gQ} {X : gX} {H : gH} {x : Nat} {P : Nat → Nat} {I A : Nat → Nat → Int32}
    (h : Q (some (.int (I 1 8))) (gset H x cck P I A)) :
    gWp (gTab (tb_S_fault S)) Q X 0 [some (.ref (x + 0))] [] (gset H x cck P I A) :=
  x_aload hm (show gTab (tb_S_fault S) 0 = gi_aload 1 0 from rfl) rfl (x_get hm (show gTab (tb_S_fault S) 1 = gi_get 4 9 0 from rfl) (o := 0) rfl rfl (x_get hm (show gTab (tb_S_fault S) 4 = gi_get 7 7 8 from rfl) (o := 1) rfl rfl (x_iret hm (show gTab (tb_S_fault S) 7 = gi_iret from rfl) h)))
set_option maxRecDepth 20000 in
theorem me_S_fault {d : Nat} {Q : gQ} {X : gX} {H : gH} {x : Nat} (h : gWp (gTab (tb_S_fault (meth d))) Q X 0 [some (.ref (x + 0))] [] H) : meth (d + 1) 103 [.ref (x + 0)] H Q X := (show _ ∧ _ from ⟨Nat.le_of_ble_eq_true rfl, h⟩)
set_option maxRecDepth 20000 in
theorem wb_S_undo_0 {S : Nat → gS} (hm : ∀ k, gMono (gTab (tb_S_undo S) k)) {Q : gQ} {X : gX} {H : gH} {x : Nat} {P : Nat → Nat} {I A : Nat → Nat → Int32}
    (h : ((1 ≤ (I 40 2) → S 44 [.ref (x + 40), .ref (x + 13)] (gset H x cck P I A) (fun r H' => gWp (gTab (tb_S_undo S)) Q X 24 [some (.ref (x + 0))] (r.toList ++ []) H') X) ∧ (¬ (1 ≤ (I 40 2)) → Q (some (.int ((-1)))) (gset H x cck P I A)))) :
    gWp (gTab (tb_S_undo S)) Q X 0 [some (.ref (x + 0))] [] (gset H x cck P I A) :=
  x_aload hm (show gTab (tb_S_undo S) 0 = gi_aload 1 0 from rfl) rfl (x_get hm (show gTab (tb_S_undo S) 1 = gi_get 4 9 10 from rfl) (o := 0) rfl rfl (x_get hm (show gTab (tb_S_undo S) 4 = gi_get 7 5 2 from rfl) (o := 40) rfl rfl (x_st hm (show gTab (tb_S_undo S) 7 = gi_st 8 (gf_push (.int 1)) from rfl) rfl (x_icmp hm (show gTab (tb_S_undo S) 8 = gi_icmp 11 13 (fun x y => y ≤ x) from rfl) (fun c0 => x_aload hm (show gTab (tb_S_undo S) 13 = gi_aload 14 0 from rfl) rfl (x_get hm (show gTab (tb_S_undo S) 14 = gi_get 17 9 10 from rfl) (o := 0) rfl rfl (x_aload hm (show gTab (tb_S_undo S) 17 = gi_aload 18 0 from rfl) rfl (x_get hm (show gTab (tb_S_undo S) 18 = gi_get 21 9 3 from rfl) (o := 0) rfl rfl (x_callv hm (show gTab (tb_S_undo S) 21 = gi_callv (S 44) 5 24 2 from rfl) (o := 40) (as := [.ref (x + 13)]) (rest := []) rfl rfl (Nat.le_of_ble_eq_true rfl) (Nat.le_of_ble_eq_true rfl) rfl (h.1 c0)))))) (fun c0 => x_st hm (show gTab (tb_S_undo S) 11 = gi_st 12 (gf_push (.int (-1))) from rfl) rfl (x_iret hm (show gTab (tb_S_undo S) 12 = gi_iret from rfl) (h.2 c0)))))))
set_option maxRecDepth 20000 in
theorem wb_S_undo_24 {S : Nat → gS} (hm : ∀ k, gMono (gTab (tb_S_undo S) k)) {Q : gQ} {X : gX} {H : gH} {x : Nat} {P : Nat → Nat} {I A : Nat → Nat → Int32}
    (h : Q (some (.int (I 40 2))) (gset H x cck P (upI I 0 13 0) A)) :
    gWp (gTab (tb_S_undo S)) Q X 24 [some (.ref (x + 0))] [] (gset H x cck P I A) :=
  x_aload hm (show gTab (tb_S_undo S) 24 = gi_aload 25 0 from rfl) rfl (x_st hm (show gTab (tb_S_undo S) 25 = gi_st 26 (gf_push (.int 0)) from rfl) rfl (x_puti hm (show gTab (tb_S_undo S) 26 = gi_puti 29 9 13 from rfl) (o := 0) rfl rfl cp_9_13 (x_aload hm (show gTab (tb_S_undo S) 29 = gi_aload 30 0 from rfl) rfl (x_get hm (show gTab (tb_S_undo S) 30 = gi_get 33 9 10 from rfl) (o := 0) rfl rfl (x_get hm (show gTab (tb_S_undo S) 33 = gi_get 36 5 2 from rfl) (o := 40) rfl rfl (x_iret hm (show gTab (tb_S_undo S) 36 = gi_iret from rfl) h))))))
set_option maxRecDepth 20000 in
theorem me_S_undo {d : Nat} {Q : gQ} {X : gX} {H : gH} {x : Nat} (h : gWp (gTab (tb_S_undo (meth d))) Q X 0 [some (.ref (x + 0))] [] H) : meth (d + 1) 104 [.ref (x + 0)] H Q X := (show _ ∧ _ from ⟨Nat.le_of_ble_eq_true rfl, h⟩)
set_option maxRecDepth 20000 in
theorem wb_S_told_0 {S : Nat → gS} (hm : ∀ k, gMono (gTab (tb_S_told S) k)) {Q : gQ} {X : gX} {H : gH} {x : Nat} {P : Nat → Nat} {I A : Nat → Nat → Int32} {v1 : Int32}
    (h : S 137 [.int v1, .int 0, .int 10] (gset H x cck P I A) (fun r H' => gWp (gTab (tb_S_told S)) Q X 8 [some (.ref (x + 0)), some (.int v1)] (r.toList ++ [.ref (x + 0)]) H') X) :
    gWp (gTab (tb_S_told S)) Q X 0 [some (.ref (x + 0)), some (.int v1)] [] (gset H x cck P I A) :=
  x_aload hm (show gTab (tb_S_told S) 0 = gi_aload 1 0 from rfl) rfl (x_iload hm (show gTab (tb_S_told S) 1 = gi_iload 2 1 from rfl) rfl (x_st hm (show gTab (tb_S_told S) 2 = gi_st 3 (gf_push (.int 0)) from rfl) rfl (x_st hm (show gTab (tb_S_told S) 3 = gi_st 5 (gf_push (.int 10)) from rfl) rfl (x_calls hm (show gTab (tb_S_told S) 5 = gi_calls (S 137) 8 3 from rfl) (as := [.int v1, .int 0, .int 10]) (rest := [.ref (x + 0)]) rfl rfl (Nat.le_of_ble_eq_true rfl) (Nat.le_of_ble_eq_true rfl) h))))
set_option maxRecDepth 20000 in
theorem wb_S_told_8 {S : Nat → gS} (hm : ∀ k, gMono (gTab (tb_S_told S) k)) {Q : gQ} {X : gX} {H : gH} {x : Nat} {P : Nat → Nat} {I A : Nat → Nat → Int32} {s1 : Int32} {v1 : Int32}
    (h : S 138 [.ref (x + 0), .int s1] (gset H x cck P I A) (fun r H' => gWp (gTab (tb_S_told S)) Q X 11 [some (.ref (x + 0)), some (.int v1)] (r.toList ++ []) H') X) :
    gWp (gTab (tb_S_told S)) Q X 8 [some (.ref (x + 0)), some (.int v1)] [.int s1, .ref (x + 0)] (gset H x cck P I A) :=
  x_callv hm (show gTab (tb_S_told S) 8 = gi_callv (S 138) 9 11 2 from rfl) (o := 0) (as := [.int s1]) (rest := []) rfl rfl (Nat.le_of_ble_eq_true rfl) (Nat.le_of_ble_eq_true rfl) rfl h
set_option maxRecDepth 20000 in
theorem wb_S_told_11 {S : Nat → gS} (hm : ∀ k, gMono (gTab (tb_S_told S) k)) {Q : gQ} {X : gX} {H : gH} {x : Nat} {P : Nat → Nat} {I A : Nat → Nat → Int32} {v1 : Int32}
    (h : gWp (gTab (tb_S_told S)) Q X (if v1.toInt < 0 ∨ 0 + (([68, 76, 84, 92, 100, 108, 116, 128, 140, 148] : List Nat).length : Int) ≤ v1.toInt then 153 else ([68, 76, 84, 92, 100, 108, 116, 128, 140, 148] : List Nat).getD (v1.toInt - 0).toNat 153) [some (.ref (x + 0)), some (.int v1)] [] (gset H x cck P I A)) :
    gWp (gTab (tb_S_told S)) Q X 11 [some (.ref (x + 0)), some (.int v1)] [] (gset H x cck P I A) :=
  x_iload hm (show gTab (tb_S_told S) 11 = gi_iload 12 1 from rfl) rfl (x_tsw hm (show gTab (tb_S_told S) 12 = gi_tsw 0 [68, 76, 84, 92, 100, 108, 116, 128, 140, 148] 153 from rfl) h)
set_option maxRecDepth 20000 in
theorem wb_S_told_68 {S : Nat → gS} (hm : ∀ k, gMono (gTab (tb_S_told S) k)) {Q : gQ} {X : gX} {H : gH} {x : Nat} {P : Nat → Nat} {I A : Nat → Nat → Int32} {v1 : Int32} (hP1 : cck (P 1) = (3 + 2, 0))
    (h : Q (some (.int (I (P 1) 0))) (gset H x cck P I A)) :
    gWp (gTab (tb_S_told S)) Q X 68 [some (.ref (x + 0)), some (.int v1)] [] (gset H x cck P I A) :=
  x_aload hm (show gTab (tb_S_told S) 68 = gi_aload 69 0 from rfl) rfl (x_get hm (show gTab (tb_S_told S) 69 = gi_get 72 9 1 from rfl) (o := 0) rfl rfl (x_get hm (show gTab (tb_S_told S) 72 = gi_get 75 3 0 from rfl) (o := (P 1)) hP1 rfl (x_iret hm (show gTab (tb_S_told S) 75 = gi_iret from rfl) h)))
set_option maxRecDepth 20000 in
theorem wb_S_told_76 {S : Nat → gS} (hm : ∀ k, gMono (gTab (tb_S_told S) k)) {Q : gQ} {X : gX} {H : gH} {x : Nat} {P : Nat → Nat} {I A : Nat → Nat → Int32} {v1 : Int32} (hP1 : cck (P 1) = (3 + 2, 0))
    (h : Q (some (.int (I (P 1) 1))) (gset H x cck P I A)) :
    gWp (gTab (tb_S_told S)) Q X 76 [some (.ref (x + 0)), some (.int v1)] [] (gset H x cck P I A) :=
  x_aload hm (show gTab (tb_S_told S) 76 = gi_aload 77 0 from rfl) rfl (x_get hm (show gTab (tb_S_told S) 77 = gi_get 80 9 1 from rfl) (o := 0) rfl rfl (x_get hm (show gTab (tb_S_told S) 80 = gi_get 83 3 1 from rfl) (o := (P 1)) hP1 rfl (x_iret hm (show gTab (tb_S_told S) 83 = gi_iret from rfl) h)))
set_option maxRecDepth 20000 in
theorem wb_S_told_84 {S : Nat → gS} (hm : ∀ k, gMono (gTab (tb_S_told S) k)) {Q : gQ} {X : gX} {H : gH} {x : Nat} {P : Nat → Nat} {I A : Nat → Nat → Int32} {v1 : Int32}
    (h : Q (some (.int (I 13 7))) (gset H x cck P I A)) :
    gWp (gTab (tb_S_told S)) Q X 84 [some (.ref (x + 0)), some (.int v1)] [] (gset H x cck P I A) :=
  x_aload hm (show gTab (tb_S_told S) 84 = gi_aload 85 0 from rfl) rfl (x_get hm (show gTab (tb_S_told S) 85 = gi_get 88 9 3 from rfl) (o := 0) rfl rfl (x_get hm (show gTab (tb_S_told S) 88 = gi_get 91 8 7 from rfl) (o := 13) rfl rfl (x_iret hm (show gTab (tb_S_told S) 91 = gi_iret from rfl) h)))
set_option maxRecDepth 20000 in
theorem wb_S_told_92 {S : Nat → gS} (hm : ∀ k, gMono (gTab (tb_S_told S) k)) {Q : gQ} {X : gX} {H : gH} {x : Nat} {P : Nat → Nat} {I A : Nat → Nat → Int32} {v1 : Int32}
    (h : Q (some (.int (I 13 5))) (gset H x cck P I A)) :
    gWp (gTab (tb_S_told S)) Q X 92 [some (.ref (x + 0)), some (.int v1)] [] (gset H x cck P I A) :=
  x_aload hm (show gTab (tb_S_told S) 92 = gi_aload 93 0 from rfl) rfl (x_get hm (show gTab (tb_S_told S) 93 = gi_get 96 9 3 from rfl) (o := 0) rfl rfl (x_get hm (show gTab (tb_S_told S) 96 = gi_get 99 8 5 from rfl) (o := 13) rfl rfl (x_iret hm (show gTab (tb_S_told S) 99 = gi_iret from rfl) h)))
set_option maxRecDepth 20000 in
theorem wb_S_told_100 {S : Nat → gS} (hm : ∀ k, gMono (gTab (tb_S_told S) k)) {Q : gQ} {X : gX} {H : gH} {x : Nat} {P : Nat → Nat} {I A : Nat → Nat → Int32} {v1 : Int32}
    (h : Q (some (.int (I 13 6))) (gset H x cck P I A)) :
    gWp (gTab (tb_S_told S)) Q X 100 [some (.ref (x + 0)), some (.int v1)] [] (gset H x cck P I A) :=
  x_aload hm (show gTab (tb_S_told S) 100 = gi_aload 101 0 from rfl) rfl (x_get hm (show gTab (tb_S_told S) 101 = gi_get 104 9 3 from rfl) (o := 0) rfl rfl (x_get hm (show gTab (tb_S_told S) 104 = gi_get 107 8 6 from rfl) (o := 13) rfl rfl (x_iret hm (show gTab (tb_S_told S) 107 = gi_iret from rfl) h)))
set_option maxRecDepth 20000 in
theorem wb_S_told_108 {S : Nat → gS} (hm : ∀ k, gMono (gTab (tb_S_told S) k)) {Q : gQ} {X : gX} {H : gH} {x : Nat} {P : Nat → Nat} {I A : Nat → Nat → Int32} {v1 : Int32}
    (h : Q (some (.int (I 13 4))) (gset H x cck P I A)) :
    gWp (gTab (tb_S_told S)) Q X 108 [some (.ref (x + 0)), some (.int v1)] [] (gset H x cck P I A) :=
  x_aload hm (show gTab (tb_S_told S) 108 = gi_aload 109 0 from rfl) rfl (x_get hm (show gTab (tb_S_told S) 109 = gi_get 112 9 3 from rfl) (o := 0) rfl rfl (x_get hm (show gTab (tb_S_told S) 112 = gi_get 115 8 4 from rfl) (o := 13) rfl rfl (x_iret hm (show gTab (tb_S_told S) 115 = gi_iret from rfl) h)))
set_option maxRecDepth 20000 in
theorem wb_S_told_116 {S : Nat → gS} (hm : ∀ k, gMono (gTab (tb_S_told S) k)) {Q : gQ} {X : gX} {H : gH} {x : Nat} {P : Nat → Nat} {I A : Nat → Nat → Int32} {v1 : Int32}
    (h : S 88 [.ref (x + 13), .ref (x + (P 1))] (gset H x cck P I A) (fun r H' => gWp (gTab (tb_S_told S)) Q X 127 [some (.ref (x + 0)), some (.int v1)] (r.toList ++ []) H') X) :
    gWp (gTab (tb_S_told S)) Q X 116 [some (.ref (x + 0)), some (.int v1)] [] (gset H x cck P I A) :=
  x_aload hm (show gTab (tb_S_told S) 116 = gi_aload 117 0 from rfl) rfl (x_get hm (show gTab (tb_S_told S) 117 = gi_get 120 9 3 from rfl) (o := 0) rfl rfl (x_aload hm (show gTab (tb_S_told S) 120 = gi_aload 121 0 from rfl) rfl (x_get hm (show gTab (tb_S_told S) 121 = gi_get 124 9 1 from rfl) (o := 0) rfl rfl (x_callv hm (show gTab (tb_S_told S) 124 = gi_callv (S 88) 8 127 2 from rfl) (o := 13) (as := [.ref (x + (P 1))]) (rest := []) rfl rfl (Nat.le_of_ble_eq_true rfl) (Nat.le_of_ble_eq_true rfl) rfl h))))
set_option maxRecDepth 20000 in
theorem wb_S_told_127 {S : Nat → gS} (hm : ∀ k, gMono (gTab (tb_S_told S) k)) {Q : gQ} {X : gX} {H : gH} {x : Nat} {P : Nat → Nat} {I A : Nat → Nat → Int32} {s0 : Int32} {v1 : Int32}
    (h : Q (some (.int s0)) (gset H x cck P I A)) :
    gWp (gTab (tb_S_told S)) Q X 127 [some (.ref (x + 0)), some (.int v1)] [.int s0] (gset H x cck P I A) :=
  x_iret hm (show gTab (tb_S_told S) 127 = gi_iret from rfl) h
set_option maxRecDepth 20000 in
theorem wb_S_told_128 {S : Nat → gS} (hm : ∀ k, gMono (gTab (tb_S_told S) k)) {Q : gQ} {X : gX} {H : gH} {x : Nat} {P : Nat → Nat} {I A : Nat → Nat → Int32} {v1 : Int32}
    (h : S 89 [.ref (x + 13), .ref (x + (P 1))] (gset H x cck P I A) (fun r H' => gWp (gTab (tb_S_told S)) Q X 139 [some (.ref (x + 0)), some (.int v1)] (r.toList ++ []) H') X) :
    gWp (gTab (tb_S_told S)) Q X 128 [some (.ref (x + 0)), some (.int v1)] [] (gset H x cck P I A) :=
  x_aload hm (show gTab (tb_S_told S) 128 = gi_aload 129 0 from rfl) rfl (x_get hm (show gTab (tb_S_told S) 129 = gi_get 132 9 3 from rfl) (o := 0) rfl rfl (x_aload hm (show gTab (tb_S_told S) 132 = gi_aload 133 0 from rfl) rfl (x_get hm (show gTab (tb_S_told S) 133 = gi_get 136 9 1 from rfl) (o := 0) rfl rfl (x_callv hm (show gTab (tb_S_told S) 136 = gi_callv (S 89) 8 139 2 from rfl) (o := 13) (as := [.ref (x + (P 1))]) (rest := []) rfl rfl (Nat.le_of_ble_eq_true rfl) (Nat.le_of_ble_eq_true rfl) rfl h))))
set_option maxRecDepth 20000 in
theorem wb_S_told_139 {S : Nat → gS} (hm : ∀ k, gMono (gTab (tb_S_told S) k)) {Q : gQ} {X : gX} {H : gH} {x : Nat} {P : Nat → Nat} {I A : Nat → Nat → Int32} {s0 : Int32} {v1 : Int32}
    (h : Q (some (.int s0)) (gset H x cck P I A)) :
    gWp (gTab (tb_S_told S)) Q X 139 [some (.ref (x + 0)), some (.int v1)] [.int s0] (gset H x cck P I A) :=
  x_iret hm (show gTab (tb_S_told S) 139 = gi_iret from rfl) h
set_option maxRecDepth 20000 in
theorem wb_S_told_140 {S : Nat → gS} (hm : ∀ k, gMono (gTab (tb_S_told S) k)) {Q : gQ} {X : gX} {H : gH} {x : Nat} {P : Nat → Nat} {I A : Nat → Nat → Int32} {v1 : Int32} (hP7 : cck (P 7) = (0 + 2, 0))
    (h : Q (some (.int (I (P 7) 2))) (gset H x cck P I A)) :
    gWp (gTab (tb_S_told S)) Q X 140 [some (.ref (x + 0)), some (.int v1)] [] (gset H x cck P I A) :=
  x_aload hm (show gTab (tb_S_told S) 140 = gi_aload 141 0 from rfl) rfl (x_get hm (show gTab (tb_S_told S) 141 = gi_get 144 9 7 from rfl) (o := 0) rfl rfl (x_get hm (show gTab (tb_S_told S) 144 = gi_get 147 0 2 from rfl) (o := (P 7)) hP7 rfl (x_iret hm (show gTab (tb_S_told S) 147 = gi_iret from rfl) h)))
set_option maxRecDepth 20000 in
theorem wb_S_told_148 {S : Nat → gS} (hm : ∀ k, gMono (gTab (tb_S_told S) k)) {Q : gQ} {X : gX} {H : gH} {x : Nat} {P : Nat → Nat} {I A : Nat → Nat → Int32} {v1 : Int32}
    (h : Q (some (.int (I 0 13))) (gset H x cck P I A)) :
    gWp (gTab (tb_S_told S)) Q X 148 [some (.ref (x + 0)), some (.int v1)] [] (gset H x cck P I A) :=
  x_aload hm (show gTab (tb_S_told S) 148 = gi_aload 149 0 from rfl) rfl (x_get hm (show gTab (tb_S_told S) 149 = gi_get 152 9 13 from rfl) (o := 0) rfl rfl (x_iret hm (show gTab (tb_S_told S) 152 = gi_iret from rfl) h))
set_option maxRecDepth 20000 in
theorem wb_S_told_153 {S : Nat → gS} (hm : ∀ k, gMono (gTab (tb_S_told S) k)) {Q : gQ} {X : gX} {H : gH} {x : Nat} {P : Nat → Nat} {I A : Nat → Nat → Int32} {v1 : Int32} (hP1 : cck (P 1) = (3 + 2, 0))
    (h : S 24 [.ref (x + (P 1))] (gset H x cck P I A) (fun r H' => gWp (gTab (tb_S_told S)) Q X 160 [some (.ref (x + 0)), some (.int v1)] (r.toList ++ []) H') X) :
    gWp (gTab (tb_S_told S)) Q X 153 [some (.ref (x + 0)), some (.int v1)] [] (gset H x cck P I A) :=
  x_aload hm (show gTab (tb_S_told S) 153 = gi_aload 154 0 from rfl) rfl (x_get hm (show gTab (tb_S_told S) 154 = gi_get 157 9 1 from rfl) (o := 0) rfl rfl (x_callv hm (show gTab (tb_S_told S) 157 = gi_callv (S 24) 3 160 1 from rfl) (o := (P 1)) (as := []) (rest := []) rfl rfl (Nat.le_of_ble_eq_true rfl) (Nat.le_of_ble_eq_true rfl) hP1 h))
set_option maxRecDepth 20000 in
theorem wb_S_told_160 {S : Nat → gS} (hm : ∀ k, gMono (gTab (tb_S_told S) k)) {Q : gQ} {X : gX} {H : gH} {x : Nat} {P : Nat → Nat} {I A : Nat → Nat → Int32} {s0 : Int32} {v1 : Int32}
    (h : Q (some (.int s0)) (gset H x cck P I A)) :
    gWp (gTab (tb_S_told S)) Q X 160 [some (.ref (x + 0)), some (.int v1)] [.int s0] (gset H x cck P I A) :=
  x_iret hm (show gTab (tb_S_told S) 160 = gi_iret from rfl) h
set_option maxRecDepth 20000 in
theorem me_S_told {d : Nat} {Q : gQ} {X : gX} {H : gH} {x : Nat} {v1 : Int32} (h : gWp (gTab (tb_S_told (meth d))) Q X 0 [some (.ref (x + 0)), some (.int v1)] [] H) : meth (d + 1) 105 [.ref (x + 0), .int v1] H Q X := (show _ ∧ _ from ⟨Nat.le_of_ble_eq_true rfl, h⟩)
set_option maxRecDepth 20000 in
theorem wb_S_town_0 {S : Nat → gS} (hm : ∀ k, gMono (gTab (tb_S_town S) k)) {Q : gQ} {X : gX} {H : gH} {x : Nat} {P : Nat → Nat} {I A : Nat → Nat → Int32} {v1 : Int32} {v2 : Int32}
    (h : S 140 [.ref (x + 0), .int v1] (gset H x cck P I A) (fun r H' => gWp (gTab (tb_S_town S)) Q X 5 [some (.ref (x + 0)), some (.int v1), some (.int v2)] (r.toList ++ []) H') X) :
    gWp (gTab (tb_S_town S)) Q X 0 [some (.ref (x + 0)), some (.int v1), some (.int v2)] [] (gset H x cck P I A) :=
  x_aload hm (show gTab (tb_S_town S) 0 = gi_aload 1 0 from rfl) rfl (x_iload hm (show gTab (tb_S_town S) 1 = gi_iload 2 1 from rfl) rfl (x_callv hm (show gTab (tb_S_town S) 2 = gi_callv (S 140) 9 5 2 from rfl) (o := 0) (as := [.int v1]) (rest := []) rfl rfl (Nat.le_of_ble_eq_true rfl) (Nat.le_of_ble_eq_true rfl) rfl h))
set_option maxRecDepth 20000 in
theorem wb_S_town_5 {S : Nat → gS} (hm : ∀ k, gMono (gTab (tb_S_town S) k)) {Q : gQ} {X : gX} {H : gH} {x : Nat} {P : Nat → Nat} {I A : Nat → Nat → Int32} {v1 : Int32} {v2 : Int32}
    (h : S 137 [.int v2, .int 0, .int 6] (gset H x cck P I A) (fun r H' => gWp (gTab (tb_S_town S)) Q X 13 [some (.ref (x + 0)), some (.int v1), some (.int v2)] (r.toList ++ [.ref (x + 0)]) H') X) :
    gWp (gTab (tb_S_town S)) Q X 5 [some (.ref (x + 0)), some (.int v1), some (.int v2)] [] (gset H x cck P I A) :=
  x_aload hm (show gTab (tb_S_town S) 5 = gi_aload 6 0 from rfl) rfl (x_iload hm (show gTab (tb_S_town S) 6 = gi_iload 7 2 from rfl) rfl (x_st hm (show gTab (tb_S_town S) 7 = gi_st 8 (gf_push (.int 0)) from rfl) rfl (x_st hm (show gTab (tb_S_town S) 8 = gi_st 10 (gf_push (.int 6)) from rfl) rfl (x_calls hm (show gTab (tb_S_town S) 10 = gi_calls (S 137) 13 3 from rfl) (as := [.int v2, .int 0, .int 6]) (rest := [.ref (x + 0)]) rfl rfl (Nat.le_of_ble_eq_true rfl) (Nat.le_of_ble_eq_true rfl) h))))
set_option maxRecDepth 20000 in
theorem wb_S_town_13 {S : Nat → gS} (hm : ∀ k, gMono (gTab (tb_S_town S) k)) {Q : gQ} {X : gX} {H : gH} {x : Nat} {P : Nat → Nat} {I A : Nat → Nat → Int32} {s1 : Int32} {v1 : Int32} {v2 : Int32}
    (h : S 138 [.ref (x + 0), .int s1] (gset H x cck P I A) (fun r H' => gWp (gTab (tb_S_town S)) Q X 16 [some (.ref (x + 0)), some (.int v1), some (.int v2)] (r.toList ++ []) H') X) :
    gWp (gTab (tb_S_town S)) Q X 13 [some (.ref (x + 0)), some (.int v1), some (.int v2)] [.int s1, .ref (x + 0)] (gset H x cck P I A) :=
  x_callv hm (show gTab (tb_S_town S) 13 = gi_callv (S 138) 9 16 2 from rfl) (o := 0) (as := [.int s1]) (rest := []) rfl rfl (Nat.le_of_ble_eq_true rfl) (Nat.le_of_ble_eq_true rfl) rfl h
set_option maxRecDepth 20000 in
theorem wb_S_town_16 {S : Nat → gS} (hm : ∀ k, gMono (gTab (tb_S_town S) k)) {Q : gQ} {X : gX} {H : gH} {x : Nat} {P : Nat → Nat} {I A : Nat → Nat → Int32} {v1 : Int32} {v2 : Int32}
    (h : gWp (gTab (tb_S_town S)) Q X (if v2.toInt < 0 ∨ 0 + (([56, 66, 76, 86, 95, 105] : List Nat).length : Int) ≤ v2.toInt then 114 else ([56, 66, 76, 86, 95, 105] : List Nat).getD (v2.toInt - 0).toNat 114) [some (.ref (x + 0)), some (.int v1), some (.int v2)] [] (gset H x cck P I A)) :
    gWp (gTab (tb_S_town S)) Q X 16 [some (.ref (x + 0)), some (.int v1), some (.int v2)] [] (gset H x cck P I A) :=
  x_iload hm (show gTab (tb_S_town S) 16 = gi_iload 17 2 from rfl) rfl (x_tsw hm (show gTab (tb_S_town S) 17 = gi_tsw 0 [56, 66, 76, 86, 95, 105] 114 from rfl) h)
set_option maxRecDepth 20000 in
theorem wb_S_town_56 {S : Nat → gS} (hm : ∀ k, gMono (gTab (tb_S_town S) k)) {Q : gQ} {X : gX} {H : gH} {x : Nat} {P : Nat → Nat} {I A : Nat → Nat → Int32} {v1 : Int32} {v2 : Int32}
    (h : (vp_in v1 8 ∧ Q (some (.int (A 14 v1.toNatClampNeg))) (gset H x cck P I A))) :
    gWp (gTab (tb_S_town S)) Q X 56 [some (.ref (x + 0)), some (.int v1), some (.int v2)] [] (gset H x cck P I A) :=
  x_aload hm (show gTab (tb_S_town S) 56 = gi_aload 57 0 from rfl) rfl (x_get hm (show gTab (tb_S_town S) 57 = gi_get 60 9 3 from rfl) (o := 0) rfl rfl (x_get hm (show gTab (tb_S_town S) 60 = gi_get 63 8 0 from rfl) (o := 13) rfl rfl (x_iload hm (show gTab (tb_S_town S) 63 = gi_iload 64 1 from rfl) rfl (x_iald hm (show gTab (tb_S_town S) 64 = gi_iald 65 from rfl) (o := 14) rfl h.1 (x_iret hm (show gTab (tb_S_town S) 65 = gi_iret from rfl) h.2)))))
set_option maxRecDepth 20000 in
theorem wb_S_town_66 {S : Nat → gS} (hm : ∀ k, gMono (gTab (tb_S_town S) k)) {Q : gQ} {X : gX} {H : gH} {x : Nat} {P : Nat → Nat} {I A : Nat → Nat → Int32} {v1 : Int32} {v2 : Int32}
    (h : (vp_in v1 8 ∧ Q (some (.int (A 15 v1.toNatClampNeg))) (gset H x cck P I A))) :
    gWp (gTab (tb_S_town S)) Q X 66 [some (.ref (x + 0)), some (.int v1), some (.int v2)] [] (gset H x cck P I A) :=
  x_aload hm (show gTab (tb_S_town S) 66 = gi_aload 67 0 from rfl) rfl (x_get hm (show gTab (tb_S_town S) 67 = gi_get 70 9 3 from rfl) (o := 0) rfl rfl (x_get hm (show gTab (tb_S_town S) 70 = gi_get 73 8 1 from rfl) (o := 13) rfl rfl (x_iload hm (show gTab (tb_S_town S) 73 = gi_iload 74 1 from rfl) rfl (x_iald hm (show gTab (tb_S_town S) 74 = gi_iald 75 from rfl) (o := 15) rfl h.1 (x_iret hm (show gTab (tb_S_town S) 75 = gi_iret from rfl) h.2)))))
set_option maxRecDepth 20000 in
theorem wb_S_town_76 {S : Nat → gS} (hm : ∀ k, gMono (gTab (tb_S_town S) k)) {Q : gQ} {X : gX} {H : gH} {x : Nat} {P : Nat → Nat} {I A : Nat → Nat → Int32} {v1 : Int32} {v2 : Int32} (hP1 : cck (P 1) = (3 + 2, 0))
    (h : (vp_in v1 8 ∧ Q (some (.int (A ((P 1) + 1) v1.toNatClampNeg))) (gset H x cck P I A))) :
    gWp (gTab (tb_S_town S)) Q X 76 [some (.ref (x + 0)), some (.int v1), some (.int v2)] [] (gset H x cck P I A) :=
  x_aload hm (show gTab (tb_S_town S) 76 = gi_aload 77 0 from rfl) rfl (x_get hm (show gTab (tb_S_town S) 77 = gi_get 80 9 1 from rfl) (o := 0) rfl rfl (x_get hm (show gTab (tb_S_town S) 80 = gi_get 83 3 2 from rfl) (o := (P 1)) hP1 rfl (x_iload hm (show gTab (tb_S_town S) 83 = gi_iload 84 1 from rfl) rfl (x_iald hm (show gTab (tb_S_town S) 84 = gi_iald 85 from rfl) (o := ((P 1) + 1)) (ca_3_1 hP1) h.1 (x_iret hm (show gTab (tb_S_town S) 85 = gi_iret from rfl) h.2)))))
set_option maxRecDepth 20000 in
theorem wb_S_town_86 {S : Nat → gS} (hm : ∀ k, gMono (gTab (tb_S_town S) k)) {Q : gQ} {X : gX} {H : gH} {x : Nat} {P : Nat → Nat} {I A : Nat → Nat → Int32} {v1 : Int32} {v2 : Int32}
    (h : S 82 [.ref (x + 13), .int v1] (gset H x cck P I A) (fun r H' => gWp (gTab (tb_S_town S)) Q X 94 [some (.ref (x + 0)), some (.int v1), some (.int v2)] (r.toList ++ []) H') X) :
    gWp (gTab (tb_S_town S)) Q X 86 [some (.ref (x + 0)), some (.int v1), some (.int v2)] [] (gset H x cck P I A) :=
  x_aload hm (show gTab (tb_S_town S) 86 = gi_aload 87 0 from rfl) rfl (x_get hm (show gTab (tb_S_town S) 87 = gi_get 90 9 3 from rfl) (o := 0) rfl rfl (x_iload hm (show gTab (tb_S_town S) 90 = gi_iload 91 1 from rfl) rfl (x_callv hm (show gTab (tb_S_town S) 91 = gi_callv (S 82) 8 94 2 from rfl) (o := 13) (as := [.int v1]) (rest := []) rfl rfl (Nat.le_of_ble_eq_true rfl) (Nat.le_of_ble_eq_true rfl) rfl h)))
set_option maxRecDepth 20000 in
theorem wb_S_town_94 {S : Nat → gS} (hm : ∀ k, gMono (gTab (tb_S_town S) k)) {Q : gQ} {X : gX} {H : gH} {x : Nat} {P : Nat → Nat} {I A : Nat → Nat → Int32} {s0 : Int32} {v1 : Int32} {v2 : Int32}
    (h : Q (some (.int s0)) (gset H x cck P I A)) :
    gWp (gTab (tb_S_town S)) Q X 94 [some (.ref (x + 0)), some (.int v1), some (.int v2)] [.int s0] (gset H x cck P I A) :=
  x_iret hm (show gTab (tb_S_town S) 94 = gi_iret from rfl) h
set_option maxRecDepth 20000 in
theorem wb_S_town_95 {S : Nat → gS} (hm : ∀ k, gMono (gTab (tb_S_town S) k)) {Q : gQ} {X : gX} {H : gH} {x : Nat} {P : Nat → Nat} {I A : Nat → Nat → Int32} {v1 : Int32} {v2 : Int32} (hP1 : cck (P 1) = (3 + 2, 0))
    (h : (vp_in v1 8 ∧ Q (some (.int (A ((P 1) + 2) v1.toNatClampNeg))) (gset H x cck P I A))) :
    gWp (gTab (tb_S_town S)) Q X 95 [some (.ref (x + 0)), some (.int v1), some (.int v2)] [] (gset H x cck P I A) :=
  x_aload hm (show gTab (tb_S_town S) 95 = gi_aload 96 0 from rfl) rfl (x_get hm (show gTab (tb_S_town S) 96 = gi_get 99 9 1 from rfl) (o := 0) rfl rfl (x_get hm (show gTab (tb_S_town S) 99 = gi_get 102 3 3 from rfl) (o := (P 1)) hP1 rfl (x_iload hm (show gTab (tb_S_town S) 102 = gi_iload 103 1 from rfl) rfl (x_iald hm (show gTab (tb_S_town S) 103 = gi_iald 104 from rfl) (o := ((P 1) + 2)) (ca_3_2 hP1) h.1 (x_iret hm (show gTab (tb_S_town S) 104 = gi_iret from rfl) h.2)))))
set_option maxRecDepth 20000 in
theorem wb_S_town_105 {S : Nat → gS} (hm : ∀ k, gMono (gTab (tb_S_town S) k)) {Q : gQ} {X : gX} {H : gH} {x : Nat} {P : Nat → Nat} {I A : Nat → Nat → Int32} {v1 : Int32} {v2 : Int32}
    (h : S 85 [.ref (x + 13), .int v1] (gset H x cck P I A) (fun r H' => gWp (gTab (tb_S_town S)) Q X 113 [some (.ref (x + 0)), some (.int v1), some (.int v2)] (r.toList ++ []) H') X) :
    gWp (gTab (tb_S_town S)) Q X 105 [some (.ref (x + 0)), some (.int v1), some (.int v2)] [] (gset H x cck P I A) :=
  x_aload hm (show gTab (tb_S_town S) 105 = gi_aload 106 0 from rfl) rfl (x_get hm (show gTab (tb_S_town S) 106 = gi_get 109 9 3 from rfl) (o := 0) rfl rfl (x_iload hm (show gTab (tb_S_town S) 109 = gi_iload 110 1 from rfl) rfl (x_callv hm (show gTab (tb_S_town S) 110 = gi_callv (S 85) 8 113 2 from rfl) (o := 13) (as := [.int v1]) (rest := []) rfl rfl (Nat.le_of_ble_eq_true rfl) (Nat.le_of_ble_eq_true rfl) rfl h)))
set_option maxRecDepth 20000 in
theorem wb_S_town_113 {S : Nat → gS} (hm : ∀ k, gMono (gTab (tb_S_town S) k)) {Q : gQ} {X : gX} {H : gH} {x : Nat} {P : Nat → Nat} {I A : Nat → Nat → Int32} {s0 : Int32} {v1 : Int32} {v2 : Int32}
    (h : Q (some (.int s0)) (gset H x cck P I A)) :
    gWp (gTab (tb_S_town S)) Q X 113 [some (.ref (x + 0)), some (.int v1), some (.int v2)] [.int s0] (gset H x cck P I A) :=
  x_iret hm (show gTab (tb_S_town S) 113 = gi_iret from rfl) h
set_option maxRecDepth 20000 in
theorem wb_S_town_114 {S : Nat → gS} (hm : ∀ k, gMono (gTab (tb_S_town S) k)) {Q : gQ} {X : gX} {H : gH} {x : Nat} {P : Nat → Nat} {I A : Nat → Nat → Int32} {v1 : Int32} {v2 : Int32}
    (h : S 90 [.ref (x + 13), .int v1, .ref (x + (P 1)), .ref (x + (P 5))] (gset H x cck P I A) (fun r H' => gWp (gTab (tb_S_town S)) Q X 130 [some (.ref (x + 0)), some (.int v1), some (.int v2)] (r.toList ++ []) H') X) :
    gWp (gTab (tb_S_town S)) Q X 114 [some (.ref (x + 0)), some (.int v1), some (.int v2)] [] (gset H x cck P I A) :=
  x_aload hm (show gTab (tb_S_town S) 114 = gi_aload 115 0 from rfl) rfl (x_get hm (show gTab (tb_S_town S) 115 = gi_get 118 9 3 from rfl) (o := 0) rfl rfl (x_iload hm (show gTab (tb_S_town S) 118 = gi_iload 119 1 from rfl) rfl (x_aload hm (show gTab (tb_S_town S) 119 = gi_aload 120 0 from rfl) rfl (x_get hm (show gTab (tb_S_town S) 120 = gi_get 123 9 1 from rfl) (o := 0) rfl rfl (x_aload hm (show gTab (tb_S_town S) 123 = gi_aload 124 0 from rfl) rfl (x_get hm (show gTab (tb_S_town S) 124 = gi_get 127 9 5 from rfl) (o := 0) rfl rfl (x_callv hm (show gTab (tb_S_town S) 127 = gi_callv (S 90) 8 130 4 from rfl) (o := 13) (as := [.int v1, .ref (x + (P 1)), .ref (x + (P 5))]) (rest := []) rfl rfl (Nat.le_of_ble_eq_true rfl) (Nat.le_of_ble_eq_true rfl) rfl h)))))))
set_option maxRecDepth 20000 in
theorem wb_S_town_130 {S : Nat → gS} (hm : ∀ k, gMono (gTab (tb_S_town S) k)) {Q : gQ} {X : gX} {H : gH} {x : Nat} {P : Nat → Nat} {I A : Nat → Nat → Int32} {s0 : Int32} {v1 : Int32} {v2 : Int32}
    (h : Q (some (.int s0)) (gset H x cck P I A)) :
    gWp (gTab (tb_S_town S)) Q X 130 [some (.ref (x + 0)), some (.int v1), some (.int v2)] [.int s0] (gset H x cck P I A) :=
  x_iret hm (show gTab (tb_S_town S) 130 = gi_iret from rfl) h
set_option maxRecDepth 20000 in
theorem me_S_town {d : Nat} {Q : gQ} {X : gX} {H : gH} {x : Nat} {v1 : Int32} {v2 : Int32} (h : gWp (gTab (tb_S_town (meth d))) Q X 0 [some (.ref (x + 0)), some (.int v1), some (.int v2)] [] H) : meth (d + 1) 106 [.ref (x + 0), .int v1, .int v2] H Q X := (show _ ∧ _ from ⟨Nat.le_of_ble_eq_true rfl, h⟩)
set_option maxRecDepth 20000 in
theorem wb_S_road_0 {S : Nat → gS} (hm : ∀ k, gMono (gTab (tb_S_road S) k)) {Q : gQ} {X : gX} {H : gH} {x : Nat} {P : Nat → Nat} {I A : Nat → Nat → Int32} {v1 : Int32} {v2 : Int32} (hP1 : cck (P 1) = (3 + 2, 0))
    (h : S 137 [.int v1, .int 0, .int ((I (P 1) 1) - 1)] (gset H x cck P I A) (fun r H' => gWp (gTab (tb_S_road S)) Q X 15 [some (.ref (x + 0)), some (.int v1), some (.int v2)] (r.toList ++ [.ref (x + 0)]) H') X) :
    gWp (gTab (tb_S_road S)) Q X 0 [some (.ref (x + 0)), some (.int v1), some (.int v2)] [] (gset H x cck P I A) :=
  x_aload hm (show gTab (tb_S_road S) 0 = gi_aload 1 0 from rfl) rfl (x_iload hm (show gTab (tb_S_road S) 1 = gi_iload 2 1 from rfl) rfl (x_st hm (show gTab (tb_S_road S) 2 = gi_st 3 (gf_push (.int 0)) from rfl) rfl (x_aload hm (show gTab (tb_S_road S) 3 = gi_aload 4 0 from rfl) rfl (x_get hm (show gTab (tb_S_road S) 4 = gi_get 7 9 1 from rfl) (o := 0) rfl rfl (x_get hm (show gTab (tb_S_road S) 7 = gi_get 10 3 1 from rfl) (o := (P 1)) hP1 rfl (x_st hm (show gTab (tb_S_road S) 10 = gi_st 11 (gf_push (.int 1)) from rfl) rfl (x_st hm (show gTab (tb_S_road S) 11 = gi_st 12 (gf_i2 (fun x y => x - y)) from rfl) rfl (x_calls hm (show gTab (tb_S_road S) 12 = gi_calls (S 137) 15 3 from rfl) (as := [.int v1, .int 0, .int ((I (P 1) 1) - 1)]) (rest := [.ref (x + 0)]) rfl rfl (Nat.le_of_ble_eq_true rfl) (Nat.le_of_ble_eq_true rfl) h))))))))
set_option maxRecDepth 20000 in
theorem wb_S_road_15 {S : Nat → gS} (hm : ∀ k, gMono (gTab (tb_S_road S) k)) {Q : gQ} {X : gX} {H : gH} {x : Nat} {P : Nat → Nat} {I A : Nat → Nat → Int32} {s1 : Int32} {v1 : Int32} {v2 : Int32}
    (h : S 139 [.ref (x + 0), .int s1] (gset H x cck P I A) (fun r H' => gWp (gTab (tb_S_road S)) Q X 18 [some (.ref (x + 0)), some (.int v1), some (.int v2)] (r.toList ++ []) H') X) :
    gWp (gTab (tb_S_road S)) Q X 15 [some (.ref (x + 0)), some (.int v1), some (.int v2)] [.int s1, .ref (x + 0)] (gset H x cck P I A) :=
  x_callv hm (show gTab (tb_S_road S) 15 = gi_callv (S 139) 9 18 2 from rfl) (o := 0) (as := [.int s1]) (rest := []) rfl rfl (Nat.le_of_ble_eq_true rfl) (Nat.le_of_ble_eq_true rfl) rfl h
set_option maxRecDepth 20000 in
theorem wb_S_road_18 {S : Nat → gS} (hm : ∀ k, gMono (gTab (tb_S_road S) k)) {Q : gQ} {X : gX} {H : gH} {x : Nat} {P : Nat → Nat} {I A : Nat → Nat → Int32} {v1 : Int32} {v2 : Int32}
    (h : S 137 [.int v2, .int 0, .int 1] (gset H x cck P I A) (fun r H' => gWp (gTab (tb_S_road S)) Q X 25 [some (.ref (x + 0)), some (.int v1), some (.int v2)] (r.toList ++ [.ref (x + 0)]) H') X) :
    gWp (gTab (tb_S_road S)) Q X 18 [some (.ref (x + 0)), some (.int v1), some (.int v2)] [] (gset H x cck P I A) :=
  x_aload hm (show gTab (tb_S_road S) 18 = gi_aload 19 0 from rfl) rfl (x_iload hm (show gTab (tb_S_road S) 19 = gi_iload 20 2 from rfl) rfl (x_st hm (show gTab (tb_S_road S) 20 = gi_st 21 (gf_push (.int 0)) from rfl) rfl (x_st hm (show gTab (tb_S_road S) 21 = gi_st 22 (gf_push (.int 1)) from rfl) rfl (x_calls hm (show gTab (tb_S_road S) 22 = gi_calls (S 137) 25 3 from rfl) (as := [.int v2, .int 0, .int 1]) (rest := [.ref (x + 0)]) rfl rfl (Nat.le_of_ble_eq_true rfl) (Nat.le_of_ble_eq_true rfl) h))))
set_option maxRecDepth 20000 in
theorem wb_S_road_25 {S : Nat → gS} (hm : ∀ k, gMono (gTab (tb_S_road S) k)) {Q : gQ} {X : gX} {H : gH} {x : Nat} {P : Nat → Nat} {I A : Nat → Nat → Int32} {s1 : Int32} {v1 : Int32} {v2 : Int32}
    (h : S 138 [.ref (x + 0), .int s1] (gset H x cck P I A) (fun r H' => gWp (gTab (tb_S_road S)) Q X 28 [some (.ref (x + 0)), some (.int v1), some (.int v2)] (r.toList ++ []) H') X) :
    gWp (gTab (tb_S_road S)) Q X 25 [some (.ref (x + 0)), some (.int v1), some (.int v2)] [.int s1, .ref (x + 0)] (gset H x cck P I A) :=
  x_callv hm (show gTab (tb_S_road S) 25 = gi_callv (S 138) 9 28 2 from rfl) (o := 0) (as := [.int s1]) (rest := []) rfl rfl (Nat.le_of_ble_eq_true rfl) (Nat.le_of_ble_eq_true rfl) rfl h
set_option maxRecDepth 20000 in
theorem wb_S_road_28 {S : Nat → gS} (hm : ∀ k, gMono (gTab (tb_S_road S) k)) {Q : gQ} {X : gX} {H : gH} {x : Nat} {P : Nat → Nat} {I A : Nat → Nat → Int32} {v1 : Int32} {v2 : Int32} (hP1 : cck (P 1) = (3 + 2, 0))
    (h : ((¬ v2 = 0 → (vp_in v1 12 ∧ gWp (gTab (tb_S_road S)) Q X 53 [some (.ref (x + 0)), some (.int v1), some (.int v2)] [.int (A ((P 1) + 4) v1.toNatClampNeg)] (gset H x cck P I A))) ∧ (¬ (¬ v2 = 0) → (vp_in v1 12 ∧ gWp (gTab (tb_S_road S)) Q X 53 [some (.ref (x + 0)), some (.int v1), some (.int v2)] [.int (A ((P 1) + 3) v1.toNatClampNeg)] (gset H x cck P I A))))) :
    gWp (gTab (tb_S_road S)) Q X 28 [some (.ref (x + 0)), some (.int v1), some (.int v2)] [] (gset H x cck P I A) :=
  x_iload hm (show gTab (tb_S_road S) 28 = gi_iload 29 2 from rfl) rfl (x_if hm (show gTab (tb_S_road S) 29 = gi_if 32 44 (fun x => ¬ x = 0) from rfl) (fun c0 => x_aload hm (show gTab (tb_S_road S) 44 = gi_aload 45 0 from rfl) rfl (x_get hm (show gTab (tb_S_road S) 45 = gi_get 48 9 1 from rfl) (o := 0) rfl rfl (x_get hm (show gTab (tb_S_road S) 48 = gi_get 51 3 5 from rfl) (o := (P 1)) hP1 rfl (x_iload hm (show gTab (tb_S_road S) 51 = gi_iload 52 1 from rfl) rfl (x_iald hm (show gTab (tb_S_road S) 52 = gi_iald 53 from rfl) (o := ((P 1) + 4)) (ca_3_4 hP1) (h.1 c0).1 ((h.1 c0).2)))))) (fun c0 => x_aload hm (show gTab (tb_S_road S) 32 = gi_aload 33 0 from rfl) rfl (x_get hm (show gTab (tb_S_road S) 33 = gi_get 36 9 1 from rfl) (o := 0) rfl rfl (x_get hm (show gTab (tb_S_road S) 36 = gi_get 39 3 4 from rfl) (o := (P 1)) hP1 rfl (x_iload hm (show gTab (tb_S_road S) 39 = gi_iload 40 1 from rfl) rfl (x_iald hm (show gTab (tb_S_road S) 40 = gi_iald 41 from rfl) (o := ((P 1) + 3)) (ca_3_3 hP1) (h.2 c0).1 (x_goto hm (show gTab (tb_S_road S) 41 = gi_goto 53 from rfl) ((h.2 c0).2))))))))
set_option maxRecDepth 20000 in
theorem wb_S_road_53 {S : Nat → gS} (hm : ∀ k, gMono (gTab (tb_S_road S) k)) {Q : gQ} {X : gX} {H : gH} {x : Nat} {P : Nat → Nat} {I A : Nat → Nat → Int32} {s0 : Int32} {v1 : Int32} {v2 : Int32}
    (h : Q (some (.int s0)) (gset H x cck P I A)) :
    gWp (gTab (tb_S_road S)) Q X 53 [some (.ref (x + 0)), some (.int v1), some (.int v2)] [.int s0] (gset H x cck P I A) :=
  x_iret hm (show gTab (tb_S_road S) 53 = gi_iret from rfl) h
set_option maxRecDepth 20000 in
theorem me_S_road {d : Nat} {Q : gQ} {X : gX} {H : gH} {x : Nat} {v1 : Int32} {v2 : Int32} (h : gWp (gTab (tb_S_road (meth d))) Q X 0 [some (.ref (x + 0)), some (.int v1), some (.int v2)] [] H) : meth (d + 1) 107 [.ref (x + 0), .int v1, .int v2] H Q X := (show _ ∧ _ from ⟨Nat.le_of_ble_eq_true rfl, h⟩)
set_option maxRecDepth 20000 in
theorem wb_S_seats_0 {S : Nat → gS} (hm : ∀ k, gMono (gTab (tb_S_seats S) k)) {Q : gQ} {X : gX} {H : gH} {x : Nat} {P : Nat → Nat} {I A : Nat → Nat → Int32} {v1 : Int32}
    (h : S 137 [.int v1, .int 0, .int 2] (gset H x cck P I A) (fun r H' => gWp (gTab (tb_S_seats S)) Q X 7 [some (.ref (x + 0)), some (.int v1)] (r.toList ++ [.ref (x + 0)]) H') X) :
    gWp (gTab (tb_S_seats S)) Q X 0 [some (.ref (x + 0)), some (.int v1)] [] (gset H x cck P I A) :=
  x_aload hm (show gTab (tb_S_seats S) 0 = gi_aload 1 0 from rfl) rfl (x_iload hm (show gTab (tb_S_seats S) 1 = gi_iload 2 1 from rfl) rfl (x_st hm (show gTab (tb_S_seats S) 2 = gi_st 3 (gf_push (.int 0)) from rfl) rfl (x_st hm (show gTab (tb_S_seats S) 3 = gi_st 4 (gf_push (.int 2)) from rfl) rfl (x_calls hm (show gTab (tb_S_seats S) 4 = gi_calls (S 137) 7 3 from rfl) (as := [.int v1, .int 0, .int 2]) (rest := [.ref (x + 0)]) rfl rfl (Nat.le_of_ble_eq_true rfl) (Nat.le_of_ble_eq_true rfl) h))))
set_option maxRecDepth 20000 in
theorem wb_S_seats_7 {S : Nat → gS} (hm : ∀ k, gMono (gTab (tb_S_seats S) k)) {Q : gQ} {X : gX} {H : gH} {x : Nat} {P : Nat → Nat} {I A : Nat → Nat → Int32} {s1 : Int32} {v1 : Int32}
    (h : S 138 [.ref (x + 0), .int s1] (gset H x cck P I A) (fun r H' => gWp (gTab (tb_S_seats S)) Q X 10 [some (.ref (x + 0)), some (.int v1)] (r.toList ++ []) H') X) :
    gWp (gTab (tb_S_seats S)) Q X 7 [some (.ref (x + 0)), some (.int v1)] [.int s1, .ref (x + 0)] (gset H x cck P I A) :=
  x_callv hm (show gTab (tb_S_seats S) 7 = gi_callv (S 138) 9 10 2 from rfl) (o := 0) (as := [.int s1]) (rest := []) rfl rfl (Nat.le_of_ble_eq_true rfl) (Nat.le_of_ble_eq_true rfl) rfl h
set_option maxRecDepth 20000 in
theorem wb_S_seats_10 {S : Nat → gS} (hm : ∀ k, gMono (gTab (tb_S_seats S) k)) {Q : gQ} {X : gX} {H : gH} {x : Nat} {P : Nat → Nat} {I A : Nat → Nat → Int32} {v1 : Int32}
    (h : S 87 [.ref (x + 13), .int v1, .ref (x + (P 1))] (gset H x cck P I A) (fun r H' => gWp (gTab (tb_S_seats S)) Q X 22 [some (.ref (x + 0)), some (.int v1)] (r.toList ++ []) H') X) :
    gWp (gTab (tb_S_seats S)) Q X 10 [some (.ref (x + 0)), some (.int v1)] [] (gset H x cck P I A) :=
  x_aload hm (show gTab (tb_S_seats S) 10 = gi_aload 11 0 from rfl) rfl (x_get hm (show gTab (tb_S_seats S) 11 = gi_get 14 9 3 from rfl) (o := 0) rfl rfl (x_iload hm (show gTab (tb_S_seats S) 14 = gi_iload 15 1 from rfl) rfl (x_aload hm (show gTab (tb_S_seats S) 15 = gi_aload 16 0 from rfl) rfl (x_get hm (show gTab (tb_S_seats S) 16 = gi_get 19 9 1 from rfl) (o := 0) rfl rfl (x_callv hm (show gTab (tb_S_seats S) 19 = gi_callv (S 87) 8 22 3 from rfl) (o := 13) (as := [.int v1, .ref (x + (P 1))]) (rest := []) rfl rfl (Nat.le_of_ble_eq_true rfl) (Nat.le_of_ble_eq_true rfl) rfl h)))))
set_option maxRecDepth 20000 in
theorem wb_S_seats_22 {S : Nat → gS} (hm : ∀ k, gMono (gTab (tb_S_seats S) k)) {Q : gQ} {X : gX} {H : gH} {x : Nat} {P : Nat → Nat} {I A : Nat → Nat → Int32} {s0 : Int32} {v1 : Int32}
    (h : Q (some (.int s0)) (gset H x cck P I A)) :
    gWp (gTab (tb_S_seats S)) Q X 22 [some (.ref (x + 0)), some (.int v1)] [.int s0] (gset H x cck P I A) :=
  x_iret hm (show gTab (tb_S_seats S) 22 = gi_iret from rfl) h
set_option maxRecDepth 20000 in
theorem me_S_seats {d : Nat} {Q : gQ} {X : gX} {H : gH} {x : Nat} {v1 : Int32} (h : gWp (gTab (tb_S_seats (meth d))) Q X 0 [some (.ref (x + 0)), some (.int v1)] [] H) : meth (d + 1) 108 [.ref (x + 0), .int v1] H Q X := (show _ ∧ _ from ⟨Nat.le_of_ble_eq_true rfl, h⟩)
