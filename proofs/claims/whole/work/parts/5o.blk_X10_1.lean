/-! ===== blocks ===== -/
set_option maxRecDepth 20000 in
theorem wb_R_isRow_0 {S : Nat → gS} (hm : ∀ k, gMono (gTab (tb_R_isRow S) k)) {Q : gQ} {X : gX} {H : gH} {x : Nat} {P : Nat → Nat} {I A : Nat → Nat → Int32} {v0 : Int32}
    (h : S 152 [.ref 1000005] (gset H x mck P I A) (fun r H' => gWp (gTab (tb_R_isRow S)) Q X 6 [some (.int v0)] (r.toList ++ [.int v0]) H') X) :
    gWp (gTab (tb_R_isRow S)) Q X 0 [some (.int v0)] [] (gset H x mck P I A) :=
  x_iload hm (show gTab (tb_R_isRow S) 0 = gi_iload 1 0 from rfl) rfl (x_st hm (show gTab (tb_R_isRow S) 1 = gi_st 3 (gf_push (.ref 1000005)) from rfl) rfl (x_calls hm (show gTab (tb_R_isRow S) 3 = gi_calls (S 152) 6 1 from rfl) (as := [.ref 1000005]) (rest := [.int v0]) rfl rfl (Nat.le_of_ble_eq_true rfl) (Nat.le_of_ble_eq_true rfl) h))
set_option maxRecDepth 20000 in
theorem wb_R_isRow_6 {S : Nat → gS} (hm : ∀ k, gMono (gTab (tb_R_isRow S) k)) {Q : gQ} {X : gX} {H : gH} {x : Nat} {P : Nat → Nat} {I A : Nat → Nat → Int32} {s0 : Int32} {s1 : Int32} {v0 : Int32}
    (h : ((s0 = s1 → gWp (gTab (tb_R_isRow S)) Q X 27 [some (.int v0)] [] (gset H x mck P I A)) ∧ (¬ (s0 = s1) → S 152 [.ref 1000006] (gset H x mck P I A) (fun r H' => gWp (gTab (tb_R_isRow S)) Q X 15 [some (.int v0)] (r.toList ++ [.int v0]) H') X))) :
    gWp (gTab (tb_R_isRow S)) Q X 6 [some (.int v0)] [.int s1, .int s0] (gset H x mck P I A) :=
  x_icmp hm (show gTab (tb_R_isRow S) 6 = gi_icmp 9 27 (fun x y => x = y) from rfl) (fun c0 => (h.1 c0)) (fun c0 => x_iload hm (show gTab (tb_R_isRow S) 9 = gi_iload 10 0 from rfl) rfl (x_st hm (show gTab (tb_R_isRow S) 10 = gi_st 12 (gf_push (.ref 1000006)) from rfl) rfl (x_calls hm (show gTab (tb_R_isRow S) 12 = gi_calls (S 152) 15 1 from rfl) (as := [.ref 1000006]) (rest := [.int v0]) rfl rfl (Nat.le_of_ble_eq_true rfl) (Nat.le_of_ble_eq_true rfl) (h.2 c0))))
set_option maxRecDepth 20000 in
theorem wb_R_isRow_15 {S : Nat → gS} (hm : ∀ k, gMono (gTab (tb_R_isRow S) k)) {Q : gQ} {X : gX} {H : gH} {x : Nat} {P : Nat → Nat} {I A : Nat → Nat → Int32} {s0 : Int32} {s1 : Int32} {v0 : Int32}
    (h : ((s0 = s1 → gWp (gTab (tb_R_isRow S)) Q X 27 [some (.int v0)] [] (gset H x mck P I A)) ∧ (¬ (s0 = s1) → S 152 [.ref 1000007] (gset H x mck P I A) (fun r H' => gWp (gTab (tb_R_isRow S)) Q X 24 [some (.int v0)] (r.toList ++ [.int v0]) H') X))) :
    gWp (gTab (tb_R_isRow S)) Q X 15 [some (.int v0)] [.int s1, .int s0] (gset H x mck P I A) :=
  x_icmp hm (show gTab (tb_R_isRow S) 15 = gi_icmp 18 27 (fun x y => x = y) from rfl) (fun c0 => (h.1 c0)) (fun c0 => x_iload hm (show gTab (tb_R_isRow S) 18 = gi_iload 19 0 from rfl) rfl (x_st hm (show gTab (tb_R_isRow S) 19 = gi_st 21 (gf_push (.ref 1000007)) from rfl) rfl (x_calls hm (show gTab (tb_R_isRow S) 21 = gi_calls (S 152) 24 1 from rfl) (as := [.ref 1000007]) (rest := [.int v0]) rfl rfl (Nat.le_of_ble_eq_true rfl) (Nat.le_of_ble_eq_true rfl) (h.2 c0))))
set_option maxRecDepth 20000 in
theorem wb_R_isRow_24 {S : Nat → gS} (hm : ∀ k, gMono (gTab (tb_R_isRow S) k)) {Q : gQ} {X : gX} {H : gH} {x : Nat} {P : Nat → Nat} {I A : Nat → Nat → Int32} {s0 : Int32} {s1 : Int32} {v0 : Int32}
    (h : ((¬ s0 = s1 → gWp (gTab (tb_R_isRow S)) Q X 32 [some (.int v0)] [.int 0] (gset H x mck P I A)) ∧ (¬ (¬ s0 = s1) → gWp (gTab (tb_R_isRow S)) Q X 27 [some (.int v0)] [] (gset H x mck P I A)))) :
    gWp (gTab (tb_R_isRow S)) Q X 24 [some (.int v0)] [.int s1, .int s0] (gset H x mck P I A) :=
  x_icmp hm (show gTab (tb_R_isRow S) 24 = gi_icmp 27 31 (fun x y => ¬ x = y) from rfl) (fun c0 => x_st hm (show gTab (tb_R_isRow S) 31 = gi_st 32 (gf_push (.int 0)) from rfl) rfl ((h.1 c0))) (fun c0 => (h.2 c0))
set_option maxRecDepth 20000 in
theorem wb_R_isRow_27 {S : Nat → gS} (hm : ∀ k, gMono (gTab (tb_R_isRow S) k)) {Q : gQ} {X : gX} {H : gH} {x : Nat} {P : Nat → Nat} {I A : Nat → Nat → Int32} {v0 : Int32}
    (h : gWp (gTab (tb_R_isRow S)) Q X 32 [some (.int v0)] [.int 1] (gset H x mck P I A)) :
    gWp (gTab (tb_R_isRow S)) Q X 27 [some (.int v0)] [] (gset H x mck P I A) :=
  x_st hm (show gTab (tb_R_isRow S) 27 = gi_st 28 (gf_push (.int 1)) from rfl) rfl (x_goto hm (show gTab (tb_R_isRow S) 28 = gi_goto 32 from rfl) (h))
set_option maxRecDepth 20000 in
theorem wb_R_isRow_32 {S : Nat → gS} (hm : ∀ k, gMono (gTab (tb_R_isRow S) k)) {Q : gQ} {X : gX} {H : gH} {x : Nat} {P : Nat → Nat} {I A : Nat → Nat → Int32} {s0 : Int32} {v0 : Int32}
    (h : (narrow .boolean (.int s0) = .int s0 ∧ Q (some (.int s0)) (gset H x mck P I A))) :
    gWp (gTab (tb_R_isRow S)) Q X 32 [some (.int v0)] [.int s0] (gset H x mck P I A) :=
  x_zret hm (show gTab (tb_R_isRow S) 32 = gi_zret .boolean from rfl) h.1 h.2
set_option maxRecDepth 20000 in
theorem me_R_isRow {d : Nat} {Q : gQ} {X : gX} {H : gH} {v0 : Int32} (h : gWp (gTab (tb_R_isRow (meth d))) Q X 0 [some (.int v0)] [] H) : meth (d + 1) 165 [.int v0] H Q X := (show _ ∧ _ from ⟨Nat.le_of_ble_eq_true rfl, h⟩)
set_option maxRecDepth 20000 in
theorem wb_R_readRow_0 {S : Nat → gS} (hm : ∀ k, gMono (gTab (tb_R_readRow S) k)) {Q : gQ} {X : gX} {H : gH} {x : Nat} {P : Nat → Nat} {I A : Nat → Nat → Int32} {v1 : Int32}
    (h : S 152 [.ref 1000005] (gset H x mck P I A) (fun r H' => gWp (gTab (tb_R_readRow S)) Q X 6 [some (.ref (x + 0)), some (.int v1)] (r.toList ++ [.int v1]) H') X) :
    gWp (gTab (tb_R_readRow S)) Q X 0 [some (.ref (x + 0)), some (.int v1)] [] (gset H x mck P I A) :=
  x_iload hm (show gTab (tb_R_readRow S) 0 = gi_iload 1 1 from rfl) rfl (x_st hm (show gTab (tb_R_readRow S) 1 = gi_st 3 (gf_push (.ref 1000005)) from rfl) rfl (x_calls hm (show gTab (tb_R_readRow S) 3 = gi_calls (S 152) 6 1 from rfl) (as := [.ref 1000005]) (rest := [.int v1]) rfl rfl (Nat.le_of_ble_eq_true rfl) (Nat.le_of_ble_eq_true rfl) h))
set_option maxRecDepth 20000 in
theorem wb_R_readRow_6 {S : Nat → gS} (hm : ∀ k, gMono (gTab (tb_R_readRow S) k)) {Q : gQ} {X : gX} {H : gH} {x : Nat} {P : Nat → Nat} {I A : Nat → Nat → Int32} {s0 : Int32} {s1 : Int32} {v1 : Int32}
    (h : ((¬ s0 = s1 → S 152 [.ref 1000006] (gset H x mck P I A) (fun r H' => gWp (gTab (tb_R_readRow S)) Q X 83 [some (.ref (x + 0)), some (.int v1)] (r.toList ++ [.int v1]) H') X) ∧ (¬ (¬ s0 = s1) → S 154 [.ref (x + 0), .int 1, .int 99] (gset H x mck P I A) (fun r H' => gWp (gTab (tb_R_readRow S)) Q X 24 [some (.ref (x + 0)), some (.int v1)] (r.toList ++ [.int (I 0 16), .ref (x + 3)]) H') X))) :
    gWp (gTab (tb_R_readRow S)) Q X 6 [some (.ref (x + 0)), some (.int v1)] [.int s1, .int s0] (gset H x mck P I A) :=
  x_icmp hm (show gTab (tb_R_readRow S) 6 = gi_icmp 9 77 (fun x y => ¬ x = y) from rfl) (fun c0 => x_iload hm (show gTab (tb_R_readRow S) 77 = gi_iload 78 1 from rfl) rfl (x_st hm (show gTab (tb_R_readRow S) 78 = gi_st 80 (gf_push (.ref 1000006)) from rfl) rfl (x_calls hm (show gTab (tb_R_readRow S) 80 = gi_calls (S 152) 83 1 from rfl) (as := [.ref 1000006]) (rest := [.int v1]) rfl rfl (Nat.le_of_ble_eq_true rfl) (Nat.le_of_ble_eq_true rfl) (h.1 c0)))) (fun c0 => x_aload hm (show gTab (tb_R_readRow S) 9 = gi_aload 10 0 from rfl) rfl (x_get hm (show gTab (tb_R_readRow S) 10 = gi_get 13 10 10 from rfl) (o := 0) rfl rfl (x_aload hm (show gTab (tb_R_readRow S) 13 = gi_aload 14 0 from rfl) rfl (x_get hm (show gTab (tb_R_readRow S) 14 = gi_get 17 10 16 from rfl) (o := 0) rfl rfl (x_aload hm (show gTab (tb_R_readRow S) 17 = gi_aload 18 0 from rfl) rfl (x_st hm (show gTab (tb_R_readRow S) 18 = gi_st 19 (gf_push (.int 1)) from rfl) rfl (x_st hm (show gTab (tb_R_readRow S) 19 = gi_st 21 (gf_push (.int 99)) from rfl) rfl (x_callv hm (show gTab (tb_R_readRow S) 21 = gi_callv (S 154) 10 24 3 from rfl) (o := 0) (as := [.int 1, .int 99]) (rest := [.int (I 0 16), .ref (x + 3)]) rfl rfl (Nat.le_of_ble_eq_true rfl) (Nat.le_of_ble_eq_true rfl) rfl (h.2 c0)))))))))
set_option maxRecDepth 20000 in
theorem wb_R_readRow_24 {S : Nat → gS} (hm : ∀ k, gMono (gTab (tb_R_readRow S) k)) {Q : gQ} {X : gX} {H : gH} {x : Nat} {P : Nat → Nat} {I A : Nat → Nat → Int32} {s1 : Int32} {s2 : Int32} {v1 : Int32}
    (h : (vp_in s1 8 ∧ (vp_in (I 0 16) 8 ∧ S 154 [.ref (x + 0), .int 0, .int ((upA A 3 s1.toNatClampNeg s2) 3 (I 0 16).toNatClampNeg)] (gset H x mck P I (upA A 3 s1.toNatClampNeg s2)) (fun r H' => gWp (gTab (tb_R_readRow S)) Q X 47 [some (.ref (x + 0)), some (.int v1)] (r.toList ++ [.int (I 0 16), .ref (x + 4)]) H') X))) :
    gWp (gTab (tb_R_readRow S)) Q X 24 [some (.ref (x + 0)), some (.int v1)] [.int s2, .int s1, .ref (x + 3)] (gset H x mck P I A) :=
  x_iast hm (show gTab (tb_R_readRow S) 24 = gi_iast 25 from rfl) (o := 3) rfl h.1 (x_aload hm (show gTab (tb_R_readRow S) 25 = gi_aload 26 0 from rfl) rfl (x_get hm (show gTab (tb_R_readRow S) 26 = gi_get 29 10 11 from rfl) (o := 0) rfl rfl (x_aload hm (show gTab (tb_R_readRow S) 29 = gi_aload 30 0 from rfl) rfl (x_get hm (show gTab (tb_R_readRow S) 30 = gi_get 33 10 16 from rfl) (o := 0) rfl rfl (x_aload hm (show gTab (tb_R_readRow S) 33 = gi_aload 34 0 from rfl) rfl (x_st hm (show gTab (tb_R_readRow S) 34 = gi_st 35 (gf_push (.int 0)) from rfl) rfl (x_aload hm (show gTab (tb_R_readRow S) 35 = gi_aload 36 0 from rfl) rfl (x_get hm (show gTab (tb_R_readRow S) 36 = gi_get 39 10 10 from rfl) (o := 0) rfl rfl (x_aload hm (show gTab (tb_R_readRow S) 39 = gi_aload 40 0 from rfl) rfl (x_get hm (show gTab (tb_R_readRow S) 40 = gi_get 43 10 16 from rfl) (o := 0) rfl rfl (x_iald hm (show gTab (tb_R_readRow S) 43 = gi_iald 44 from rfl) (o := 3) rfl h.2.1 (x_callv hm (show gTab (tb_R_readRow S) 44 = gi_callv (S 154) 10 47 3 from rfl) (o := 0) (as := [.int 0, .int ((upA A 3 s1.toNatClampNeg s2) 3 (I 0 16).toNatClampNeg)]) (rest := [.int (I 0 16), .ref (x + 4)]) rfl rfl (Nat.le_of_ble_eq_true rfl) (Nat.le_of_ble_eq_true rfl) rfl h.2.2))))))))))))
set_option maxRecDepth 20000 in
theorem wb_R_readRow_47 {S : Nat → gS} (hm : ∀ k, gMono (gTab (tb_R_readRow S) k)) {Q : gQ} {X : gX} {H : gH} {x : Nat} {P : Nat → Nat} {I A : Nat → Nat → Int32} {s1 : Int32} {s2 : Int32} {v1 : Int32}
    (h : (vp_in s1 8 ∧ S 154 [.ref (x + 0), .int 1, .int 9] (gset H x mck P I (upA A 4 s1.toNatClampNeg s2)) (fun r H' => gWp (gTab (tb_R_readRow S)) Q X 63 [some (.ref (x + 0)), some (.int v1)] (r.toList ++ [.int (I 0 16), .ref (x + 5)]) H') X)) :
    gWp (gTab (tb_R_readRow S)) Q X 47 [some (.ref (x + 0)), some (.int v1)] [.int s2, .int s1, .ref (x + 4)] (gset H x mck P I A) :=
  x_iast hm (show gTab (tb_R_readRow S) 47 = gi_iast 48 from rfl) (o := 4) rfl h.1 (x_aload hm (show gTab (tb_R_readRow S) 48 = gi_aload 49 0 from rfl) rfl (x_get hm (show gTab (tb_R_readRow S) 49 = gi_get 52 10 12 from rfl) (o := 0) rfl rfl (x_aload hm (show gTab (tb_R_readRow S) 52 = gi_aload 53 0 from rfl) rfl (x_get hm (show gTab (tb_R_readRow S) 53 = gi_get 56 10 16 from rfl) (o := 0) rfl rfl (x_aload hm (show gTab (tb_R_readRow S) 56 = gi_aload 57 0 from rfl) rfl (x_st hm (show gTab (tb_R_readRow S) 57 = gi_st 58 (gf_push (.int 1)) from rfl) rfl (x_st hm (show gTab (tb_R_readRow S) 58 = gi_st 60 (gf_push (.int 9)) from rfl) rfl (x_callv hm (show gTab (tb_R_readRow S) 60 = gi_callv (S 154) 10 63 3 from rfl) (o := 0) (as := [.int 1, .int 9]) (rest := [.int (I 0 16), .ref (x + 5)]) rfl rfl (Nat.le_of_ble_eq_true rfl) (Nat.le_of_ble_eq_true rfl) rfl h.2))))))))
set_option maxRecDepth 20000 in
theorem wb_R_readRow_63 {S : Nat → gS} (hm : ∀ k, gMono (gTab (tb_R_readRow S) k)) {Q : gQ} {X : gX} {H : gH} {x : Nat} {P : Nat → Nat} {I A : Nat → Nat → Int32} {s1 : Int32} {s2 : Int32} {v1 : Int32}
    (h : (vp_in s1 8 ∧ gWp (gTab (tb_R_readRow S)) Q X 103 [some (.ref (x + 0)), some (.int v1)] [] (gset H x mck P (upI I 0 16 ((I 0 16) + 1)) (upA A 5 s1.toNatClampNeg s2)))) :
    gWp (gTab (tb_R_readRow S)) Q X 63 [some (.ref (x + 0)), some (.int v1)] [.int s2, .int s1, .ref (x + 5)] (gset H x mck P I A) :=
  x_iast hm (show gTab (tb_R_readRow S) 63 = gi_iast 64 from rfl) (o := 5) rfl h.1 (x_aload hm (show gTab (tb_R_readRow S) 64 = gi_aload 65 0 from rfl) rfl (x_st hm (show gTab (tb_R_readRow S) 65 = gi_st 66 gf_dup from rfl) rfl (x_get hm (show gTab (tb_R_readRow S) 66 = gi_get 69 10 16 from rfl) (o := 0) rfl rfl (x_st hm (show gTab (tb_R_readRow S) 69 = gi_st 70 (gf_push (.int 1)) from rfl) rfl (x_st hm (show gTab (tb_R_readRow S) 70 = gi_st 71 (gf_i2 (fun x y => x + y)) from rfl) rfl (x_puti hm (show gTab (tb_R_readRow S) 71 = gi_puti 74 10 16 from rfl) (o := 0) rfl rfl cp_10_16 (x_goto hm (show gTab (tb_R_readRow S) 74 = gi_goto 103 from rfl) (h.2))))))))
set_option maxRecDepth 20000 in
theorem wb_R_readRow_83 {S : Nat → gS} (hm : ∀ k, gMono (gTab (tb_R_readRow S) k)) {Q : gQ} {X : gX} {H : gH} {x : Nat} {P : Nat → Nat} {I A : Nat → Nat → Int32} {s0 : Int32} {s1 : Int32} {v1 : Int32}
    (h : ((¬ s0 = s1 → S 154 [.ref (x + 0), .int 0, .int 1] (gset H x mck P I A) (fun r H' => gWp (gTab (tb_R_readRow S)) Q X 100 [some (.ref (x + 0)), some (.int v1)] (r.toList ++ [.ref (x + 0)]) H') X) ∧ (¬ (¬ s0 = s1) → S 164 [.ref (x + 0)] (gset H x mck P I A) (fun r H' => gWp (gTab (tb_R_readRow S)) Q X 90 [some (.ref (x + 0)), some (.int v1)] (r.toList ++ []) H') X))) :
    gWp (gTab (tb_R_readRow S)) Q X 83 [some (.ref (x + 0)), some (.int v1)] [.int s1, .int s0] (gset H x mck P I A) :=
  x_icmp hm (show gTab (tb_R_readRow S) 83 = gi_icmp 86 93 (fun x y => ¬ x = y) from rfl) (fun c0 => x_aload hm (show gTab (tb_R_readRow S) 93 = gi_aload 94 0 from rfl) rfl (x_aload hm (show gTab (tb_R_readRow S) 94 = gi_aload 95 0 from rfl) rfl (x_st hm (show gTab (tb_R_readRow S) 95 = gi_st 96 (gf_push (.int 0)) from rfl) rfl (x_st hm (show gTab (tb_R_readRow S) 96 = gi_st 97 (gf_push (.int 1)) from rfl) rfl (x_callv hm (show gTab (tb_R_readRow S) 97 = gi_callv (S 154) 10 100 3 from rfl) (o := 0) (as := [.int 0, .int 1]) (rest := [.ref (x + 0)]) rfl rfl (Nat.le_of_ble_eq_true rfl) (Nat.le_of_ble_eq_true rfl) rfl (h.1 c0)))))) (fun c0 => x_aload hm (show gTab (tb_R_readRow S) 86 = gi_aload 87 0 from rfl) rfl (x_callv hm (show gTab (tb_R_readRow S) 87 = gi_callv (S 164) 10 90 1 from rfl) (o := 0) (as := []) (rest := []) rfl rfl (Nat.le_of_ble_eq_true rfl) (Nat.le_of_ble_eq_true rfl) rfl (h.2 c0)))
set_option maxRecDepth 20000 in
theorem wb_R_readRow_90 {S : Nat → gS} (hm : ∀ k, gMono (gTab (tb_R_readRow S) k)) {Q : gQ} {X : gX} {H : gH} {x : Nat} {P : Nat → Nat} {I A : Nat → Nat → Int32} {v1 : Int32}
    (h : gWp (gTab (tb_R_readRow S)) Q X 103 [some (.ref (x + 0)), some (.int v1)] [] (gset H x mck P I A)) :
    gWp (gTab (tb_R_readRow S)) Q X 90 [some (.ref (x + 0)), some (.int v1)] [] (gset H x mck P I A) :=
  x_goto hm (show gTab (tb_R_readRow S) 90 = gi_goto 103 from rfl) (h)
set_option maxRecDepth 20000 in
theorem wb_R_readRow_100 {S : Nat → gS} (hm : ∀ k, gMono (gTab (tb_R_readRow S) k)) {Q : gQ} {X : gX} {H : gH} {x : Nat} {P : Nat → Nat} {I A : Nat → Nat → Int32} {s1 : Int32} {v1 : Int32}
    (h : gWp (gTab (tb_R_readRow S)) Q X 103 [some (.ref (x + 0)), some (.int v1)] [] (gset H x mck P (upI I 0 18 s1) A)) :
    gWp (gTab (tb_R_readRow S)) Q X 100 [some (.ref (x + 0)), some (.int v1)] [.int s1, .ref (x + 0)] (gset H x mck P I A) :=
  x_puti hm (show gTab (tb_R_readRow S) 100 = gi_puti 103 10 18 from rfl) (o := 0) rfl rfl cp_10_18 (h)
set_option maxRecDepth 20000 in
theorem wb_R_readRow_103 {S : Nat → gS} (hm : ∀ k, gMono (gTab (tb_R_readRow S) k)) {Q : gQ} {X : gX} {H : gH} {x : Nat} {P : Nat → Nat} {I A : Nat → Nat → Int32} {v1 : Int32}
    (h : Q none (gset H x mck P I A)) :
    gWp (gTab (tb_R_readRow S)) Q X 103 [some (.ref (x + 0)), some (.int v1)] [] (gset H x mck P I A) :=
  x_vret hm (show gTab (tb_R_readRow S) 103 = gi_vret from rfl) h
set_option maxRecDepth 20000 in
theorem me_R_readRow {d : Nat} {Q : gQ} {X : gX} {H : gH} {x : Nat} {v1 : Int32} (h : gWp (gTab (tb_R_readRow (meth d))) Q X 0 [some (.ref (x + 0)), some (.int v1)] [] H) : meth (d + 1) 166 [.ref (x + 0), .int v1] H Q X := (show _ ∧ _ from ⟨Nat.le_of_ble_eq_true rfl, h⟩)
set_option maxRecDepth 20000 in
theorem wb_R_state_0 {S : Nat → gS} (hm : ∀ k, gMono (gTab (tb_R_state S) k)) {Q : gQ} {X : gX} {H : gH} {x : Nat} {P : Nat → Nat} {I A : Nat → Nat → Int32} {v1 : Int32}
    (h : ((v1 < 0 → gWp (gTab (tb_R_state S)) Q X 22 [some (.ref (x + 0)), some (.int v1), none, none] [.ref (x + 0)] (gset H x mck P (upI I 0 0 0) A)) ∧ (¬ (v1 < 0) → (((I 0 2) < v1 → gWp (gTab (tb_R_state S)) Q X 22 [some (.ref (x + 0)), some (.int v1), none, none] [.ref (x + 0)] (gset H x mck P (upI I 0 0 0) A)) ∧ (¬ ((I 0 2) < v1) → gWp (gTab (tb_R_state S)) Q X 23 [some (.ref (x + 0)), some (.int v1), none, none] [.int 1, .ref (x + 0)] (gset H x mck P (upI I 0 0 0) A)))))) :
    gWp (gTab (tb_R_state S)) Q X 0 [some (.ref (x + 0)), some (.int v1), none, none] [] (gset H x mck P I A) :=
  x_aload hm (show gTab (tb_R_state S) 0 = gi_aload 1 0 from rfl) rfl (x_st hm (show gTab (tb_R_state S) 1 = gi_st 2 (gf_push (.int 0)) from rfl) rfl (x_puti hm (show gTab (tb_R_state S) 2 = gi_puti 5 10 0 from rfl) (o := 0) rfl rfl cp_10_0 (x_aload hm (show gTab (tb_R_state S) 5 = gi_aload 6 0 from rfl) rfl (x_iload hm (show gTab (tb_R_state S) 6 = gi_iload 7 1 from rfl) rfl (x_if hm (show gTab (tb_R_state S) 7 = gi_if 10 22 (fun x => x < 0) from rfl) (fun c0 => (h.1 c0)) (fun c0 => x_iload hm (show gTab (tb_R_state S) 10 = gi_iload 11 1 from rfl) rfl (x_aload hm (show gTab (tb_R_state S) 11 = gi_aload 12 0 from rfl) rfl (x_get hm (show gTab (tb_R_state S) 12 = gi_get 15 10 2 from rfl) (o := 0) rfl rfl (x_icmp hm (show gTab (tb_R_state S) 15 = gi_icmp 18 22 (fun x y => y < x) from rfl) (fun c1 => ((h.2 c0).1 c1)) (fun c1 => x_st hm (show gTab (tb_R_state S) 18 = gi_st 19 (gf_push (.int 1)) from rfl) rfl (x_goto hm (show gTab (tb_R_state S) 19 = gi_goto 23 from rfl) (((h.2 c0).2 c1)))))))))))))
set_option maxRecDepth 20000 in
theorem wb_R_state_22 {S : Nat → gS} (hm : ∀ k, gMono (gTab (tb_R_state S) k)) {Q : gQ} {X : gX} {H : gH} {x : Nat} {P : Nat → Nat} {I A : Nat → Nat → Int32} {v1 : Int32}
    (h : gWp (gTab (tb_R_state S)) Q X 23 [some (.ref (x + 0)), some (.int v1), none, none] [.int 0, .ref (x + 0)] (gset H x mck P I A)) :
    gWp (gTab (tb_R_state S)) Q X 22 [some (.ref (x + 0)), some (.int v1), none, none] [.ref (x + 0)] (gset H x mck P I A) :=
  x_st hm (show gTab (tb_R_state S) 22 = gi_st 23 (gf_push (.int 0)) from rfl) rfl (h)
set_option maxRecDepth 20000 in
theorem wb_R_state_23 {S : Nat → gS} (hm : ∀ k, gMono (gTab (tb_R_state S) k)) {Q : gQ} {X : gX} {H : gH} {x : Nat} {P : Nat → Nat} {I A : Nat → Nat → Int32} {s1 : Int32} {v1 : Int32}
    (h : S 143 [.ref (x + 0), .int s1, .int 1, .int 1] (gset H x mck P I A) (fun r H' => gWp (gTab (tb_R_state S)) Q X 28 [some (.ref (x + 0)), some (.int v1), none, none] (r.toList ++ []) H') X) :
    gWp (gTab (tb_R_state S)) Q X 23 [some (.ref (x + 0)), some (.int v1), none, none] [.int s1, .ref (x + 0)] (gset H x mck P I A) :=
  x_st hm (show gTab (tb_R_state S) 23 = gi_st 24 (gf_push (.int 1)) from rfl) rfl (x_st hm (show gTab (tb_R_state S) 24 = gi_st 25 (gf_push (.int 1)) from rfl) rfl (x_callv hm (show gTab (tb_R_state S) 25 = gi_callv (S 143) 10 28 4 from rfl) (o := 0) (as := [.int s1, .int 1, .int 1]) (rest := []) rfl rfl (Nat.le_of_ble_eq_true rfl) (Nat.le_of_ble_eq_true rfl) rfl h))
set_option maxRecDepth 20000 in
theorem wb_R_state_28 {S : Nat → gS} (hm : ∀ k, gMono (gTab (tb_R_state S) k)) {Q : gQ} {X : gX} {H : gH} {x : Nat} {P : Nat → Nat} {I A : Nat → Nat → Int32} {s0 : Int32} {v1 : Int32}
    (h : ((¬ s0 = 0 → S 157 [.ref (x + 0), .int v1] (gset H x mck P I A) (fun r H' => gWp (gTab (tb_R_state S)) Q X 38 [some (.ref (x + 0)), some (.int v1), none, none] (r.toList ++ []) H') X) ∧ (¬ (¬ s0 = 0) → Q (some (.int 0)) (gset H x mck P I A)))) :
    gWp (gTab (tb_R_state S)) Q X 28 [some (.ref (x + 0)), some (.int v1), none, none] [.int s0] (gset H x mck P I A) :=
  x_if hm (show gTab (tb_R_state S) 28 = gi_if 31 33 (fun x => ¬ x = 0) from rfl) (fun c0 => x_aload hm (show gTab (tb_R_state S) 33 = gi_aload 34 0 from rfl) rfl (x_iload hm (show gTab (tb_R_state S) 34 = gi_iload 35 1 from rfl) rfl (x_callv hm (show gTab (tb_R_state S) 35 = gi_callv (S 157) 10 38 2 from rfl) (o := 0) (as := [.int v1]) (rest := []) rfl rfl (Nat.le_of_ble_eq_true rfl) (Nat.le_of_ble_eq_true rfl) rfl (h.1 c0)))) (fun c0 => x_st hm (show gTab (tb_R_state S) 31 = gi_st 32 (gf_push (.int 0)) from rfl) rfl (x_iret hm (show gTab (tb_R_state S) 32 = gi_iret from rfl) (h.2 c0)))
set_option maxRecDepth 20000 in
theorem wb_R_state_38 {S : Nat → gS} (hm : ∀ k, gMono (gTab (tb_R_state S) k)) {Q : gQ} {X : gX} {H : gH} {x : Nat} {P : Nat → Nat} {I A : Nat → Nat → Int32} {v1 : Int32}
    (h : S 161 [.ref (x + 0)] (gset H x mck P I A) (fun r H' => gWp (gTab (tb_R_state S)) Q X 42 [some (.ref (x + 0)), some (.int v1), none, none] (r.toList ++ []) H') X) :
    gWp (gTab (tb_R_state S)) Q X 38 [some (.ref (x + 0)), some (.int v1), none, none] [] (gset H x mck P I A) :=
  x_aload hm (show gTab (tb_R_state S) 38 = gi_aload 39 0 from rfl) rfl (x_callv hm (show gTab (tb_R_state S) 39 = gi_callv (S 161) 10 42 1 from rfl) (o := 0) (as := []) (rest := []) rfl rfl (Nat.le_of_ble_eq_true rfl) (Nat.le_of_ble_eq_true rfl) rfl h)
set_option maxRecDepth 20000 in
theorem wb_R_state_42 {S : Nat → gS} (hm : ∀ k, gMono (gTab (tb_R_state S) k)) {Q : gQ} {X : gX} {H : gH} {x : Nat} {P : Nat → Nat} {I A : Nat → Nat → Int32} {v1 : Int32}
    (h : gWp (gTab (tb_R_state S)) Q X 44 [some (.ref (x + 0)), some (.int v1), some (.int 0), none] [] (gset H x mck P I A)) :
    gWp (gTab (tb_R_state S)) Q X 42 [some (.ref (x + 0)), some (.int v1), none, none] [] (gset H x mck P I A) :=
  x_st hm (show gTab (tb_R_state S) 42 = gi_st 43 (gf_push (.int 0)) from rfl) rfl (x_istore hm (show gTab (tb_R_state S) 43 = gi_istore 44 2 from rfl) rfl (h))
set_option maxRecDepth 20000 in
theorem wb_R_state_44 {S : Nat → gS} (hm : ∀ k, gMono (gTab (tb_R_state S) k)) {Q : gQ} {X : gX} {H : gH} {x : Nat} {P : Nat → Nat} {I A : Nat → Nat → Int32} {v1 : Int32} {v2 : Int32}
    (h : S 146 [.ref (x + 0)] (gset H x mck P I A) (fun r H' => gWp (gTab (tb_R_state S)) Q X 48 [some (.ref (x + 0)), some (.int v1), some (.int v2), none] (r.toList ++ []) H') X) :
    gWp (gTab (tb_R_state S)) Q X 44 [some (.ref (x + 0)), some (.int v1), some (.int v2), none] [] (gset H x mck P I A) :=
  x_aload hm (show gTab (tb_R_state S) 44 = gi_aload 45 0 from rfl) rfl (x_callv hm (show gTab (tb_R_state S) 45 = gi_callv (S 146) 10 48 1 from rfl) (o := 0) (as := []) (rest := []) rfl rfl (Nat.le_of_ble_eq_true rfl) (Nat.le_of_ble_eq_true rfl) rfl h)
set_option maxRecDepth 20000 in
theorem wb_R_state_48 {S : Nat → gS} (hm : ∀ k, gMono (gTab (tb_R_state S) k)) {Q : gQ} {X : gX} {H : gH} {x : Nat} {P : Nat → Nat} {I A : Nat → Nat → Int32} {s0 : Int32} {v1 : Int32} {v2 : Int32}
    (h : ((s0 = 0 → gWp (gTab (tb_R_state S)) Q X 164 [some (.ref (x + 0)), some (.int v1), some (.int v2), none] [] (gset H x mck P I A)) ∧ (¬ (s0 = 0) → S 156 [.ref (x + 0)] (gset H x mck P I A) (fun r H' => gWp (gTab (tb_R_state S)) Q X 55 [some (.ref (x + 0)), some (.int v1), some (.int v2), none] (r.toList ++ []) H') X))) :
    gWp (gTab (tb_R_state S)) Q X 48 [some (.ref (x + 0)), some (.int v1), some (.int v2), none] [.int s0] (gset H x mck P I A) :=
  x_if hm (show gTab (tb_R_state S) 48 = gi_if 51 164 (fun x => x = 0) from rfl) (fun c0 => (h.1 c0)) (fun c0 => x_aload hm (show gTab (tb_R_state S) 51 = gi_aload 52 0 from rfl) rfl (x_callv hm (show gTab (tb_R_state S) 52 = gi_callv (S 156) 10 55 1 from rfl) (o := 0) (as := []) (rest := []) rfl rfl (Nat.le_of_ble_eq_true rfl) (Nat.le_of_ble_eq_true rfl) rfl (h.2 c0)))
set_option maxRecDepth 20000 in
theorem wb_R_state_55 {S : Nat → gS} (hm : ∀ k, gMono (gTab (tb_R_state S) k)) {Q : gQ} {X : gX} {H : gH} {x : Nat} {P : Nat → Nat} {I A : Nat → Nat → Int32} {s0 : Int32} {v1 : Int32} {v2 : Int32}
    (h : ((s0 = 0 → gWp (gTab (tb_R_state S)) Q X 164 [some (.ref (x + 0)), some (.int v1), some (.int v2), none] [] (gset H x mck P I A)) ∧ (¬ (s0 = 0) → S 151 [.ref (x + 0)] (gset H x mck P I A) (fun r H' => gWp (gTab (tb_R_state S)) Q X 62 [some (.ref (x + 0)), some (.int v1), some (.int v2), none] (r.toList ++ []) H') X))) :
    gWp (gTab (tb_R_state S)) Q X 55 [some (.ref (x + 0)), some (.int v1), some (.int v2), none] [.int s0] (gset H x mck P I A) :=
  x_if hm (show gTab (tb_R_state S) 55 = gi_if 58 164 (fun x => x = 0) from rfl) (fun c0 => (h.1 c0)) (fun c0 => x_aload hm (show gTab (tb_R_state S) 58 = gi_aload 59 0 from rfl) rfl (x_callv hm (show gTab (tb_R_state S) 59 = gi_callv (S 151) 10 62 1 from rfl) (o := 0) (as := []) (rest := []) rfl rfl (Nat.le_of_ble_eq_true rfl) (Nat.le_of_ble_eq_true rfl) rfl (h.2 c0)))
set_option maxRecDepth 20000 in
theorem wb_R_state_62 {S : Nat → gS} (hm : ∀ k, gMono (gTab (tb_R_state S) k)) {Q : gQ} {X : gX} {H : gH} {x : Nat} {P : Nat → Nat} {I A : Nat → Nat → Int32} {s0 : Int32} {v1 : Int32} {v2 : Int32}
    (h : S 165 [.int s0] (gset H x mck P I A) (fun r H' => gWp (gTab (tb_R_state S)) Q X 67 [some (.ref (x + 0)), some (.int v1), some (.int v2), some (.int s0)] (r.toList ++ []) H') X) :
    gWp (gTab (tb_R_state S)) Q X 62 [some (.ref (x + 0)), some (.int v1), some (.int v2), none] [.int s0] (gset H x mck P I A) :=
  x_istore hm (show gTab (tb_R_state S) 62 = gi_istore 63 3 from rfl) rfl (x_iload hm (show gTab (tb_R_state S) 63 = gi_iload 64 3 from rfl) rfl (x_calls hm (show gTab (tb_R_state S) 64 = gi_calls (S 165) 67 1 from rfl) (as := [.int s0]) (rest := []) rfl rfl (Nat.le_of_ble_eq_true rfl) (Nat.le_of_ble_eq_true rfl) h))
set_option maxRecDepth 20000 in
theorem wb_R_state_67 {S : Nat → gS} (hm : ∀ k, gMono (gTab (tb_R_state S) k)) {Q : gQ} {X : gX} {H : gH} {x : Nat} {P : Nat → Nat} {I A : Nat → Nat → Int32} {s0 : Int32} {v1 : Int32} {v2 : Int32} {v3 : Int32}
    (h : ((¬ s0 = 0 → ((v2 = 60 → gWp (gTab (tb_R_state S)) Q X 124 [some (.ref (x + 0)), some (.int v1), some (.int v2), some (.int v3)] [] (gset H x mck P I A)) ∧ (¬ (v2 = 60) → S 152 [.ref 1000005] (gset H x mck P I A) (fun r H' => gWp (gTab (tb_R_state S)) Q X 94 [some (.ref (x + 0)), some (.int v1), some (.int v2), some (.int v3)] (r.toList ++ [.int v3]) H') X))) ∧ (¬ (¬ s0 = 0) → S 147 [.ref (x + 0), .int 1, .int (I 0 4)] (gset H x mck P I A) (fun r H' => gWp (gTab (tb_R_state S)) Q X 79 [some (.ref (x + 0)), some (.int v1), some (.int v2), some (.int v3)] (r.toList ++ []) H') X))) :
    gWp (gTab (tb_R_state S)) Q X 67 [some (.ref (x + 0)), some (.int v1), some (.int v2), some (.int v3)] [.int s0] (gset H x mck P I A) :=
  x_if hm (show gTab (tb_R_state S) 67 = gi_if 70 82 (fun x => ¬ x = 0) from rfl) (fun c0 => x_iload hm (show gTab (tb_R_state S) 82 = gi_iload 83 2 from rfl) rfl (x_st hm (show gTab (tb_R_state S) 83 = gi_st 85 (gf_push (.int 60)) from rfl) rfl (x_icmp hm (show gTab (tb_R_state S) 85 = gi_icmp 88 124 (fun x y => x = y) from rfl) (fun c1 => ((h.1 c0).1 c1)) (fun c1 => x_iload hm (show gTab (tb_R_state S) 88 = gi_iload 89 3 from rfl) rfl (x_st hm (show gTab (tb_R_state S) 89 = gi_st 91 (gf_push (.ref 1000005)) from rfl) rfl (x_calls hm (show gTab (tb_R_state S) 91 = gi_calls (S 152) 94 1 from rfl) (as := [.ref 1000005]) (rest := [.int v3]) rfl rfl (Nat.le_of_ble_eq_true rfl) (Nat.le_of_ble_eq_true rfl) ((h.1 c0).2 c1))))))) (fun c0 => x_aload hm (show gTab (tb_R_state S) 70 = gi_aload 71 0 from rfl) rfl (x_st hm (show gTab (tb_R_state S) 71 = gi_st 72 (gf_push (.int 1)) from rfl) rfl (x_aload hm (show gTab (tb_R_state S) 72 = gi_aload 73 0 from rfl) rfl (x_get hm (show gTab (tb_R_state S) 73 = gi_get 76 10 4 from rfl) (o := 0) rfl rfl (x_callv hm (show gTab (tb_R_state S) 76 = gi_callv (S 147) 10 79 3 from rfl) (o := 0) (as := [.int 1, .int (I 0 4)]) (rest := []) rfl rfl (Nat.le_of_ble_eq_true rfl) (Nat.le_of_ble_eq_true rfl) rfl (h.2 c0))))))
set_option maxRecDepth 20000 in
theorem wb_R_state_79 {S : Nat → gS} (hm : ∀ k, gMono (gTab (tb_R_state S) k)) {Q : gQ} {X : gX} {H : gH} {x : Nat} {P : Nat → Nat} {I A : Nat → Nat → Int32} {v1 : Int32} {v2 : Int32} {v3 : Int32}
    (h : gWp (gTab (tb_R_state S)) Q X 133 [some (.ref (x + 0)), some (.int v1), some (.int v2), some (.int v3)] [] (gset H x mck P I A)) :
    gWp (gTab (tb_R_state S)) Q X 79 [some (.ref (x + 0)), some (.int v1), some (.int v2), some (.int v3)] [] (gset H x mck P I A) :=
  x_goto hm (show gTab (tb_R_state S) 79 = gi_goto 133 from rfl) (h)
set_option maxRecDepth 20000 in
theorem wb_R_state_94 {S : Nat → gS} (hm : ∀ k, gMono (gTab (tb_R_state S) k)) {Q : gQ} {X : gX} {H : gH} {x : Nat} {P : Nat → Nat} {I A : Nat → Nat → Int32} {s0 : Int32} {s1 : Int32} {v1 : Int32} {v2 : Int32} {v3 : Int32}
    (h : ((¬ s0 = s1 → gWp (gTab (tb_R_state S)) Q X 106 [some (.ref (x + 0)), some (.int v1), some (.int v2), some (.int v3)] [] (gset H x mck P I A)) ∧ (¬ (¬ s0 = s1) → (((I 0 16) = 8 → gWp (gTab (tb_R_state S)) Q X 124 [some (.ref (x + 0)), some (.int v1), some (.int v2), some (.int v3)] [] (gset H x mck P I A)) ∧ (¬ ((I 0 16) = 8) → gWp (gTab (tb_R_state S)) Q X 106 [some (.ref (x + 0)), some (.int v1), some (.int v2), some (.int v3)] [] (gset H x mck P I A)))))) :
    gWp (gTab (tb_R_state S)) Q X 94 [some (.ref (x + 0)), some (.int v1), some (.int v2), some (.int v3)] [.int s1, .int s0] (gset H x mck P I A) :=
  x_icmp hm (show gTab (tb_R_state S) 94 = gi_icmp 97 106 (fun x y => ¬ x = y) from rfl) (fun c0 => (h.1 c0)) (fun c0 => x_aload hm (show gTab (tb_R_state S) 97 = gi_aload 98 0 from rfl) rfl (x_get hm (show gTab (tb_R_state S) 98 = gi_get 101 10 16 from rfl) (o := 0) rfl rfl (x_st hm (show gTab (tb_R_state S) 101 = gi_st 103 (gf_push (.int 8)) from rfl) rfl (x_icmp hm (show gTab (tb_R_state S) 103 = gi_icmp 106 124 (fun x y => x = y) from rfl) (fun c1 => ((h.2 c0).1 c1)) (fun c1 => ((h.2 c0).2 c1))))))
set_option maxRecDepth 20000 in
theorem wb_R_state_106 {S : Nat → gS} (hm : ∀ k, gMono (gTab (tb_R_state S) k)) {Q : gQ} {X : gX} {H : gH} {x : Nat} {P : Nat → Nat} {I A : Nat → Nat → Int32} {v1 : Int32} {v2 : Int32} {v3 : Int32}
    (h : S 152 [.ref 1000006] (gset H x mck P I A) (fun r H' => gWp (gTab (tb_R_state S)) Q X 112 [some (.ref (x + 0)), some (.int v1), some (.int v2), some (.int v3)] (r.toList ++ [.int v3]) H') X) :
    gWp (gTab (tb_R_state S)) Q X 106 [some (.ref (x + 0)), some (.int v1), some (.int v2), some (.int v3)] [] (gset H x mck P I A) :=
  x_iload hm (show gTab (tb_R_state S) 106 = gi_iload 107 3 from rfl) rfl (x_st hm (show gTab (tb_R_state S) 107 = gi_st 109 (gf_push (.ref 1000006)) from rfl) rfl (x_calls hm (show gTab (tb_R_state S) 109 = gi_calls (S 152) 112 1 from rfl) (as := [.ref 1000006]) (rest := [.int v3]) rfl rfl (Nat.le_of_ble_eq_true rfl) (Nat.le_of_ble_eq_true rfl) h))
set_option maxRecDepth 20000 in
theorem wb_R_state_112 {S : Nat → gS} (hm : ∀ k, gMono (gTab (tb_R_state S) k)) {Q : gQ} {X : gX} {H : gH} {x : Nat} {P : Nat → Nat} {I A : Nat → Nat → Int32} {s0 : Int32} {s1 : Int32} {v1 : Int32} {v2 : Int32} {v3 : Int32}
    (h : ((¬ s0 = s1 → gWp (gTab (tb_R_state S)) Q X 133 [some (.ref (x + 0)), some (.int v1), some (.int v2), some (.int v3)] [] (gset H x mck P I A)) ∧ (¬ (¬ s0 = s1) → ((¬ (I 0 17) = 12 → gWp (gTab (tb_R_state S)) Q X 133 [some (.ref (x + 0)), some (.int v1), some (.int v2), some (.int v3)] [] (gset H x mck P I A)) ∧ (¬ (¬ (I 0 17) = 12) → gWp (gTab (tb_R_state S)) Q X 124 [some (.ref (x + 0)), some (.int v1), some (.int v2), some (.int v3)] [] (gset H x mck P I A)))))) :
    gWp (gTab (tb_R_state S)) Q X 112 [some (.ref (x + 0)), some (.int v1), some (.int v2), some (.int v3)] [.int s1, .int s0] (gset H x mck P I A) :=
  x_icmp hm (show gTab (tb_R_state S) 112 = gi_icmp 115 133 (fun x y => ¬ x = y) from rfl) (fun c0 => (h.1 c0)) (fun c0 => x_aload hm (show gTab (tb_R_state S) 115 = gi_aload 116 0 from rfl) rfl (x_get hm (show gTab (tb_R_state S) 116 = gi_get 119 10 17 from rfl) (o := 0) rfl rfl (x_st hm (show gTab (tb_R_state S) 119 = gi_st 121 (gf_push (.int 12)) from rfl) rfl (x_icmp hm (show gTab (tb_R_state S) 121 = gi_icmp 124 133 (fun x y => ¬ x = y) from rfl) (fun c1 => ((h.2 c0).1 c1)) (fun c1 => ((h.2 c0).2 c1))))))
set_option maxRecDepth 20000 in
theorem wb_R_state_124 {S : Nat → gS} (hm : ∀ k, gMono (gTab (tb_R_state S) k)) {Q : gQ} {X : gX} {H : gH} {x : Nat} {P : Nat → Nat} {I A : Nat → Nat → Int32} {v1 : Int32} {v2 : Int32} {v3 : Int32}
    (h : S 147 [.ref (x + 0), .int 3, .int (I 0 4)] (gset H x mck P I A) (fun r H' => gWp (gTab (tb_R_state S)) Q X 133 [some (.ref (x + 0)), some (.int v1), some (.int v2), some (.int v3)] (r.toList ++ []) H') X) :
    gWp (gTab (tb_R_state S)) Q X 124 [some (.ref (x + 0)), some (.int v1), some (.int v2), some (.int v3)] [] (gset H x mck P I A) :=
  x_aload hm (show gTab (tb_R_state S) 124 = gi_aload 125 0 from rfl) rfl (x_st hm (show gTab (tb_R_state S) 125 = gi_st 126 (gf_push (.int 3)) from rfl) rfl (x_aload hm (show gTab (tb_R_state S) 126 = gi_aload 127 0 from rfl) rfl (x_get hm (show gTab (tb_R_state S) 127 = gi_get 130 10 4 from rfl) (o := 0) rfl rfl (x_callv hm (show gTab (tb_R_state S) 130 = gi_callv (S 147) 10 133 3 from rfl) (o := 0) (as := [.int 3, .int (I 0 4)]) (rest := []) rfl rfl (Nat.le_of_ble_eq_true rfl) (Nat.le_of_ble_eq_true rfl) rfl h))))
set_option maxRecDepth 20000 in
theorem wb_R_state_133 {S : Nat → gS} (hm : ∀ k, gMono (gTab (tb_R_state S) k)) {Q : gQ} {X : gX} {H : gH} {x : Nat} {P : Nat → Nat} {I A : Nat → Nat → Int32} {v1 : Int32} {v2 : Int32} {v3 : Int32}
    (h : S 146 [.ref (x + 0)] (gset H x mck P I A) (fun r H' => gWp (gTab (tb_R_state S)) Q X 137 [some (.ref (x + 0)), some (.int v1), some (.int v2), some (.int v3)] (r.toList ++ []) H') X) :
    gWp (gTab (tb_R_state S)) Q X 133 [some (.ref (x + 0)), some (.int v1), some (.int v2), some (.int v3)] [] (gset H x mck P I A) :=
  x_aload hm (show gTab (tb_R_state S) 133 = gi_aload 134 0 from rfl) rfl (x_callv hm (show gTab (tb_R_state S) 134 = gi_callv (S 146) 10 137 1 from rfl) (o := 0) (as := []) (rest := []) rfl rfl (Nat.le_of_ble_eq_true rfl) (Nat.le_of_ble_eq_true rfl) rfl h)
set_option maxRecDepth 20000 in
theorem wb_R_state_137 {S : Nat → gS} (hm : ∀ k, gMono (gTab (tb_R_state S) k)) {Q : gQ} {X : gX} {H : gH} {x : Nat} {P : Nat → Nat} {I A : Nat → Nat → Int32} {s0 : Int32} {v1 : Int32} {v2 : Int32} {v3 : Int32}
    (h : ((¬ s0 = 0 → S 153 [.ref (x + 0)] (gset H x mck P I A) (fun r H' => gWp (gTab (tb_R_state S)) Q X 147 [some (.ref (x + 0)), some (.int v1), some (.int v2), some (.int v3)] (r.toList ++ []) H') X) ∧ (¬ (¬ s0 = 0) → gWp (gTab (tb_R_state S)) Q X 164 [some (.ref (x + 0)), some (.int v1), some (.int v2), none] [] (gset H x mck P I A)))) :
    gWp (gTab (tb_R_state S)) Q X 137 [some (.ref (x + 0)), some (.int v1), some (.int v2), some (.int v3)] [.int s0] (gset H x mck P I A) :=
  x_if hm (show gTab (tb_R_state S) 137 = gi_if 140 143 (fun x => ¬ x = 0) from rfl) (fun c0 => x_aload hm (show gTab (tb_R_state S) 143 = gi_aload 144 0 from rfl) rfl (x_callv hm (show gTab (tb_R_state S) 144 = gi_callv (S 153) 10 147 1 from rfl) (o := 0) (as := []) (rest := []) rfl rfl (Nat.le_of_ble_eq_true rfl) (Nat.le_of_ble_eq_true rfl) rfl (h.1 c0))) (fun c0 => x_goto hm (show gTab (tb_R_state S) 140 = gi_goto 164 from rfl) (x_weak (gLe_c (gLe_c (gLe_c (gLe_d gLe_n)))) (h.2 c0)))
set_option maxRecDepth 20000 in
theorem wb_R_state_147 {S : Nat → gS} (hm : ∀ k, gMono (gTab (tb_R_state S) k)) {Q : gQ} {X : gX} {H : gH} {x : Nat} {P : Nat → Nat} {I A : Nat → Nat → Int32} {v1 : Int32} {v2 : Int32} {v3 : Int32}
    (h : S 166 [.ref (x + 0), .int v3] (gset H x mck P I A) (fun r H' => gWp (gTab (tb_R_state S)) Q X 152 [some (.ref (x + 0)), some (.int v1), some (.int v2), some (.int v3)] (r.toList ++ []) H') X) :
    gWp (gTab (tb_R_state S)) Q X 147 [some (.ref (x + 0)), some (.int v1), some (.int v2), some (.int v3)] [] (gset H x mck P I A) :=
  x_aload hm (show gTab (tb_R_state S) 147 = gi_aload 148 0 from rfl) rfl (x_iload hm (show gTab (tb_R_state S) 148 = gi_iload 149 3 from rfl) rfl (x_callv hm (show gTab (tb_R_state S) 149 = gi_callv (S 166) 10 152 2 from rfl) (o := 0) (as := [.int v3]) (rest := []) rfl rfl (Nat.le_of_ble_eq_true rfl) (Nat.le_of_ble_eq_true rfl) rfl h))
set_option maxRecDepth 20000 in
theorem wb_R_state_152 {S : Nat → gS} (hm : ∀ k, gMono (gTab (tb_R_state S) k)) {Q : gQ} {X : gX} {H : gH} {x : Nat} {P : Nat → Nat} {I A : Nat → Nat → Int32} {v1 : Int32} {v2 : Int32} {v3 : Int32}
    (h : S 155 [.ref (x + 0), .int 59] (gset H x mck P I A) (fun r H' => gWp (gTab (tb_R_state S)) Q X 158 [some (.ref (x + 0)), some (.int v1), some (.int v2), some (.int v3)] (r.toList ++ []) H') X) :
    gWp (gTab (tb_R_state S)) Q X 152 [some (.ref (x + 0)), some (.int v1), some (.int v2), some (.int v3)] [] (gset H x mck P I A) :=
  x_aload hm (show gTab (tb_R_state S) 152 = gi_aload 153 0 from rfl) rfl (x_st hm (show gTab (tb_R_state S) 153 = gi_st 155 (gf_push (.int 59)) from rfl) rfl (x_callv hm (show gTab (tb_R_state S) 155 = gi_callv (S 155) 10 158 2 from rfl) (o := 0) (as := [.int 59]) (rest := []) rfl rfl (Nat.le_of_ble_eq_true rfl) (Nat.le_of_ble_eq_true rfl) rfl h))
set_option maxRecDepth 20000 in
theorem wb_R_state_158 {S : Nat → gS} (hm : ∀ k, gMono (gTab (tb_R_state S) k)) {Q : gQ} {X : gX} {H : gH} {x : Nat} {P : Nat → Nat} {I A : Nat → Nat → Int32} {v1 : Int32} {v2 : Int32} {v3 : Int32}
    (h : gWp (gTab (tb_R_state S)) Q X 44 [some (.ref (x + 0)), some (.int v1), some (.int (v2 + 1)), none] [] (gset H x mck P I A)) :
    gWp (gTab (tb_R_state S)) Q X 158 [some (.ref (x + 0)), some (.int v1), some (.int v2), some (.int v3)] [] (gset H x mck P I A) :=
  x_iinc hm (show gTab (tb_R_state S) 158 = gi_iinc 161 2 1 from rfl) rfl rfl (x_goto hm (show gTab (tb_R_state S) 161 = gi_goto 44 from rfl) (x_weak (gLe_c (gLe_c (gLe_c (gLe_d gLe_n)))) h))
set_option maxRecDepth 20000 in
theorem wb_R_state_164 {S : Nat → gS} (hm : ∀ k, gMono (gTab (tb_R_state S) k)) {Q : gQ} {X : gX} {H : gH} {x : Nat} {P : Nat → Nat} {I A : Nat → Nat → Int32} {v1 : Int32} {v2 : Int32}
    (h : S 158 [.ref (x + 0), .int (I 0 16)] (gset H x mck P I A) (fun r H' => gWp (gTab (tb_R_state S)) Q X 172 [some (.ref (x + 0)), some (.int v1), some (.int v2), none] (r.toList ++ []) H') X) :
    gWp (gTab (tb_R_state S)) Q X 164 [some (.ref (x + 0)), some (.int v1), some (.int v2), none] [] (gset H x mck P I A) :=
  x_aload hm (show gTab (tb_R_state S) 164 = gi_aload 165 0 from rfl) rfl (x_aload hm (show gTab (tb_R_state S) 165 = gi_aload 166 0 from rfl) rfl (x_get hm (show gTab (tb_R_state S) 166 = gi_get 169 10 16 from rfl) (o := 0) rfl rfl (x_callv hm (show gTab (tb_R_state S) 169 = gi_callv (S 158) 10 172 2 from rfl) (o := 0) (as := [.int (I 0 16)]) (rest := []) rfl rfl (Nat.le_of_ble_eq_true rfl) (Nat.le_of_ble_eq_true rfl) rfl h)))
set_option maxRecDepth 20000 in
theorem wb_R_state_172 {S : Nat → gS} (hm : ∀ k, gMono (gTab (tb_R_state S) k)) {Q : gQ} {X : gX} {H : gH} {x : Nat} {P : Nat → Nat} {I A : Nat → Nat → Int32} {s0 : Int32} {v1 : Int32} {v2 : Int32}
    (h : ((¬ (I 0 5) = ((-1)) → gWp (gTab (tb_R_state S)) Q X 185 [some (.ref (x + 0)), some (.int v1), some (.int v2), some (.int s0)] [] (gset H x mck P I A)) ∧ (¬ (¬ (I 0 5) = ((-1))) → S 162 [.ref (x + 0)] (gset H x mck P I A) (fun r H' => gWp (gTab (tb_R_state S)) Q X 185 [some (.ref (x + 0)), some (.int v1), some (.int v2), some (.int s0)] (r.toList ++ []) H') X))) :
    gWp (gTab (tb_R_state S)) Q X 172 [some (.ref (x + 0)), some (.int v1), some (.int v2), none] [.int s0] (gset H x mck P I A) :=
  x_istore hm (show gTab (tb_R_state S) 172 = gi_istore 173 3 from rfl) rfl (x_aload hm (show gTab (tb_R_state S) 173 = gi_aload 174 0 from rfl) rfl (x_get hm (show gTab (tb_R_state S) 174 = gi_get 177 10 5 from rfl) (o := 0) rfl rfl (x_st hm (show gTab (tb_R_state S) 177 = gi_st 178 (gf_push (.int (-1))) from rfl) rfl (x_icmp hm (show gTab (tb_R_state S) 178 = gi_icmp 181 185 (fun x y => ¬ x = y) from rfl) (fun c0 => (h.1 c0)) (fun c0 => x_aload hm (show gTab (tb_R_state S) 181 = gi_aload 182 0 from rfl) rfl (x_callv hm (show gTab (tb_R_state S) 182 = gi_callv (S 162) 10 185 1 from rfl) (o := 0) (as := []) (rest := []) rfl rfl (Nat.le_of_ble_eq_true rfl) (Nat.le_of_ble_eq_true rfl) rfl (h.2 c0)))))))
set_option maxRecDepth 20000 in
theorem wb_R_state_185 {S : Nat → gS} (hm : ∀ k, gMono (gTab (tb_R_state S) k)) {Q : gQ} {X : gX} {H : gH} {x : Nat} {P : Nat → Nat} {I A : Nat → Nat → Int32} {v1 : Int32} {v2 : Int32} {v3 : Int32}
    (h : Q (some (.int v3)) (gset H x mck P I A)) :
    gWp (gTab (tb_R_state S)) Q X 185 [some (.ref (x + 0)), some (.int v1), some (.int v2), some (.int v3)] [] (gset H x mck P I A) :=
  x_iload hm (show gTab (tb_R_state S) 185 = gi_iload 186 3 from rfl) rfl (x_iret hm (show gTab (tb_R_state S) 186 = gi_iret from rfl) h)
set_option maxRecDepth 20000 in
theorem me_R_state {d : Nat} {Q : gQ} {X : gX} {H : gH} {x : Nat} {v1 : Int32} (h : gWp (gTab (tb_R_state (meth d))) Q X 0 [some (.ref (x + 0)), some (.int v1), none, none] [] H) : meth (d + 1) 167 [.ref (x + 0), .int v1] H Q X := (show _ ∧ _ from ⟨Nat.le_of_ble_eq_true rfl, h⟩)
set_option maxRecDepth 20000 in
theorem wb_R_emit_0 {S : Nat → gS} (hm : ∀ k, gMono (gTab (tb_R_emit S) k)) {Q : gQ} {X : gX} {H : gH} {x : Nat} {P : Nat → Nat} {I A : Nat → Nat → Int32} {v1 : Int32} {v2 : Int32}
    (h : S 146 [.ref (x + 0)] (gset H x mck P I A) (fun r H' => gWp (gTab (tb_R_emit S)) Q X 4 [some (.ref (x + 0)), some (.int v1), some (.int v2)] (r.toList ++ []) H') X) :
    gWp (gTab (tb_R_emit S)) Q X 0 [some (.ref (x + 0)), some (.int v1), some (.int v2)] [] (gset H x mck P I A) :=
  x_aload hm (show gTab (tb_R_emit S) 0 = gi_aload 1 0 from rfl) rfl (x_callv hm (show gTab (tb_R_emit S) 1 = gi_callv (S 146) 10 4 1 from rfl) (o := 0) (as := []) (rest := []) rfl rfl (Nat.le_of_ble_eq_true rfl) (Nat.le_of_ble_eq_true rfl) rfl h)
set_option maxRecDepth 20000 in
theorem wb_R_emit_4 {S : Nat → gS} (hm : ∀ k, gMono (gTab (tb_R_emit S) k)) {Q : gQ} {X : gX} {H : gH} {x : Nat} {P : Nat → Nat} {I A : Nat → Nat → Int32} {s0 : Int32} {v1 : Int32} {v2 : Int32}
    (h : ((¬ s0 = 0 → (vp_in (I 0 26) 150 ∧ (vp_in (I 0 26) 150 ∧ Q none (gset H x mck P (upI I 0 26 ((I 0 26) + 1)) (upA (upA A 9 (I 0 26).toNatClampNeg v1) 10 (I 0 26).toNatClampNeg v2))))) ∧ (¬ (¬ s0 = 0) → Q none (gset H x mck P I A)))) :
    gWp (gTab (tb_R_emit S)) Q X 4 [some (.ref (x + 0)), some (.int v1), some (.int v2)] [.int s0] (gset H x mck P I A) :=
  x_if hm (show gTab (tb_R_emit S) 4 = gi_if 7 8 (fun x => ¬ x = 0) from rfl) (fun c0 => x_aload hm (show gTab (tb_R_emit S) 8 = gi_aload 9 0 from rfl) rfl (x_get hm (show gTab (tb_R_emit S) 9 = gi_get 12 10 21 from rfl) (o := 0) rfl rfl (x_aload hm (show gTab (tb_R_emit S) 12 = gi_aload 13 0 from rfl) rfl (x_get hm (show gTab (tb_R_emit S) 13 = gi_get 16 10 26 from rfl) (o := 0) rfl rfl (x_iload hm (show gTab (tb_R_emit S) 16 = gi_iload 17 1 from rfl) rfl (x_iast hm (show gTab (tb_R_emit S) 17 = gi_iast 18 from rfl) (o := 9) rfl (h.1 c0).1 (x_aload hm (show gTab (tb_R_emit S) 18 = gi_aload 19 0 from rfl) rfl (x_get hm (show gTab (tb_R_emit S) 19 = gi_get 22 10 22 from rfl) (o := 0) rfl rfl (x_aload hm (show gTab (tb_R_emit S) 22 = gi_aload 23 0 from rfl) rfl (x_get hm (show gTab (tb_R_emit S) 23 = gi_get 26 10 26 from rfl) (o := 0) rfl rfl (x_iload hm (show gTab (tb_R_emit S) 26 = gi_iload 27 2 from rfl) rfl (x_iast hm (show gTab (tb_R_emit S) 27 = gi_iast 28 from rfl) (o := 10) rfl (h.1 c0).2.1 (x_aload hm (show gTab (tb_R_emit S) 28 = gi_aload 29 0 from rfl) rfl (x_st hm (show gTab (tb_R_emit S) 29 = gi_st 30 gf_dup from rfl) rfl (x_get hm (show gTab (tb_R_emit S) 30 = gi_get 33 10 26 from rfl) (o := 0) rfl rfl (x_st hm (show gTab (tb_R_emit S) 33 = gi_st 34 (gf_push (.int 1)) from rfl) rfl (x_st hm (show gTab (tb_R_emit S) 34 = gi_st 35 (gf_i2 (fun x y => x + y)) from rfl) rfl (x_puti hm (show gTab (tb_R_emit S) 35 = gi_puti 38 10 26 from rfl) (o := 0) rfl rfl cp_10_26 (x_vret hm (show gTab (tb_R_emit S) 38 = gi_vret from rfl) (h.1 c0).2.2))))))))))))))))))) (fun c0 => x_vret hm (show gTab (tb_R_emit S) 7 = gi_vret from rfl) (h.2 c0))
set_option maxRecDepth 20000 in
theorem me_R_emit {d : Nat} {Q : gQ} {X : gX} {H : gH} {x : Nat} {v1 : Int32} {v2 : Int32} (h : gWp (gTab (tb_R_emit (meth d))) Q X 0 [some (.ref (x + 0)), some (.int v1), some (.int v2)] [] H) : meth (d + 1) 168 [.ref (x + 0), .int v1, .int v2] H Q X := (show _ ∧ _ from ⟨Nat.le_of_ble_eq_true rfl, h⟩)
set_option maxRecDepth 20000 in
theorem wb_R_opensOne_0 {S : Nat → gS} (hm : ∀ k, gMono (gTab (tb_R_opensOne S) k)) {Q : gQ} {X : gX} {H : gH} {x : Nat} {P : Nat → Nat} {I A : Nat → Nat → Int32} {v1 : Int32}
    (h : S 146 [.ref (x + 0)] (gset H x mck P I A) (fun r H' => gWp (gTab (tb_R_opensOne S)) Q X 4 [some (.ref (x + 0)), some (.int v1)] (r.toList ++ []) H') X) :
    gWp (gTab (tb_R_opensOne S)) Q X 0 [some (.ref (x + 0)), some (.int v1)] [] (gset H x mck P I A) :=
  x_aload hm (show gTab (tb_R_opensOne S) 0 = gi_aload 1 0 from rfl) rfl (x_callv hm (show gTab (tb_R_opensOne S) 1 = gi_callv (S 146) 10 4 1 from rfl) (o := 0) (as := []) (rest := []) rfl rfl (Nat.le_of_ble_eq_true rfl) (Nat.le_of_ble_eq_true rfl) rfl h)
set_option maxRecDepth 20000 in
theorem wb_R_opensOne_4 {S : Nat → gS} (hm : ∀ k, gMono (gTab (tb_R_opensOne S) k)) {Q : gQ} {X : gX} {H : gH} {x : Nat} {P : Nat → Nat} {I A : Nat → Nat → Int32} {s0 : Int32} {v1 : Int32}
    (h : ((s0 = 0 → gWp (gTab (tb_R_opensOne S)) Q X 25 [some (.ref (x + 0)), some (.int v1)] [] (gset H x mck P I A)) ∧ (¬ (s0 = 0) → ((¬ (I 0 7) = 6 → gWp (gTab (tb_R_opensOne S)) Q X 25 [some (.ref (x + 0)), some (.int v1)] [] (gset H x mck P I A)) ∧ (¬ (¬ (I 0 7) = 6) → S 147 [.ref (x + 0), .int 3, .int (I 0 4)] (gset H x mck P I A) (fun r H' => gWp (gTab (tb_R_opensOne S)) Q X 25 [some (.ref (x + 0)), some (.int v1)] (r.toList ++ []) H') X))))) :
    gWp (gTab (tb_R_opensOne S)) Q X 4 [some (.ref (x + 0)), some (.int v1)] [.int s0] (gset H x mck P I A) :=
  x_if hm (show gTab (tb_R_opensOne S) 4 = gi_if 7 25 (fun x => x = 0) from rfl) (fun c0 => (h.1 c0)) (fun c0 => x_aload hm (show gTab (tb_R_opensOne S) 7 = gi_aload 8 0 from rfl) rfl (x_get hm (show gTab (tb_R_opensOne S) 8 = gi_get 11 10 7 from rfl) (o := 0) rfl rfl (x_st hm (show gTab (tb_R_opensOne S) 11 = gi_st 13 (gf_push (.int 6)) from rfl) rfl (x_icmp hm (show gTab (tb_R_opensOne S) 13 = gi_icmp 16 25 (fun x y => ¬ x = y) from rfl) (fun c1 => ((h.2 c0).1 c1)) (fun c1 => x_aload hm (show gTab (tb_R_opensOne S) 16 = gi_aload 17 0 from rfl) rfl (x_st hm (show gTab (tb_R_opensOne S) 17 = gi_st 18 (gf_push (.int 3)) from rfl) rfl (x_aload hm (show gTab (tb_R_opensOne S) 18 = gi_aload 19 0 from rfl) rfl (x_get hm (show gTab (tb_R_opensOne S) 19 = gi_get 22 10 4 from rfl) (o := 0) rfl rfl (x_callv hm (show gTab (tb_R_opensOne S) 22 = gi_callv (S 147) 10 25 3 from rfl) (o := 0) (as := [.int 3, .int (I 0 4)]) (rest := []) rfl rfl (Nat.le_of_ble_eq_true rfl) (Nat.le_of_ble_eq_true rfl) rfl ((h.2 c0).2 c1))))))))))
set_option maxRecDepth 20000 in
theorem wb_R_opensOne_25 {S : Nat → gS} (hm : ∀ k, gMono (gTab (tb_R_opensOne S) k)) {Q : gQ} {X : gX} {H : gH} {x : Nat} {P : Nat → Nat} {I A : Nat → Nat → Int32} {v1 : Int32}
    (h : S 146 [.ref (x + 0)] (gset H x mck P I A) (fun r H' => gWp (gTab (tb_R_opensOne S)) Q X 29 [some (.ref (x + 0)), some (.int v1)] (r.toList ++ []) H') X) :
    gWp (gTab (tb_R_opensOne S)) Q X 25 [some (.ref (x + 0)), some (.int v1)] [] (gset H x mck P I A) :=
  x_aload hm (show gTab (tb_R_opensOne S) 25 = gi_aload 26 0 from rfl) rfl (x_callv hm (show gTab (tb_R_opensOne S) 26 = gi_callv (S 146) 10 29 1 from rfl) (o := 0) (as := []) (rest := []) rfl rfl (Nat.le_of_ble_eq_true rfl) (Nat.le_of_ble_eq_true rfl) rfl h)
set_option maxRecDepth 20000 in
theorem wb_R_opensOne_29 {S : Nat → gS} (hm : ∀ k, gMono (gTab (tb_R_opensOne S) k)) {Q : gQ} {X : gX} {H : gH} {x : Nat} {P : Nat → Nat} {I A : Nat → Nat → Int32} {s0 : Int32} {v1 : Int32}
    (h : ((s0 = 0 → gWp (gTab (tb_R_opensOne S)) Q X 42 [some (.ref (x + 0)), some (.int v1)] [] (gset H x mck P I A)) ∧ (¬ (s0 = 0) → gWp (gTab (tb_R_opensOne S)) Q X 42 [some (.ref (x + 0)), some (.int v1)] [] (gset H x mck P (upI I 0 4 ((I 0 4) + v1)) A)))) :
    gWp (gTab (tb_R_opensOne S)) Q X 29 [some (.ref (x + 0)), some (.int v1)] [.int s0] (gset H x mck P I A) :=
  x_if hm (show gTab (tb_R_opensOne S) 29 = gi_if 32 42 (fun x => x = 0) from rfl) (fun c0 => (h.1 c0)) (fun c0 => x_aload hm (show gTab (tb_R_opensOne S) 32 = gi_aload 33 0 from rfl) rfl (x_st hm (show gTab (tb_R_opensOne S) 33 = gi_st 34 gf_dup from rfl) rfl (x_get hm (show gTab (tb_R_opensOne S) 34 = gi_get 37 10 4 from rfl) (o := 0) rfl rfl (x_iload hm (show gTab (tb_R_opensOne S) 37 = gi_iload 38 1 from rfl) rfl (x_st hm (show gTab (tb_R_opensOne S) 38 = gi_st 39 (gf_i2 (fun x y => x + y)) from rfl) rfl (x_puti hm (show gTab (tb_R_opensOne S) 39 = gi_puti 42 10 4 from rfl) (o := 0) rfl rfl cp_10_4 ((h.2 c0))))))))
set_option maxRecDepth 20000 in
theorem wb_R_opensOne_42 {S : Nat → gS} (hm : ∀ k, gMono (gTab (tb_R_opensOne S) k)) {Q : gQ} {X : gX} {H : gH} {x : Nat} {P : Nat → Nat} {I A : Nat → Nat → Int32} {v1 : Int32}
    (h : Q none (gset H x mck P (upI I 0 7 ((I 0 7) + 1)) A)) :
    gWp (gTab (tb_R_opensOne S)) Q X 42 [some (.ref (x + 0)), some (.int v1)] [] (gset H x mck P I A) :=
  x_aload hm (show gTab (tb_R_opensOne S) 42 = gi_aload 43 0 from rfl) rfl (x_st hm (show gTab (tb_R_opensOne S) 43 = gi_st 44 gf_dup from rfl) rfl (x_get hm (show gTab (tb_R_opensOne S) 44 = gi_get 47 10 7 from rfl) (o := 0) rfl rfl (x_st hm (show gTab (tb_R_opensOne S) 47 = gi_st 48 (gf_push (.int 1)) from rfl) rfl (x_st hm (show gTab (tb_R_opensOne S) 48 = gi_st 49 (gf_i2 (fun x y => x + y)) from rfl) rfl (x_puti hm (show gTab (tb_R_opensOne S) 49 = gi_puti 52 10 7 from rfl) (o := 0) rfl rfl cp_10_7 (x_vret hm (show gTab (tb_R_opensOne S) 52 = gi_vret from rfl) h))))))
set_option maxRecDepth 20000 in
theorem me_R_opensOne {d : Nat} {Q : gQ} {X : gX} {H : gH} {x : Nat} {v1 : Int32} (h : gWp (gTab (tb_R_opensOne (meth d))) Q X 0 [some (.ref (x + 0)), some (.int v1)] [] H) : meth (d + 1) 169 [.ref (x + 0), .int v1] H Q X := (show _ ∧ _ from ⟨Nat.le_of_ble_eq_true rfl, h⟩)
set_option maxRecDepth 20000 in
theorem wb_R_readSum_0 {S : Nat → gS} (hm : ∀ k, gMono (gTab (tb_R_readSum S) k)) {Q : gQ} {X : gX} {H : gH} {x : Nat} {P : Nat → Nat} {I A : Nat → Nat → Int32}
    (h : S 171 [.ref (x + 0)] (gset H x mck P I A) (fun r H' => gWp (gTab (tb_R_readSum S)) Q X 4 [some (.ref (x + 0)), none] (r.toList ++ []) H') X) :
    gWp (gTab (tb_R_readSum S)) Q X 0 [some (.ref (x + 0)), none] [] (gset H x mck P I A) :=
  x_aload hm (show gTab (tb_R_readSum S) 0 = gi_aload 1 0 from rfl) rfl (x_callv hm (show gTab (tb_R_readSum S) 1 = gi_callv (S 171) 10 4 1 from rfl) (o := 0) (as := []) (rest := []) rfl rfl (Nat.le_of_ble_eq_true rfl) (Nat.le_of_ble_eq_true rfl) rfl h)
set_option maxRecDepth 20000 in
theorem wb_R_readSum_4 {S : Nat → gS} (hm : ∀ k, gMono (gTab (tb_R_readSum S) k)) {Q : gQ} {X : gX} {H : gH} {x : Nat} {P : Nat → Nat} {I A : Nat → Nat → Int32}
    (h : S 146 [.ref (x + 0)] (gset H x mck P I A) (fun r H' => gWp (gTab (tb_R_readSum S)) Q X 8 [some (.ref (x + 0)), none] (r.toList ++ []) H') X) :
    gWp (gTab (tb_R_readSum S)) Q X 4 [some (.ref (x + 0)), none] [] (gset H x mck P I A) :=
  x_aload hm (show gTab (tb_R_readSum S) 4 = gi_aload 5 0 from rfl) rfl (x_callv hm (show gTab (tb_R_readSum S) 5 = gi_callv (S 146) 10 8 1 from rfl) (o := 0) (as := []) (rest := []) rfl rfl (Nat.le_of_ble_eq_true rfl) (Nat.le_of_ble_eq_true rfl) rfl h)
set_option maxRecDepth 20000 in
theorem wb_R_readSum_8 {S : Nat → gS} (hm : ∀ k, gMono (gTab (tb_R_readSum S) k)) {Q : gQ} {X : gX} {H : gH} {x : Nat} {P : Nat → Nat} {I A : Nat → Nat → Int32} {s0 : Int32}
    (h : ((s0 = 0 → gWp (gTab (tb_R_readSum S)) Q X 67 [some (.ref (x + 0)), none] [] (gset H x mck P I A)) ∧ (¬ (s0 = 0) → S 148 [.ref (x + 0)] (gset H x mck P I A) (fun r H' => gWp (gTab (tb_R_readSum S)) Q X 15 [some (.ref (x + 0)), none] (r.toList ++ []) H') X))) :
    gWp (gTab (tb_R_readSum S)) Q X 8 [some (.ref (x + 0)), none] [.int s0] (gset H x mck P I A) :=
  x_if hm (show gTab (tb_R_readSum S) 8 = gi_if 11 67 (fun x => x = 0) from rfl) (fun c0 => (h.1 c0)) (fun c0 => x_aload hm (show gTab (tb_R_readSum S) 11 = gi_aload 12 0 from rfl) rfl (x_callv hm (show gTab (tb_R_readSum S) 12 = gi_callv (S 148) 10 15 1 from rfl) (o := 0) (as := []) (rest := []) rfl rfl (Nat.le_of_ble_eq_true rfl) (Nat.le_of_ble_eq_true rfl) rfl (h.2 c0)))
set_option maxRecDepth 20000 in
theorem wb_R_readSum_15 {S : Nat → gS} (hm : ∀ k, gMono (gTab (tb_R_readSum S) k)) {Q : gQ} {X : gX} {H : gH} {x : Nat} {P : Nat → Nat} {I A : Nat → Nat → Int32} {s0 : Int32}
    (h : ((s0 = 43 → gWp (gTab (tb_R_readSum S)) Q X 29 [some (.ref (x + 0)), none] [] (gset H x mck P I A)) ∧ (¬ (s0 = 43) → S 148 [.ref (x + 0)] (gset H x mck P I A) (fun r H' => gWp (gTab (tb_R_readSum S)) Q X 24 [some (.ref (x + 0)), none] (r.toList ++ []) H') X))) :
    gWp (gTab (tb_R_readSum S)) Q X 15 [some (.ref (x + 0)), none] [.int s0] (gset H x mck P I A) :=
  x_st hm (show gTab (tb_R_readSum S) 15 = gi_st 17 (gf_push (.int 43)) from rfl) rfl (x_icmp hm (show gTab (tb_R_readSum S) 17 = gi_icmp 20 29 (fun x y => x = y) from rfl) (fun c0 => (h.1 c0)) (fun c0 => x_aload hm (show gTab (tb_R_readSum S) 20 = gi_aload 21 0 from rfl) rfl (x_callv hm (show gTab (tb_R_readSum S) 21 = gi_callv (S 148) 10 24 1 from rfl) (o := 0) (as := []) (rest := []) rfl rfl (Nat.le_of_ble_eq_true rfl) (Nat.le_of_ble_eq_true rfl) rfl (h.2 c0))))
set_option maxRecDepth 20000 in
theorem wb_R_readSum_24 {S : Nat → gS} (hm : ∀ k, gMono (gTab (tb_R_readSum S) k)) {Q : gQ} {X : gX} {H : gH} {x : Nat} {P : Nat → Nat} {I A : Nat → Nat → Int32} {s0 : Int32}
    (h : ((¬ s0 = 45 → gWp (gTab (tb_R_readSum S)) Q X 67 [some (.ref (x + 0)), none] [] (gset H x mck P I A)) ∧ (¬ (¬ s0 = 45) → gWp (gTab (tb_R_readSum S)) Q X 29 [some (.ref (x + 0)), none] [] (gset H x mck P I A)))) :
    gWp (gTab (tb_R_readSum S)) Q X 24 [some (.ref (x + 0)), none] [.int s0] (gset H x mck P I A) :=
  x_st hm (show gTab (tb_R_readSum S) 24 = gi_st 26 (gf_push (.int 45)) from rfl) rfl (x_icmp hm (show gTab (tb_R_readSum S) 26 = gi_icmp 29 67 (fun x y => ¬ x = y) from rfl) (fun c0 => (h.1 c0)) (fun c0 => (h.2 c0)))
set_option maxRecDepth 20000 in
theorem wb_R_readSum_29 {S : Nat → gS} (hm : ∀ k, gMono (gTab (tb_R_readSum S) k)) {Q : gQ} {X : gX} {H : gH} {x : Nat} {P : Nat → Nat} {I A : Nat → Nat → Int32}
    (h : S 148 [.ref (x + 0)] (gset H x mck P I A) (fun r H' => gWp (gTab (tb_R_readSum S)) Q X 33 [some (.ref (x + 0)), none] (r.toList ++ []) H') X) :
    gWp (gTab (tb_R_readSum S)) Q X 29 [some (.ref (x + 0)), none] [] (gset H x mck P I A) :=
  x_aload hm (show gTab (tb_R_readSum S) 29 = gi_aload 30 0 from rfl) rfl (x_callv hm (show gTab (tb_R_readSum S) 30 = gi_callv (S 148) 10 33 1 from rfl) (o := 0) (as := []) (rest := []) rfl rfl (Nat.le_of_ble_eq_true rfl) (Nat.le_of_ble_eq_true rfl) rfl h)
set_option maxRecDepth 20000 in
theorem wb_R_readSum_33 {S : Nat → gS} (hm : ∀ k, gMono (gTab (tb_R_readSum S) k)) {Q : gQ} {X : gX} {H : gH} {x : Nat} {P : Nat → Nat} {I A : Nat → Nat → Int32} {s0 : Int32}
    (h : ((¬ s0 = 43 → gWp (gTab (tb_R_readSum S)) Q X 43 [some (.ref (x + 0)), none] [.int 3] (gset H x mck P I A)) ∧ (¬ (¬ s0 = 43) → gWp (gTab (tb_R_readSum S)) Q X 43 [some (.ref (x + 0)), none] [.int 2] (gset H x mck P I A)))) :
    gWp (gTab (tb_R_readSum S)) Q X 33 [some (.ref (x + 0)), none] [.int s0] (gset H x mck P I A) :=
  x_st hm (show gTab (tb_R_readSum S) 33 = gi_st 35 (gf_push (.int 43)) from rfl) rfl (x_icmp hm (show gTab (tb_R_readSum S) 35 = gi_icmp 38 42 (fun x y => ¬ x = y) from rfl) (fun c0 => x_st hm (show gTab (tb_R_readSum S) 42 = gi_st 43 (gf_push (.int 3)) from rfl) rfl ((h.1 c0))) (fun c0 => x_st hm (show gTab (tb_R_readSum S) 38 = gi_st 39 (gf_push (.int 2)) from rfl) rfl (x_goto hm (show gTab (tb_R_readSum S) 39 = gi_goto 43 from rfl) ((h.2 c0)))))
set_option maxRecDepth 20000 in
theorem wb_R_readSum_43 {S : Nat → gS} (hm : ∀ k, gMono (gTab (tb_R_readSum S) k)) {Q : gQ} {X : gX} {H : gH} {x : Nat} {P : Nat → Nat} {I A : Nat → Nat → Int32} {s0 : Int32}
    (h : S 171 [.ref (x + 0)] (gset H x mck P (upI I 0 4 ((I 0 4) + 1)) A) (fun r H' => gWp (gTab (tb_R_readSum S)) Q X 58 [some (.ref (x + 0)), some (.int s0)] (r.toList ++ []) H') X) :
    gWp (gTab (tb_R_readSum S)) Q X 43 [some (.ref (x + 0)), none] [.int s0] (gset H x mck P I A) :=
  x_istore hm (show gTab (tb_R_readSum S) 43 = gi_istore 44 1 from rfl) rfl (x_aload hm (show gTab (tb_R_readSum S) 44 = gi_aload 45 0 from rfl) rfl (x_st hm (show gTab (tb_R_readSum S) 45 = gi_st 46 gf_dup from rfl) rfl (x_get hm (show gTab (tb_R_readSum S) 46 = gi_get 49 10 4 from rfl) (o := 0) rfl rfl (x_st hm (show gTab (tb_R_readSum S) 49 = gi_st 50 (gf_push (.int 1)) from rfl) rfl (x_st hm (show gTab (tb_R_readSum S) 50 = gi_st 51 (gf_i2 (fun x y => x + y)) from rfl) rfl (x_puti hm (show gTab (tb_R_readSum S) 51 = gi_puti 54 10 4 from rfl) (o := 0) rfl rfl cp_10_4 (x_aload hm (show gTab (tb_R_readSum S) 54 = gi_aload 55 0 from rfl) rfl (x_callv hm (show gTab (tb_R_readSum S) 55 = gi_callv (S 171) 10 58 1 from rfl) (o := 0) (as := []) (rest := []) rfl rfl (Nat.le_of_ble_eq_true rfl) (Nat.le_of_ble_eq_true rfl) rfl h))))))))
set_option maxRecDepth 20000 in
theorem wb_R_readSum_58 {S : Nat → gS} (hm : ∀ k, gMono (gTab (tb_R_readSum S) k)) {Q : gQ} {X : gX} {H : gH} {x : Nat} {P : Nat → Nat} {I A : Nat → Nat → Int32} {v1 : Int32}
    (h : S 168 [.ref (x + 0), .int v1, .int 0] (gset H x mck P I A) (fun r H' => gWp (gTab (tb_R_readSum S)) Q X 64 [some (.ref (x + 0)), some (.int v1)] (r.toList ++ []) H') X) :
    gWp (gTab (tb_R_readSum S)) Q X 58 [some (.ref (x + 0)), some (.int v1)] [] (gset H x mck P I A) :=
  x_aload hm (show gTab (tb_R_readSum S) 58 = gi_aload 59 0 from rfl) rfl (x_iload hm (show gTab (tb_R_readSum S) 59 = gi_iload 60 1 from rfl) rfl (x_st hm (show gTab (tb_R_readSum S) 60 = gi_st 61 (gf_push (.int 0)) from rfl) rfl (x_callv hm (show gTab (tb_R_readSum S) 61 = gi_callv (S 168) 10 64 3 from rfl) (o := 0) (as := [.int v1, .int 0]) (rest := []) rfl rfl (Nat.le_of_ble_eq_true rfl) (Nat.le_of_ble_eq_true rfl) rfl h)))
set_option maxRecDepth 20000 in
theorem wb_R_readSum_64 {S : Nat → gS} (hm : ∀ k, gMono (gTab (tb_R_readSum S) k)) {Q : gQ} {X : gX} {H : gH} {x : Nat} {P : Nat → Nat} {I A : Nat → Nat → Int32} {v1 : Int32}
    (h : gWp (gTab (tb_R_readSum S)) Q X 4 [some (.ref (x + 0)), none] [] (gset H x mck P I A)) :
    gWp (gTab (tb_R_readSum S)) Q X 64 [some (.ref (x + 0)), some (.int v1)] [] (gset H x mck P I A) :=
  x_goto hm (show gTab (tb_R_readSum S) 64 = gi_goto 4 from rfl) (x_weak (gLe_c (gLe_d gLe_n)) h)
set_option maxRecDepth 20000 in
theorem wb_R_readSum_67 {S : Nat → gS} (hm : ∀ k, gMono (gTab (tb_R_readSum S) k)) {Q : gQ} {X : gX} {H : gH} {x : Nat} {P : Nat → Nat} {I A : Nat → Nat → Int32}
    (h : Q none (gset H x mck P I A)) :
    gWp (gTab (tb_R_readSum S)) Q X 67 [some (.ref (x + 0)), none] [] (gset H x mck P I A) :=
  x_vret hm (show gTab (tb_R_readSum S) 67 = gi_vret from rfl) h
set_option maxRecDepth 20000 in
theorem me_R_readSum {d : Nat} {Q : gQ} {X : gX} {H : gH} {x : Nat} (h : gWp (gTab (tb_R_readSum (meth d))) Q X 0 [some (.ref (x + 0)), none] [] H) : meth (d + 1) 170 [.ref (x + 0)] H Q X := (show _ ∧ _ from ⟨Nat.le_of_ble_eq_true rfl, h⟩)
set_option maxRecDepth 20000 in
theorem wb_R_readProduct_0 {S : Nat → gS} (hm : ∀ k, gMono (gTab (tb_R_readProduct S) k)) {Q : gQ} {X : gX} {H : gH} {x : Nat} {P : Nat → Nat} {I A : Nat → Nat → Int32}
    (h : S 175 [.ref (x + 0)] (gset H x mck P I A) (fun r H' => gWp (gTab (tb_R_readProduct S)) Q X 4 [some (.ref (x + 0)), none] (r.toList ++ []) H') X) :
    gWp (gTab (tb_R_readProduct S)) Q X 0 [some (.ref (x + 0)), none] [] (gset H x mck P I A) :=
  x_aload hm (show gTab (tb_R_readProduct S) 0 = gi_aload 1 0 from rfl) rfl (x_callv hm (show gTab (tb_R_readProduct S) 1 = gi_callv (S 175) 10 4 1 from rfl) (o := 0) (as := []) (rest := []) rfl rfl (Nat.le_of_ble_eq_true rfl) (Nat.le_of_ble_eq_true rfl) rfl h)
set_option maxRecDepth 20000 in
theorem wb_R_readProduct_4 {S : Nat → gS} (hm : ∀ k, gMono (gTab (tb_R_readProduct S) k)) {Q : gQ} {X : gX} {H : gH} {x : Nat} {P : Nat → Nat} {I A : Nat → Nat → Int32}
    (h : S 146 [.ref (x + 0)] (gset H x mck P I A) (fun r H' => gWp (gTab (tb_R_readProduct S)) Q X 8 [some (.ref (x + 0)), none] (r.toList ++ []) H') X) :
    gWp (gTab (tb_R_readProduct S)) Q X 4 [some (.ref (x + 0)), none] [] (gset H x mck P I A) :=
  x_aload hm (show gTab (tb_R_readProduct S) 4 = gi_aload 5 0 from rfl) rfl (x_callv hm (show gTab (tb_R_readProduct S) 5 = gi_callv (S 146) 10 8 1 from rfl) (o := 0) (as := []) (rest := []) rfl rfl (Nat.le_of_ble_eq_true rfl) (Nat.le_of_ble_eq_true rfl) rfl h)
set_option maxRecDepth 20000 in
theorem wb_R_readProduct_8 {S : Nat → gS} (hm : ∀ k, gMono (gTab (tb_R_readProduct S) k)) {Q : gQ} {X : gX} {H : gH} {x : Nat} {P : Nat → Nat} {I A : Nat → Nat → Int32} {s0 : Int32}
    (h : ((s0 = 0 → gWp (gTab (tb_R_readProduct S)) Q X 90 [some (.ref (x + 0)), none] [] (gset H x mck P I A)) ∧ (¬ (s0 = 0) → S 148 [.ref (x + 0)] (gset H x mck P I A) (fun r H' => gWp (gTab (tb_R_readProduct S)) Q X 15 [some (.ref (x + 0)), none] (r.toList ++ []) H') X))) :
    gWp (gTab (tb_R_readProduct S)) Q X 8 [some (.ref (x + 0)), none] [.int s0] (gset H x mck P I A) :=
  x_if hm (show gTab (tb_R_readProduct S) 8 = gi_if 11 90 (fun x => x = 0) from rfl) (fun c0 => (h.1 c0)) (fun c0 => x_aload hm (show gTab (tb_R_readProduct S) 11 = gi_aload 12 0 from rfl) rfl (x_callv hm (show gTab (tb_R_readProduct S) 12 = gi_callv (S 148) 10 15 1 from rfl) (o := 0) (as := []) (rest := []) rfl rfl (Nat.le_of_ble_eq_true rfl) (Nat.le_of_ble_eq_true rfl) rfl (h.2 c0)))
set_option maxRecDepth 20000 in
theorem wb_R_readProduct_15 {S : Nat → gS} (hm : ∀ k, gMono (gTab (tb_R_readProduct S) k)) {Q : gQ} {X : gX} {H : gH} {x : Nat} {P : Nat → Nat} {I A : Nat → Nat → Int32} {s0 : Int32}
    (h : ((s0 = 42 → gWp (gTab (tb_R_readProduct S)) Q X 38 [some (.ref (x + 0)), none] [] (gset H x mck P I A)) ∧ (¬ (s0 = 42) → S 148 [.ref (x + 0)] (gset H x mck P I A) (fun r H' => gWp (gTab (tb_R_readProduct S)) Q X 24 [some (.ref (x + 0)), none] (r.toList ++ []) H') X))) :
    gWp (gTab (tb_R_readProduct S)) Q X 15 [some (.ref (x + 0)), none] [.int s0] (gset H x mck P I A) :=
  x_st hm (show gTab (tb_R_readProduct S) 15 = gi_st 17 (gf_push (.int 42)) from rfl) rfl (x_icmp hm (show gTab (tb_R_readProduct S) 17 = gi_icmp 20 38 (fun x y => x = y) from rfl) (fun c0 => (h.1 c0)) (fun c0 => x_aload hm (show gTab (tb_R_readProduct S) 20 = gi_aload 21 0 from rfl) rfl (x_callv hm (show gTab (tb_R_readProduct S) 21 = gi_callv (S 148) 10 24 1 from rfl) (o := 0) (as := []) (rest := []) rfl rfl (Nat.le_of_ble_eq_true rfl) (Nat.le_of_ble_eq_true rfl) rfl (h.2 c0))))
set_option maxRecDepth 20000 in
theorem wb_R_readProduct_24 {S : Nat → gS} (hm : ∀ k, gMono (gTab (tb_R_readProduct S) k)) {Q : gQ} {X : gX} {H : gH} {x : Nat} {P : Nat → Nat} {I A : Nat → Nat → Int32} {s0 : Int32}
    (h : ((s0 = 47 → gWp (gTab (tb_R_readProduct S)) Q X 38 [some (.ref (x + 0)), none] [] (gset H x mck P I A)) ∧ (¬ (s0 = 47) → S 148 [.ref (x + 0)] (gset H x mck P I A) (fun r H' => gWp (gTab (tb_R_readProduct S)) Q X 33 [some (.ref (x + 0)), none] (r.toList ++ []) H') X))) :
    gWp (gTab (tb_R_readProduct S)) Q X 24 [some (.ref (x + 0)), none] [.int s0] (gset H x mck P I A) :=
  x_st hm (show gTab (tb_R_readProduct S) 24 = gi_st 26 (gf_push (.int 47)) from rfl) rfl (x_icmp hm (show gTab (tb_R_readProduct S) 26 = gi_icmp 29 38 (fun x y => x = y) from rfl) (fun c0 => (h.1 c0)) (fun c0 => x_aload hm (show gTab (tb_R_readProduct S) 29 = gi_aload 30 0 from rfl) rfl (x_callv hm (show gTab (tb_R_readProduct S) 30 = gi_callv (S 148) 10 33 1 from rfl) (o := 0) (as := []) (rest := []) rfl rfl (Nat.le_of_ble_eq_true rfl) (Nat.le_of_ble_eq_true rfl) rfl (h.2 c0))))
set_option maxRecDepth 20000 in
theorem wb_R_readProduct_33 {S : Nat → gS} (hm : ∀ k, gMono (gTab (tb_R_readProduct S) k)) {Q : gQ} {X : gX} {H : gH} {x : Nat} {P : Nat → Nat} {I A : Nat → Nat → Int32} {s0 : Int32}
    (h : ((¬ s0 = 37 → gWp (gTab (tb_R_readProduct S)) Q X 90 [some (.ref (x + 0)), none] [] (gset H x mck P I A)) ∧ (¬ (¬ s0 = 37) → gWp (gTab (tb_R_readProduct S)) Q X 38 [some (.ref (x + 0)), none] [] (gset H x mck P I A)))) :
    gWp (gTab (tb_R_readProduct S)) Q X 33 [some (.ref (x + 0)), none] [.int s0] (gset H x mck P I A) :=
  x_st hm (show gTab (tb_R_readProduct S) 33 = gi_st 35 (gf_push (.int 37)) from rfl) rfl (x_icmp hm (show gTab (tb_R_readProduct S) 35 = gi_icmp 38 90 (fun x y => ¬ x = y) from rfl) (fun c0 => (h.1 c0)) (fun c0 => (h.2 c0)))
set_option maxRecDepth 20000 in
theorem wb_R_readProduct_38 {S : Nat → gS} (hm : ∀ k, gMono (gTab (tb_R_readProduct S) k)) {Q : gQ} {X : gX} {H : gH} {x : Nat} {P : Nat → Nat} {I A : Nat → Nat → Int32}
    (h : S 148 [.ref (x + 0)] (gset H x mck P I A) (fun r H' => gWp (gTab (tb_R_readProduct S)) Q X 42 [some (.ref (x + 0)), none] (r.toList ++ []) H') X) :
    gWp (gTab (tb_R_readProduct S)) Q X 38 [some (.ref (x + 0)), none] [] (gset H x mck P I A) :=
  x_aload hm (show gTab (tb_R_readProduct S) 38 = gi_aload 39 0 from rfl) rfl (x_callv hm (show gTab (tb_R_readProduct S) 39 = gi_callv (S 148) 10 42 1 from rfl) (o := 0) (as := []) (rest := []) rfl rfl (Nat.le_of_ble_eq_true rfl) (Nat.le_of_ble_eq_true rfl) rfl h)
set_option maxRecDepth 20000 in
theorem wb_R_readProduct_42 {S : Nat → gS} (hm : ∀ k, gMono (gTab (tb_R_readProduct S) k)) {Q : gQ} {X : gX} {H : gH} {x : Nat} {P : Nat → Nat} {I A : Nat → Nat → Int32} {s0 : Int32}
    (h : ((¬ s0 = 42 → S 148 [.ref (x + 0)] (gset H x mck P I A) (fun r H' => gWp (gTab (tb_R_readProduct S)) Q X 55 [some (.ref (x + 0)), none] (r.toList ++ []) H') X) ∧ (¬ (¬ s0 = 42) → gWp (gTab (tb_R_readProduct S)) Q X 66 [some (.ref (x + 0)), none] [.int 4] (gset H x mck P I A)))) :
    gWp (gTab (tb_R_readProduct S)) Q X 42 [some (.ref (x + 0)), none] [.int s0] (gset H x mck P I A) :=
  x_st hm (show gTab (tb_R_readProduct S) 42 = gi_st 44 (gf_push (.int 42)) from rfl) rfl (x_icmp hm (show gTab (tb_R_readProduct S) 44 = gi_icmp 47 51 (fun x y => ¬ x = y) from rfl) (fun c0 => x_aload hm (show gTab (tb_R_readProduct S) 51 = gi_aload 52 0 from rfl) rfl (x_callv hm (show gTab (tb_R_readProduct S) 52 = gi_callv (S 148) 10 55 1 from rfl) (o := 0) (as := []) (rest := []) rfl rfl (Nat.le_of_ble_eq_true rfl) (Nat.le_of_ble_eq_true rfl) rfl (h.1 c0))) (fun c0 => x_st hm (show gTab (tb_R_readProduct S) 47 = gi_st 48 (gf_push (.int 4)) from rfl) rfl (x_goto hm (show gTab (tb_R_readProduct S) 48 = gi_goto 66 from rfl) ((h.2 c0)))))
set_option maxRecDepth 20000 in
theorem wb_R_readProduct_55 {S : Nat → gS} (hm : ∀ k, gMono (gTab (tb_R_readProduct S) k)) {Q : gQ} {X : gX} {H : gH} {x : Nat} {P : Nat → Nat} {I A : Nat → Nat → Int32} {s0 : Int32}
    (h : ((¬ s0 = 47 → gWp (gTab (tb_R_readProduct S)) Q X 66 [some (.ref (x + 0)), none] [.int 8] (gset H x mck P I A)) ∧ (¬ (¬ s0 = 47) → gWp (gTab (tb_R_readProduct S)) Q X 66 [some (.ref (x + 0)), none] [.int 5] (gset H x mck P I A)))) :
    gWp (gTab (tb_R_readProduct S)) Q X 55 [some (.ref (x + 0)), none] [.int s0] (gset H x mck P I A) :=
  x_st hm (show gTab (tb_R_readProduct S) 55 = gi_st 57 (gf_push (.int 47)) from rfl) rfl (x_icmp hm (show gTab (tb_R_readProduct S) 57 = gi_icmp 60 64 (fun x y => ¬ x = y) from rfl) (fun c0 => x_st hm (show gTab (tb_R_readProduct S) 64 = gi_st 66 (gf_push (.int 8)) from rfl) rfl ((h.1 c0))) (fun c0 => x_st hm (show gTab (tb_R_readProduct S) 60 = gi_st 61 (gf_push (.int 5)) from rfl) rfl (x_goto hm (show gTab (tb_R_readProduct S) 61 = gi_goto 66 from rfl) ((h.2 c0)))))
set_option maxRecDepth 20000 in
theorem wb_R_readProduct_66 {S : Nat → gS} (hm : ∀ k, gMono (gTab (tb_R_readProduct S) k)) {Q : gQ} {X : gX} {H : gH} {x : Nat} {P : Nat → Nat} {I A : Nat → Nat → Int32} {s0 : Int32}
    (h : S 175 [.ref (x + 0)] (gset H x mck P (upI I 0 4 ((I 0 4) + 1)) A) (fun r H' => gWp (gTab (tb_R_readProduct S)) Q X 81 [some (.ref (x + 0)), some (.int s0)] (r.toList ++ []) H') X) :
    gWp (gTab (tb_R_readProduct S)) Q X 66 [some (.ref (x + 0)), none] [.int s0] (gset H x mck P I A) :=
  x_istore hm (show gTab (tb_R_readProduct S) 66 = gi_istore 67 1 from rfl) rfl (x_aload hm (show gTab (tb_R_readProduct S) 67 = gi_aload 68 0 from rfl) rfl (x_st hm (show gTab (tb_R_readProduct S) 68 = gi_st 69 gf_dup from rfl) rfl (x_get hm (show gTab (tb_R_readProduct S) 69 = gi_get 72 10 4 from rfl) (o := 0) rfl rfl (x_st hm (show gTab (tb_R_readProduct S) 72 = gi_st 73 (gf_push (.int 1)) from rfl) rfl (x_st hm (show gTab (tb_R_readProduct S) 73 = gi_st 74 (gf_i2 (fun x y => x + y)) from rfl) rfl (x_puti hm (show gTab (tb_R_readProduct S) 74 = gi_puti 77 10 4 from rfl) (o := 0) rfl rfl cp_10_4 (x_aload hm (show gTab (tb_R_readProduct S) 77 = gi_aload 78 0 from rfl) rfl (x_callv hm (show gTab (tb_R_readProduct S) 78 = gi_callv (S 175) 10 81 1 from rfl) (o := 0) (as := []) (rest := []) rfl rfl (Nat.le_of_ble_eq_true rfl) (Nat.le_of_ble_eq_true rfl) rfl h))))))))
set_option maxRecDepth 20000 in
theorem wb_R_readProduct_81 {S : Nat → gS} (hm : ∀ k, gMono (gTab (tb_R_readProduct S) k)) {Q : gQ} {X : gX} {H : gH} {x : Nat} {P : Nat → Nat} {I A : Nat → Nat → Int32} {v1 : Int32}
    (h : S 168 [.ref (x + 0), .int v1, .int 0] (gset H x mck P I A) (fun r H' => gWp (gTab (tb_R_readProduct S)) Q X 87 [some (.ref (x + 0)), some (.int v1)] (r.toList ++ []) H') X) :
    gWp (gTab (tb_R_readProduct S)) Q X 81 [some (.ref (x + 0)), some (.int v1)] [] (gset H x mck P I A) :=
  x_aload hm (show gTab (tb_R_readProduct S) 81 = gi_aload 82 0 from rfl) rfl (x_iload hm (show gTab (tb_R_readProduct S) 82 = gi_iload 83 1 from rfl) rfl (x_st hm (show gTab (tb_R_readProduct S) 83 = gi_st 84 (gf_push (.int 0)) from rfl) rfl (x_callv hm (show gTab (tb_R_readProduct S) 84 = gi_callv (S 168) 10 87 3 from rfl) (o := 0) (as := [.int v1, .int 0]) (rest := []) rfl rfl (Nat.le_of_ble_eq_true rfl) (Nat.le_of_ble_eq_true rfl) rfl h)))
set_option maxRecDepth 20000 in
theorem wb_R_readProduct_87 {S : Nat → gS} (hm : ∀ k, gMono (gTab (tb_R_readProduct S) k)) {Q : gQ} {X : gX} {H : gH} {x : Nat} {P : Nat → Nat} {I A : Nat → Nat → Int32} {v1 : Int32}
    (h : gWp (gTab (tb_R_readProduct S)) Q X 4 [some (.ref (x + 0)), none] [] (gset H x mck P I A)) :
    gWp (gTab (tb_R_readProduct S)) Q X 87 [some (.ref (x + 0)), some (.int v1)] [] (gset H x mck P I A) :=
  x_goto hm (show gTab (tb_R_readProduct S) 87 = gi_goto 4 from rfl) (x_weak (gLe_c (gLe_d gLe_n)) h)
set_option maxRecDepth 20000 in
theorem wb_R_readProduct_90 {S : Nat → gS} (hm : ∀ k, gMono (gTab (tb_R_readProduct S) k)) {Q : gQ} {X : gX} {H : gH} {x : Nat} {P : Nat → Nat} {I A : Nat → Nat → Int32}
    (h : Q none (gset H x mck P I A)) :
    gWp (gTab (tb_R_readProduct S)) Q X 90 [some (.ref (x + 0)), none] [] (gset H x mck P I A) :=
  x_vret hm (show gTab (tb_R_readProduct S) 90 = gi_vret from rfl) h
set_option maxRecDepth 20000 in
theorem me_R_readProduct {d : Nat} {Q : gQ} {X : gX} {H : gH} {x : Nat} (h : gWp (gTab (tb_R_readProduct (meth d))) Q X 0 [some (.ref (x + 0)), none] [] H) : meth (d + 1) 171 [.ref (x + 0)] H Q X := (show _ ∧ _ from ⟨Nat.le_of_ble_eq_true rfl, h⟩)
set_option maxRecDepth 20000 in
theorem wb_R_readTwo_0 {S : Nat → gS} (hm : ∀ k, gMono (gTab (tb_R_readTwo S) k)) {Q : gQ} {X : gX} {H : gH} {x : Nat} {P : Nat → Nat} {I A : Nat → Nat → Int32} {v1 : Int32} {v2 : Int32}
    (h : S 169 [.ref (x + 0), .int v1] (gset H x mck P I A) (fun r H' => gWp (gTab (tb_R_readTwo S)) Q X 5 [some (.ref (x + 0)), some (.int v1), some (.int v2)] (r.toList ++ []) H') X) :
    gWp (gTab (tb_R_readTwo S)) Q X 0 [some (.ref (x + 0)), some (.int v1), some (.int v2)] [] (gset H x mck P I A) :=
  x_aload hm (show gTab (tb_R_readTwo S) 0 = gi_aload 1 0 from rfl) rfl (x_iload hm (show gTab (tb_R_readTwo S) 1 = gi_iload 2 1 from rfl) rfl (x_callv hm (show gTab (tb_R_readTwo S) 2 = gi_callv (S 169) 10 5 2 from rfl) (o := 0) (as := [.int v1]) (rest := []) rfl rfl (Nat.le_of_ble_eq_true rfl) (Nat.le_of_ble_eq_true rfl) rfl h))
set_option maxRecDepth 20000 in
theorem wb_R_readTwo_5 {S : Nat → gS} (hm : ∀ k, gMono (gTab (tb_R_readTwo S) k)) {Q : gQ} {X : gX} {H : gH} {x : Nat} {P : Nat → Nat} {I A : Nat → Nat → Int32} {v1 : Int32} {v2 : Int32}
    (h : S 155 [.ref (x + 0), .int 91] (gset H x mck P I A) (fun r H' => gWp (gTab (tb_R_readTwo S)) Q X 11 [some (.ref (x + 0)), some (.int v1), some (.int v2)] (r.toList ++ []) H') X) :
    gWp (gTab (tb_R_readTwo S)) Q X 5 [some (.ref (x + 0)), some (.int v1), some (.int v2)] [] (gset H x mck P I A) :=
  x_aload hm (show gTab (tb_R_readTwo S) 5 = gi_aload 6 0 from rfl) rfl (x_st hm (show gTab (tb_R_readTwo S) 6 = gi_st 8 (gf_push (.int 91)) from rfl) rfl (x_callv hm (show gTab (tb_R_readTwo S) 8 = gi_callv (S 155) 10 11 2 from rfl) (o := 0) (as := [.int 91]) (rest := []) rfl rfl (Nat.le_of_ble_eq_true rfl) (Nat.le_of_ble_eq_true rfl) rfl h))
set_option maxRecDepth 20000 in
theorem wb_R_readTwo_11 {S : Nat → gS} (hm : ∀ k, gMono (gTab (tb_R_readTwo S) k)) {Q : gQ} {X : gX} {H : gH} {x : Nat} {P : Nat → Nat} {I A : Nat → Nat → Int32} {v1 : Int32} {v2 : Int32}
    (h : S 170 [.ref (x + 0)] (gset H x mck P I A) (fun r H' => gWp (gTab (tb_R_readTwo S)) Q X 15 [some (.ref (x + 0)), some (.int v1), some (.int v2)] (r.toList ++ []) H') X) :
    gWp (gTab (tb_R_readTwo S)) Q X 11 [some (.ref (x + 0)), some (.int v1), some (.int v2)] [] (gset H x mck P I A) :=
  x_aload hm (show gTab (tb_R_readTwo S) 11 = gi_aload 12 0 from rfl) rfl (x_callv hm (show gTab (tb_R_readTwo S) 12 = gi_callv (S 170) 10 15 1 from rfl) (o := 0) (as := []) (rest := []) rfl rfl (Nat.le_of_ble_eq_true rfl) (Nat.le_of_ble_eq_true rfl) rfl h)
set_option maxRecDepth 20000 in
theorem wb_R_readTwo_15 {S : Nat → gS} (hm : ∀ k, gMono (gTab (tb_R_readTwo S) k)) {Q : gQ} {X : gX} {H : gH} {x : Nat} {P : Nat → Nat} {I A : Nat → Nat → Int32} {v1 : Int32} {v2 : Int32}
    (h : S 155 [.ref (x + 0), .int 44] (gset H x mck P I A) (fun r H' => gWp (gTab (tb_R_readTwo S)) Q X 21 [some (.ref (x + 0)), some (.int v1), some (.int v2)] (r.toList ++ []) H') X) :
    gWp (gTab (tb_R_readTwo S)) Q X 15 [some (.ref (x + 0)), some (.int v1), some (.int v2)] [] (gset H x mck P I A) :=
  x_aload hm (show gTab (tb_R_readTwo S) 15 = gi_aload 16 0 from rfl) rfl (x_st hm (show gTab (tb_R_readTwo S) 16 = gi_st 18 (gf_push (.int 44)) from rfl) rfl (x_callv hm (show gTab (tb_R_readTwo S) 18 = gi_callv (S 155) 10 21 2 from rfl) (o := 0) (as := [.int 44]) (rest := []) rfl rfl (Nat.le_of_ble_eq_true rfl) (Nat.le_of_ble_eq_true rfl) rfl h))
set_option maxRecDepth 20000 in
theorem wb_R_readTwo_21 {S : Nat → gS} (hm : ∀ k, gMono (gTab (tb_R_readTwo S) k)) {Q : gQ} {X : gX} {H : gH} {x : Nat} {P : Nat → Nat} {I A : Nat → Nat → Int32} {v1 : Int32} {v2 : Int32}
    (h : S 170 [.ref (x + 0)] (gset H x mck P I A) (fun r H' => gWp (gTab (tb_R_readTwo S)) Q X 25 [some (.ref (x + 0)), some (.int v1), some (.int v2)] (r.toList ++ []) H') X) :
    gWp (gTab (tb_R_readTwo S)) Q X 21 [some (.ref (x + 0)), some (.int v1), some (.int v2)] [] (gset H x mck P I A) :=
  x_aload hm (show gTab (tb_R_readTwo S) 21 = gi_aload 22 0 from rfl) rfl (x_callv hm (show gTab (tb_R_readTwo S) 22 = gi_callv (S 170) 10 25 1 from rfl) (o := 0) (as := []) (rest := []) rfl rfl (Nat.le_of_ble_eq_true rfl) (Nat.le_of_ble_eq_true rfl) rfl h)
set_option maxRecDepth 20000 in
theorem wb_R_readTwo_25 {S : Nat → gS} (hm : ∀ k, gMono (gTab (tb_R_readTwo S) k)) {Q : gQ} {X : gX} {H : gH} {x : Nat} {P : Nat → Nat} {I A : Nat → Nat → Int32} {v1 : Int32} {v2 : Int32}
    (h : S 155 [.ref (x + 0), .int 93] (gset H x mck P I A) (fun r H' => gWp (gTab (tb_R_readTwo S)) Q X 31 [some (.ref (x + 0)), some (.int v1), some (.int v2)] (r.toList ++ []) H') X) :
    gWp (gTab (tb_R_readTwo S)) Q X 25 [some (.ref (x + 0)), some (.int v1), some (.int v2)] [] (gset H x mck P I A) :=
  x_aload hm (show gTab (tb_R_readTwo S) 25 = gi_aload 26 0 from rfl) rfl (x_st hm (show gTab (tb_R_readTwo S) 26 = gi_st 28 (gf_push (.int 93)) from rfl) rfl (x_callv hm (show gTab (tb_R_readTwo S) 28 = gi_callv (S 155) 10 31 2 from rfl) (o := 0) (as := [.int 93]) (rest := []) rfl rfl (Nat.le_of_ble_eq_true rfl) (Nat.le_of_ble_eq_true rfl) rfl h))
set_option maxRecDepth 20000 in
theorem wb_R_readTwo_31 {S : Nat → gS} (hm : ∀ k, gMono (gTab (tb_R_readTwo S) k)) {Q : gQ} {X : gX} {H : gH} {x : Nat} {P : Nat → Nat} {I A : Nat → Nat → Int32} {v1 : Int32} {v2 : Int32}
    (h : S 168 [.ref (x + 0), .int v2, .int 0] (gset H x mck P (upI I 0 7 ((I 0 7) - 1)) A) (fun r H' => gWp (gTab (tb_R_readTwo S)) Q X 47 [some (.ref (x + 0)), some (.int v1), some (.int v2)] (r.toList ++ []) H') X) :
    gWp (gTab (tb_R_readTwo S)) Q X 31 [some (.ref (x + 0)), some (.int v1), some (.int v2)] [] (gset H x mck P I A) :=
  x_aload hm (show gTab (tb_R_readTwo S) 31 = gi_aload 32 0 from rfl) rfl (x_st hm (show gTab (tb_R_readTwo S) 32 = gi_st 33 gf_dup from rfl) rfl (x_get hm (show gTab (tb_R_readTwo S) 33 = gi_get 36 10 7 from rfl) (o := 0) rfl rfl (x_st hm (show gTab (tb_R_readTwo S) 36 = gi_st 37 (gf_push (.int 1)) from rfl) rfl (x_st hm (show gTab (tb_R_readTwo S) 37 = gi_st 38 (gf_i2 (fun x y => x - y)) from rfl) rfl (x_puti hm (show gTab (tb_R_readTwo S) 38 = gi_puti 41 10 7 from rfl) (o := 0) rfl rfl cp_10_7 (x_aload hm (show gTab (tb_R_readTwo S) 41 = gi_aload 42 0 from rfl) rfl (x_iload hm (show gTab (tb_R_readTwo S) 42 = gi_iload 43 2 from rfl) rfl (x_st hm (show gTab (tb_R_readTwo S) 43 = gi_st 44 (gf_push (.int 0)) from rfl) rfl (x_callv hm (show gTab (tb_R_readTwo S) 44 = gi_callv (S 168) 10 47 3 from rfl) (o := 0) (as := [.int v2, .int 0]) (rest := []) rfl rfl (Nat.le_of_ble_eq_true rfl) (Nat.le_of_ble_eq_true rfl) rfl h)))))))))
set_option maxRecDepth 20000 in
theorem wb_R_readTwo_47 {S : Nat → gS} (hm : ∀ k, gMono (gTab (tb_R_readTwo S) k)) {Q : gQ} {X : gX} {H : gH} {x : Nat} {P : Nat → Nat} {I A : Nat → Nat → Int32} {v1 : Int32} {v2 : Int32}
    (h : Q none (gset H x mck P I A)) :
    gWp (gTab (tb_R_readTwo S)) Q X 47 [some (.ref (x + 0)), some (.int v1), some (.int v2)] [] (gset H x mck P I A) :=
  x_vret hm (show gTab (tb_R_readTwo S) 47 = gi_vret from rfl) h
set_option maxRecDepth 20000 in
theorem me_R_readTwo {d : Nat} {Q : gQ} {X : gX} {H : gH} {x : Nat} {v1 : Int32} {v2 : Int32} (h : gWp (gTab (tb_R_readTwo (meth d))) Q X 0 [some (.ref (x + 0)), some (.int v1), some (.int v2)] [] H) : meth (d + 1) 172 [.ref (x + 0), .int v1, .int v2] H Q X := (show _ ∧ _ from ⟨Nat.le_of_ble_eq_true rfl, h⟩)
set_option maxRecDepth 20000 in
theorem wb_R_standsHere_0 {S : Nat → gS} (hm : ∀ k, gMono (gTab (tb_R_standsHere S) k)) {Q : gQ} {X : gX} {H : gH} {x : Nat} {P : Nat → Nat} {I A : Nat → Nat → Int32} {h1 : Nat}
    (h : S 148 [.ref (x + 0)] (gset H x mck P I A) (fun r H' => gWp (gTab (tb_R_standsHere S)) Q X 4 [some (.ref (x + 0)), some (.ref h1), none] (r.toList ++ []) H') X) :
    gWp (gTab (tb_R_standsHere S)) Q X 0 [some (.ref (x + 0)), some (.ref h1), none] [] (gset H x mck P I A) :=
  x_aload hm (show gTab (tb_R_standsHere S) 0 = gi_aload 1 0 from rfl) rfl (x_callv hm (show gTab (tb_R_standsHere S) 1 = gi_callv (S 148) 10 4 1 from rfl) (o := 0) (as := []) (rest := []) rfl rfl (Nat.le_of_ble_eq_true rfl) (Nat.le_of_ble_eq_true rfl) rfl h)
set_option maxRecDepth 20000 in
theorem wb_R_standsHere_4 {S : Nat → gS} (hm : ∀ k, gMono (gTab (tb_R_standsHere S) k)) {Q : gQ} {X : gX} {H : gH} {x : Nat} {P : Nat → Nat} {I A : Nat → Nat → Int32} {h1 : Nat} {s0 : Int32}
    (h : gWp (gTab (tb_R_standsHere S)) Q X 7 [some (.ref (x + 0)), some (.ref h1), some (.int 0)] [] (gset H x mck P I A)) :
    gWp (gTab (tb_R_standsHere S)) Q X 4 [some (.ref (x + 0)), some (.ref h1), none] [.int s0] (gset H x mck P I A) :=
  x_st hm (show gTab (tb_R_standsHere S) 4 = gi_st 5 gf_pop from rfl) rfl (x_st hm (show gTab (tb_R_standsHere S) 5 = gi_st 6 (gf_push (.int 0)) from rfl) rfl (x_istore hm (show gTab (tb_R_standsHere S) 6 = gi_istore 7 2 from rfl) rfl (h)))
set_option maxRecDepth 20000 in
theorem wb_R_standsHere_7 {S : Nat → gS} (hm : ∀ k, gMono (gTab (tb_R_standsHere S) k)) {Q : gQ} {X : gX} {H : gH} {x : Nat} {P : Nat → Nat} {I A : Nat → Nat → Int32} {h1 : Nat} {v2 : Int32} (hs1 : 1000000 ≤ h1 ∧ h1 < 1000000 + gNT)
    (h : S 251 [.ref h1] (gset H x mck P I A) (fun r H' => gWp (gTab (tb_R_standsHere S)) Q X 12 [some (.ref (x + 0)), some (.ref h1), some (.int v2)] (r.toList ++ [.int v2]) H') X) :
    gWp (gTab (tb_R_standsHere S)) Q X 7 [some (.ref (x + 0)), some (.ref h1), some (.int v2)] [] (gset H x mck P I A) :=
  x_iload hm (show gTab (tb_R_standsHere S) 7 = gi_iload 8 2 from rfl) rfl (x_aload hm (show gTab (tb_R_standsHere S) 8 = gi_aload 9 1 from rfl) rfl (x_callx hm (show gTab (tb_R_standsHere S) 9 = gi_callx (S 251) 12 1 from rfl) (as := [.ref h1]) (rest := [.int v2]) rfl rfl (Nat.le_of_ble_eq_true rfl) (Nat.le_of_ble_eq_true rfl) hs1 h))
set_option maxRecDepth 20000 in
theorem wb_R_standsHere_12 {S : Nat → gS} (hm : ∀ k, gMono (gTab (tb_R_standsHere S) k)) {Q : gQ} {X : gX} {H : gH} {x : Nat} {P : Nat → Nat} {I A : Nat → Nat → Int32} {h1 : Nat} {s0 : Int32} {s1 : Int32} {v2 : Int32} (hs1 : 1000000 ≤ h1 ∧ h1 < 1000000 + gNT)
    (h : ((s1 ≤ s0 → S 251 [.ref h1] (gset H x mck P I A) (fun r H' => gWp (gTab (tb_R_standsHere S)) Q X 63 [some (.ref (x + 0)), some (.ref h1), some (.int v2)] (r.toList ++ [.int (I 0 4)]) H') X) ∧ (¬ (s1 ≤ s0) → (((I 0 3) ≤ ((I 0 4) + v2) → gWp (gTab (tb_R_standsHere S)) Q X 47 [some (.ref (x + 0)), some (.ref h1), some (.int v2)] [] (gset H x mck P I A)) ∧ (¬ ((I 0 3) ≤ ((I 0 4) + v2)) → (vp_in ((I 0 4) + v2) 600 ∧ S 252 [.ref h1, .int v2] (gset H x mck P I A) (fun r H' => gWp (gTab (tb_R_standsHere S)) Q X 44 [some (.ref (x + 0)), some (.ref h1), some (.int v2)] (r.toList ++ [.int (A 2 ((I 0 4) + v2).toNatClampNeg)]) H') X)))))) :
    gWp (gTab (tb_R_standsHere S)) Q X 12 [some (.ref (x + 0)), some (.ref h1), some (.int v2)] [.int s1, .int s0] (gset H x mck P I A) :=
  x_icmp hm (show gTab (tb_R_standsHere S) 12 = gi_icmp 15 55 (fun x y => y ≤ x) from rfl) (fun c0 => x_aload hm (show gTab (tb_R_standsHere S) 55 = gi_aload 56 0 from rfl) rfl (x_get hm (show gTab (tb_R_standsHere S) 56 = gi_get 59 10 4 from rfl) (o := 0) rfl rfl (x_aload hm (show gTab (tb_R_standsHere S) 59 = gi_aload 60 1 from rfl) rfl (x_callx hm (show gTab (tb_R_standsHere S) 60 = gi_callx (S 251) 63 1 from rfl) (as := [.ref h1]) (rest := [.int (I 0 4)]) rfl rfl (Nat.le_of_ble_eq_true rfl) (Nat.le_of_ble_eq_true rfl) hs1 (h.1 c0))))) (fun c0 => x_aload hm (show gTab (tb_R_standsHere S) 15 = gi_aload 16 0 from rfl) rfl (x_get hm (show gTab (tb_R_standsHere S) 16 = gi_get 19 10 4 from rfl) (o := 0) rfl rfl (x_iload hm (show gTab (tb_R_standsHere S) 19 = gi_iload 20 2 from rfl) rfl (x_st hm (show gTab (tb_R_standsHere S) 20 = gi_st 21 (gf_i2 (fun x y => x + y)) from rfl) rfl (x_aload hm (show gTab (tb_R_standsHere S) 21 = gi_aload 22 0 from rfl) rfl (x_get hm (show gTab (tb_R_standsHere S) 22 = gi_get 25 10 3 from rfl) (o := 0) rfl rfl (x_icmp hm (show gTab (tb_R_standsHere S) 25 = gi_icmp 28 47 (fun x y => y ≤ x) from rfl) (fun c1 => ((h.2 c0).1 c1)) (fun c1 => x_aload hm (show gTab (tb_R_standsHere S) 28 = gi_aload 29 0 from rfl) rfl (x_get hm (show gTab (tb_R_standsHere S) 29 = gi_get 32 10 9 from rfl) (o := 0) rfl rfl (x_aload hm (show gTab (tb_R_standsHere S) 32 = gi_aload 33 0 from rfl) rfl (x_get hm (show gTab (tb_R_standsHere S) 33 = gi_get 36 10 4 from rfl) (o := 0) rfl rfl (x_iload hm (show gTab (tb_R_standsHere S) 36 = gi_iload 37 2 from rfl) rfl (x_st hm (show gTab (tb_R_standsHere S) 37 = gi_st 38 (gf_i2 (fun x y => x + y)) from rfl) rfl (x_iald hm (show gTab (tb_R_standsHere S) 38 = gi_iald 39 from rfl) (o := 2) rfl ((h.2 c0).2 c1).1 (x_aload hm (show gTab (tb_R_standsHere S) 39 = gi_aload 40 1 from rfl) rfl (x_iload hm (show gTab (tb_R_standsHere S) 40 = gi_iload 41 2 from rfl) rfl (x_callx hm (show gTab (tb_R_standsHere S) 41 = gi_callx (S 252) 44 2 from rfl) (as := [.ref h1, .int v2]) (rest := [.int (A 2 ((I 0 4) + v2).toNatClampNeg)]) rfl rfl (Nat.le_of_ble_eq_true rfl) (Nat.le_of_ble_eq_true rfl) hs1 ((h.2 c0).2 c1).2)))))))))))))))))
set_option maxRecDepth 20000 in
theorem wb_R_standsHere_44 {S : Nat → gS} (hm : ∀ k, gMono (gTab (tb_R_standsHere S) k)) {Q : gQ} {X : gX} {H : gH} {x : Nat} {P : Nat → Nat} {I A : Nat → Nat → Int32} {h1 : Nat} {s0 : Int32} {s1 : Int32} {v2 : Int32}
    (h : ((s0 = s1 → gWp (gTab (tb_R_standsHere S)) Q X 7 [some (.ref (x + 0)), some (.ref h1), some (.int (v2 + 1))] [] (gset H x mck P I A)) ∧ (¬ (s0 = s1) → gWp (gTab (tb_R_standsHere S)) Q X 47 [some (.ref (x + 0)), some (.ref h1), some (.int v2)] [] (gset H x mck P I A)))) :
    gWp (gTab (tb_R_standsHere S)) Q X 44 [some (.ref (x + 0)), some (.ref h1), some (.int v2)] [.int s1, .int s0] (gset H x mck P I A) :=
  x_icmp hm (show gTab (tb_R_standsHere S) 44 = gi_icmp 47 49 (fun x y => x = y) from rfl) (fun c0 => x_iinc hm (show gTab (tb_R_standsHere S) 49 = gi_iinc 52 2 1 from rfl) rfl rfl (x_goto hm (show gTab (tb_R_standsHere S) 52 = gi_goto 7 from rfl) ((h.1 c0)))) (fun c0 => (h.2 c0))
set_option maxRecDepth 20000 in
theorem wb_R_standsHere_47 {S : Nat → gS} (hm : ∀ k, gMono (gTab (tb_R_standsHere S) k)) {Q : gQ} {X : gX} {H : gH} {x : Nat} {P : Nat → Nat} {I A : Nat → Nat → Int32} {h1 : Nat} {v2 : Int32}
    (h : (narrow .boolean (.int 0) = .int 0 ∧ Q (some (.int 0)) (gset H x mck P I A))) :
    gWp (gTab (tb_R_standsHere S)) Q X 47 [some (.ref (x + 0)), some (.ref h1), some (.int v2)] [] (gset H x mck P I A) :=
  x_st hm (show gTab (tb_R_standsHere S) 47 = gi_st 48 (gf_push (.int 0)) from rfl) rfl (x_zret hm (show gTab (tb_R_standsHere S) 48 = gi_zret .boolean from rfl) h.1 h.2)
set_option maxRecDepth 20000 in
theorem wb_R_standsHere_63 {S : Nat → gS} (hm : ∀ k, gMono (gTab (tb_R_standsHere S) k)) {Q : gQ} {X : gX} {H : gH} {x : Nat} {P : Nat → Nat} {I A : Nat → Nat → Int32} {h1 : Nat} {s0 : Int32} {s1 : Int32} {v2 : Int32} (hs1 : 1000000 ≤ h1 ∧ h1 < 1000000 + gNT)
    (h : (((I 0 3) ≤ (s0 + s1) → gWp (gTab (tb_R_standsHere S)) Q X 91 [some (.ref (x + 0)), some (.ref h1), some (.int v2)] [] (gset H x mck P I A)) ∧ (¬ ((I 0 3) ≤ (s0 + s1)) → S 251 [.ref h1] (gset H x mck P I A) (fun r H' => gWp (gTab (tb_R_standsHere S)) Q X 83 [some (.ref (x + 0)), some (.ref h1), some (.int v2)] (r.toList ++ [.int (I 0 4), .ref (x + 2)]) H') X))) :
    gWp (gTab (tb_R_standsHere S)) Q X 63 [some (.ref (x + 0)), some (.ref h1), some (.int v2)] [.int s1, .int s0] (gset H x mck P I A) :=
  x_st hm (show gTab (tb_R_standsHere S) 63 = gi_st 64 (gf_i2 (fun x y => x + y)) from rfl) rfl (x_aload hm (show gTab (tb_R_standsHere S) 64 = gi_aload 65 0 from rfl) rfl (x_get hm (show gTab (tb_R_standsHere S) 65 = gi_get 68 10 3 from rfl) (o := 0) rfl rfl (x_icmp hm (show gTab (tb_R_standsHere S) 68 = gi_icmp 71 91 (fun x y => y ≤ x) from rfl) (fun c0 => (h.1 c0)) (fun c0 => x_aload hm (show gTab (tb_R_standsHere S) 71 = gi_aload 72 0 from rfl) rfl (x_get hm (show gTab (tb_R_standsHere S) 72 = gi_get 75 10 9 from rfl) (o := 0) rfl rfl (x_aload hm (show gTab (tb_R_standsHere S) 75 = gi_aload 76 0 from rfl) rfl (x_get hm (show gTab (tb_R_standsHere S) 76 = gi_get 79 10 4 from rfl) (o := 0) rfl rfl (x_aload hm (show gTab (tb_R_standsHere S) 79 = gi_aload 80 1 from rfl) rfl (x_callx hm (show gTab (tb_R_standsHere S) 80 = gi_callx (S 251) 83 1 from rfl) (as := [.ref h1]) (rest := [.int (I 0 4), .ref (x + 2)]) rfl rfl (Nat.le_of_ble_eq_true rfl) (Nat.le_of_ble_eq_true rfl) hs1 (h.2 c0))))))))))
set_option maxRecDepth 20000 in
theorem wb_R_standsHere_83 {S : Nat → gS} (hm : ∀ k, gMono (gTab (tb_R_standsHere S) k)) {Q : gQ} {X : gX} {H : gH} {x : Nat} {P : Nat → Nat} {I A : Nat → Nat → Int32} {h1 : Nat} {s1 : Int32} {s2 : Int32} {v2 : Int32}
    (h : (vp_in (s1 + s2) 600 ∧ S 149 [.int (A 2 (s1 + s2).toNatClampNeg)] (gset H x mck P I A) (fun r H' => gWp (gTab (tb_R_standsHere S)) Q X 88 [some (.ref (x + 0)), some (.ref h1), some (.int v2)] (r.toList ++ []) H') X)) :
    gWp (gTab (tb_R_standsHere S)) Q X 83 [some (.ref (x + 0)), some (.ref h1), some (.int v2)] [.int s2, .int s1, .ref (x + 2)] (gset H x mck P I A) :=
  x_st hm (show gTab (tb_R_standsHere S) 83 = gi_st 84 (gf_i2 (fun x y => x + y)) from rfl) rfl (x_iald hm (show gTab (tb_R_standsHere S) 84 = gi_iald 85 from rfl) (o := 2) rfl h.1 (x_calls hm (show gTab (tb_R_standsHere S) 85 = gi_calls (S 149) 88 1 from rfl) (as := [.int (A 2 (s1 + s2).toNatClampNeg)]) (rest := []) rfl rfl (Nat.le_of_ble_eq_true rfl) (Nat.le_of_ble_eq_true rfl) h.2))
set_option maxRecDepth 20000 in
theorem wb_R_standsHere_88 {S : Nat → gS} (hm : ∀ k, gMono (gTab (tb_R_standsHere S) k)) {Q : gQ} {X : gX} {H : gH} {x : Nat} {P : Nat → Nat} {I A : Nat → Nat → Int32} {h1 : Nat} {s0 : Int32} {v2 : Int32}
    (h : ((¬ s0 = 0 → gWp (gTab (tb_R_standsHere S)) Q X 96 [some (.ref (x + 0)), some (.ref h1), some (.int v2)] [.int 0] (gset H x mck P I A)) ∧ (¬ (¬ s0 = 0) → gWp (gTab (tb_R_standsHere S)) Q X 91 [some (.ref (x + 0)), some (.ref h1), some (.int v2)] [] (gset H x mck P I A)))) :
    gWp (gTab (tb_R_standsHere S)) Q X 88 [some (.ref (x + 0)), some (.ref h1), some (.int v2)] [.int s0] (gset H x mck P I A) :=
  x_if hm (show gTab (tb_R_standsHere S) 88 = gi_if 91 95 (fun x => ¬ x = 0) from rfl) (fun c0 => x_st hm (show gTab (tb_R_standsHere S) 95 = gi_st 96 (gf_push (.int 0)) from rfl) rfl ((h.1 c0))) (fun c0 => (h.2 c0))
set_option maxRecDepth 20000 in
theorem wb_R_standsHere_91 {S : Nat → gS} (hm : ∀ k, gMono (gTab (tb_R_standsHere S) k)) {Q : gQ} {X : gX} {H : gH} {x : Nat} {P : Nat → Nat} {I A : Nat → Nat → Int32} {h1 : Nat} {v2 : Int32}
    (h : gWp (gTab (tb_R_standsHere S)) Q X 96 [some (.ref (x + 0)), some (.ref h1), some (.int v2)] [.int 1] (gset H x mck P I A)) :
    gWp (gTab (tb_R_standsHere S)) Q X 91 [some (.ref (x + 0)), some (.ref h1), some (.int v2)] [] (gset H x mck P I A) :=
  x_st hm (show gTab (tb_R_standsHere S) 91 = gi_st 92 (gf_push (.int 1)) from rfl) rfl (x_goto hm (show gTab (tb_R_standsHere S) 92 = gi_goto 96 from rfl) (h))
set_option maxRecDepth 20000 in
theorem wb_R_standsHere_96 {S : Nat → gS} (hm : ∀ k, gMono (gTab (tb_R_standsHere S) k)) {Q : gQ} {X : gX} {H : gH} {x : Nat} {P : Nat → Nat} {I A : Nat → Nat → Int32} {h1 : Nat} {s0 : Int32} {v2 : Int32}
    (h : (narrow .boolean (.int s0) = .int s0 ∧ Q (some (.int s0)) (gset H x mck P I A))) :
    gWp (gTab (tb_R_standsHere S)) Q X 96 [some (.ref (x + 0)), some (.ref h1), some (.int v2)] [.int s0] (gset H x mck P I A) :=
  x_zret hm (show gTab (tb_R_standsHere S) 96 = gi_zret .boolean from rfl) h.1 h.2
set_option maxRecDepth 20000 in
theorem me_R_standsHere {d : Nat} {Q : gQ} {X : gX} {H : gH} {x : Nat} {h1 : Nat} (h : gWp (gTab (tb_R_standsHere (meth d))) Q X 0 [some (.ref (x + 0)), some (.ref h1), none] [] H) : meth (d + 1) 173 [.ref (x + 0), .ref h1] H Q X := (show _ ∧ _ from ⟨Nat.le_of_ble_eq_true rfl, h⟩)
