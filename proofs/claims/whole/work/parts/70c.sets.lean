/-! ===== state call: blocks, what is set ===== -/
set_option maxRecDepth 20000 in
theorem wc_S_state_85 {S : Nat → gS} (hm : ∀ k, gMono (gTab (tb_S_state S) k)) {Q : gQ} {X : gX} {H : gH} {x : Nat} {P : Nat → Nat} {I A : Nat → Nat → Int32} {v1 : Int32} {l2 : Nat} (hP5 : cck (P 5) = (4 + 2, 0))
    (h : S 32 [.ref (x + (P 5))] (gset H x cck P I A) (fun r H' => gWp (gTab (tb_S_state S)) Q X 92 [some (.ref (x + 0)), some (.int v1), some (.ref (x + l2))] (r.toList ++ []) H') X) :
    gWp (gTab (tb_S_state S)) Q X 85 [some (.ref (x + 0)), some (.int v1), some (.ref (x + l2))] [] (gset H x cck P I A) :=
  x_aload hm (show gTab (tb_S_state S) 85 = gi_aload 86 0 from rfl) rfl (x_get hm (show gTab (tb_S_state S) 86 = gi_get 89 9 5 from rfl) (o := 0) rfl rfl (x_callv hm (show gTab (tb_S_state S) 89 = gi_callv (S 32) 4 92 1 from rfl) (o := (P 5)) (as := []) (rest := []) rfl rfl (Nat.le_of_ble_eq_true rfl) (Nat.le_of_ble_eq_true rfl) hP5 h))
set_option maxRecDepth 20000 in
theorem wc_S_state_92 {S : Nat → gS} (hm : ∀ k, gMono (gTab (tb_S_state S) k)) {Q : gQ} {X : gX} {H : gH} {x : Nat} {P : Nat → Nat} {I A : Nat → Nat → Int32} {v1 : Int32} {l2 : Nat} (hP7 : cck (P 7) = (0 + 2, 0))
    (h : S 0 [.ref (x + (P 7))] (gset H x cck P I A) (fun r H' => gWp (gTab (tb_S_state S)) Q X 99 [some (.ref (x + 0)), some (.int v1), some (.ref (x + l2))] (r.toList ++ []) H') X) :
    gWp (gTab (tb_S_state S)) Q X 92 [some (.ref (x + 0)), some (.int v1), some (.ref (x + l2))] [] (gset H x cck P I A) :=
  x_aload hm (show gTab (tb_S_state S) 92 = gi_aload 93 0 from rfl) rfl (x_get hm (show gTab (tb_S_state S) 93 = gi_get 96 9 7 from rfl) (o := 0) rfl rfl (x_callv hm (show gTab (tb_S_state S) 96 = gi_callv (S 0) 0 99 1 from rfl) (o := (P 7)) (as := []) (rest := []) rfl rfl (Nat.le_of_ble_eq_true rfl) (Nat.le_of_ble_eq_true rfl) hP7 h))
set_option maxRecDepth 20000 in
theorem wc_S_state_99 {S : Nat → gS} (hm : ∀ k, gMono (gTab (tb_S_state S) k)) {Q : gQ} {X : gX} {H : gH} {x : Nat} {P : Nat → Nat} {I A : Nat → Nat → Int32} {v1 : Int32} {l2 : Nat}
    (h : S 42 [.ref (x + 40)] (gset H x cck P I A) (fun r H' => gWp (gTab (tb_S_state S)) Q X 106 [some (.ref (x + 0)), some (.int v1), some (.ref (x + l2))] (r.toList ++ []) H') X) :
    gWp (gTab (tb_S_state S)) Q X 99 [some (.ref (x + 0)), some (.int v1), some (.ref (x + l2))] [] (gset H x cck P I A) :=
  x_aload hm (show gTab (tb_S_state S) 99 = gi_aload 100 0 from rfl) rfl (x_get hm (show gTab (tb_S_state S) 100 = gi_get 103 9 10 from rfl) (o := 0) rfl rfl (x_callv hm (show gTab (tb_S_state S) 103 = gi_callv (S 42) 5 106 1 from rfl) (o := 40) (as := []) (rest := []) rfl rfl (Nat.le_of_ble_eq_true rfl) (Nat.le_of_ble_eq_true rfl) rfl h))
set_option maxRecDepth 20000 in
theorem wc_S_state_106 {S : Nat → gS} (hm : ∀ k, gMono (gTab (tb_S_state S) k)) {Q : gQ} {X : gX} {H : gH} {x : Nat} {P : Nat → Nat} {I A : Nat → Nat → Int32} {v1 : Int32} {l2 : Nat} (hP1 : cck (P 1) = (3 + 2, 0))
    (h : Q (some (.int ((upI I 0 13 0) (P 1) 0))) (gset H x cck P (upI I 0 13 0) A)) :
    gWp (gTab (tb_S_state S)) Q X 106 [some (.ref (x + 0)), some (.int v1), some (.ref (x + l2))] [] (gset H x cck P I A) :=
  x_aload hm (show gTab (tb_S_state S) 106 = gi_aload 107 0 from rfl) rfl (x_st hm (show gTab (tb_S_state S) 107 = gi_st 108 (gf_push (.int 0)) from rfl) rfl (x_puti hm (show gTab (tb_S_state S) 108 = gi_puti 111 9 13 from rfl) (o := 0) rfl rfl cp_9_13 (x_aload hm (show gTab (tb_S_state S) 111 = gi_aload 112 0 from rfl) rfl (x_get hm (show gTab (tb_S_state S) 112 = gi_get 115 9 1 from rfl) (o := 0) rfl rfl (x_get hm (show gTab (tb_S_state S) 115 = gi_get 118 3 0 from rfl) (o := (P 1)) hP1 rfl (x_iret hm (show gTab (tb_S_state S) 118 = gi_iret from rfl) h))))))
def wNew (z : LZ) : WS := (rs (zN z) (fun t => nI (zV z t)), rs (zN z) (fun t => nI (zB z t)), rs (zN z) (fun _ => 0), nI (zK z), 0, 1, 0)
section TX2
variable {d : Nat} {Q : gQ} {X : gX} {H : gH} {x : Nat} {P : Nat → Nat} {I A : Nat → Nat → Int32}
theorem plainA_at {o : Nat} : ∀ i, i < 5 → plainA A o (o + 1) i = plain0 i := by
  intro i hi
  unfold plain0 plainA
  rw [upA_s, upA_s, upA_s, upA_s, upA_s, upA_s, upA_s, upA_s, upA_s, upA_s]
  rcases (show i = 0 ∨ i = 1 ∨ i = 2 ∨ i = 3 ∨ i = 4 by omega) with rfl | rfl | rfl | rfl | rfl <;> rfl
theorem plainA_fr {o : Nat} : Fr [o + 1] A (plainA A o) := fr_A (fr_A (fr_A (fr_A (fr_A fr_r (by simp)) (by simp)) (by simp)) (by simp)) (by simp)
theorem sp_Past_clear (h : Q none (gset H x cck P (upI (upI I 40 2 0) 40 3 0) A)) : meth (d + 1) m_Past_clear [.ref (x + 40)] (gset H x cck P I A) Q X := by
  have hm := @mo_Past_clear (meth d) (meth_smono d)
  exact me_Past_clear (wb_Past_clear_0 hm h)
theorem sp_World_clear {o : Nat} (ho : cck o = (8 + 2, 0)) (h : ∀ I', Fr [o] I I' → I' o 3 = 0 → I' o 4 = 1 → I' o 5 = 0 → I' o 6 = 1 → I' o 7 = 0 → Q none (gset H x cck P I' A)) : meth (d + 1) m_World_clear [.ref (x + o)] (gset H x cck P I A) Q X := by
  have hm := @mo_World_clear (meth d) (meth_smono d)
  refine me_World_clear (wb_World_clear_0 hm ho (h _ (fr_I (fr_I (fr_I (fr_I (fr_I fr_r (by simp)) (by simp)) (by simp)) (by simp)) (by simp)) ?_ ?_ ?_ ?_ ?_))
  · rw [upI_f (by decide), upI_f (by decide), upI_f (by decide), upI_f (by decide), upI_s]
  · rw [upI_f (by decide), upI_f (by decide), upI_f (by decide), upI_s]
  · rw [upI_f (by decide), upI_f (by decide), upI_s]
  · rw [upI_f (by decide), upI_s]
  · rw [upI_s]
theorem cW_new {z : LZ} {l : Nat} (h : lCl l z I A) (h3 : I 17 3 = 0) (h5 : I 17 5 = 0) (h6 : I 17 6 = 1) (h7 : I 17 7 = 0) : cW (zN z) I A 17 = wNew z := by
  unfold cW wNew
  rw [h3, h5, h6, h7, h.2.2.1, rs_c (fun t ht => (h.2.2.2.1 t ht).1), rs_c (fun t ht => (h.2.2.2.1 t ht).2.1), rs_c (f := fun t => ((0 : Int32) >>> (nI t &&& 31)) &&& 1) (g := fun _ => 0) (fun t _ => by
    show ((0 : Int32) >>> (nI t &&& 31)) &&& 1 = 0
    rw [Int32.zero_shiftRight, Int32.zero_and])]
/-- what the reference sets -/
def rSet (z : LZ) (I A I' A' : Nat → Nat → Int32) : Prop := (∀ f, f ≠ 19 → f ≠ 20 → f ≠ 27 → f ≠ 32 → f ≠ 33 → f ≠ 43 → f ≠ 53 → I' 0 f = I 0 f) ∧ Fr [7, 8, 17, 22] A A' ∧ rLand z I' A' ∧ rW (zN z) (A' 17) = wNew z ∧ I' 0 27 = 0 ∧ I' 0 32 = 0 ∧ I' 0 33 = 0 ∧ I' 0 43 = 0 ∧ I' 0 53 = 0 ∧ ∀ t, t < 8 → A' 22 t = -1
theorem sp_R_sets {z : LZ} (hz : zOk z) (hl : lRl z I A) (h : ∀ I' A', rSet z I A I' A' → Q none (gset H x mck P I' A')) : meth (d + 2) m_R_sets [.ref (x + 0)] (gset H x mck P I A) Q X := by
  have hm := @mo_R_sets (meth (d + 1)) (meth_smono (d + 1))
  have hN : zN z ≤ 8 := hz.1
  have hM : zM z ≤ 12 := hz.2.1
  refine me_R_sets (wb_R_sets_0 hm (sp_R_copies (a := 5) (b := 7) (n1 := 8) (n2 := 8) (k := 8) rfl rfl (by omega) (by omega) (by omega) (by omega) (by decide) (fun A1 f1 e1 _ => wb_R_sets_30 hm (sp_R_copies (a := 6) (b := 8) (n1 := 24) (n2 := 24) (k := 24) rfl rfl (by omega) (by omega) (by omega) (by omega) (by decide) (fun A2 f2 e2 _ => wb_R_sets_44 hm ?_)))))
  generalize hI' : upI (upI (upI (upI (upI (upI (upI I 0 19 (I 0 16)) 0 20 (I 0 17)) 0 27 0) 0 43 0) 0 32 0) 0 53 0) 0 33 0 = I'
  have mI : ∀ f, f ≠ 19 → f ≠ 20 → f ≠ 27 → f ≠ 32 → f ≠ 33 → f ≠ 43 → f ≠ 53 → I' 0 f = I 0 f := fun f a1 a2 a3 a4 a5 a6 a7 => by rw [← hI', upI_f a5, upI_f a7, upI_f a4, upI_f a6, upI_f a3, upI_f a2, upI_f a1]
  have j33 : I' 0 33 = 0 := by rw [← hI', upI_s]
  have j53 : I' 0 53 = 0 := by rw [← hI', upI_f (by decide), upI_s]
  have j32 : I' 0 32 = 0 := by rw [← hI', upI_f (by decide), upI_f (by decide), upI_s]
  have j43 : I' 0 43 = 0 := by rw [← hI', upI_f (by decide), upI_f (by decide), upI_f (by decide), upI_s]
  have j27 : I' 0 27 = 0 := by rw [← hI', upI_f (by decide), upI_f (by decide), upI_f (by decide), upI_f (by decide), upI_s]
  have j20 : I' 0 20 = nI (zM z) := by rw [← hI', upI_f (by decide), upI_f (by decide), upI_f (by decide), upI_f (by decide), upI_f (by decide), upI_s]; exact hl.2.1
  have j19 : I' 0 19 = nI (zN z) := by rw [← hI', upI_f (by decide), upI_f (by decide), upI_f (by decide), upI_f (by decide), upI_f (by decide), upI_f (by decide), upI_s]; exact hl.1
  have j18 : I' 0 18 = nI (zK z) := by rw [mI 18 (by decide) (by decide) (by decide) (by decide) (by decide) (by decide) (by decide)]; exact hl.2.2.1
  have fA : Fr [7, 8, 17, 22] A A2 := fr_t (fr_m f1 (by simp)) (fr_m f2 (by simp))
  have a7 : ∀ t, t < zN z → A2 7 t = nI (zC z t) := fun t ht => by rw [f2 7 (by decide), e1 t (by omega)]; exact (hl.2.2.2.1 t ht).2.2
  have a8 : ∀ e, e < zM z → A2 8 (2 * e) = nI (zF z e) ∧ A2 8 (2 * e + 1) = nI (zT z e) := fun e he => by
    rw [e2 (2 * e) (by omega), e2 (2 * e + 1) (by omega), f1 6 (by decide)]; exact hl.2.2.2.2 e he
  clear hI'
  -- towns
  have l113 : ∀ A4, Fr [7, 8, 17, 22] A A4 → A4 7 = A2 7 → A4 8 = A2 8 → (∀ t, t < 8 → A4 22 t = -1) → (∀ t, t < 28 → A4 17 t = 0) → gWp (gTab (tb_R_sets (meth (d + 1)))) Q X 113 [some (.ref (x + 0)), some (.int (nI 0))] [] (gset H x mck P I' A4) := by
    intro A4 g4 g7 g8 g22 g17
    refine gdown (p := fun i => ∀ A5, Fr [17] A4 A5 → (∀ t, t < i → A5 17 t = nI (zV z t) ∧ A5 17 (8 + t) = nI (zB z t)) → (∀ t, 16 ≤ t → t < 28 → A5 17 t = 0) → gWp (gTab (tb_R_sets (meth (d + 1)))) Q X 113 [some (.ref (x + 0)), some (.int (nI i))] [] (gset H x mck P I' A5)) (n := zN z) ?_ ?_ 0 (by omega) A4 fr_r (fun t ht => absurd ht (Nat.not_lt_zero t)) (fun t _ ht => g17 t ht)
    · intro A5 g5 e5 z5
      refine wb_R_sets_113 hm ⟨fun _ => ⟨vp_in_nI (n := 24) (by omega) (by omega), vp_in_nI (n := 25) (by omega) (by omega), ?_⟩, fun c => absurd (by rw [j19]; exact nI_le (by omega) (by omega)) c⟩
      have mA : ∀ j, j ≠ 17 → upA (upA A5 17 (24 : Int32).toNatClampNeg (I' 0 18)) 17 (25 : Int32).toNatClampNeg 1 j = A4 j := fun j hj => by rw [upA_n hj, upA_n hj, g5 j (by simp; exact hj)]
      refine h _ _ ⟨mI, ?_, ⟨j19, j20, ?_, ?_⟩, ?_, j27, j32, j33, j43, j53, ?_⟩
      · exact fr_t g4 (fr_t (fr_m g5 (by simp)) (fr_A (fr_A fr_r (by simp)) (by simp)))
      · rw [mA 7 (by decide), g7]; exact a7
      · rw [mA 8 (by decide), g8]; exact a8
      · rw [upA_s, upA_s, j18]
        unfold rW wNew
        have u : ∀ t, t ≠ 24 → t ≠ 25 → upd (upd (A5 17) (24 : Int32).toNatClampNeg (nI (zK z))) (25 : Int32).toNatClampNeg 1 t = A5 17 t := fun t h1 h2 => by
          rw [show (25 : Int32).toNatClampNeg = 25 from rfl, show (24 : Int32).toNatClampNeg = 24 from rfl, upd_ne h2, upd_ne h1]
        rw [rs_c (fun t ht => by rw [u t (by omega) (by omega), (e5 t ht).1] : ∀ t, t < zN z → upd (upd (A5 17) (24 : Int32).toNatClampNeg (nI (zK z))) (25 : Int32).toNatClampNeg 1 t = nI (zV z t)),
          rs_c (fun t ht => by rw [u (8 + t) (by omega) (by omega), (e5 t ht).2] : ∀ t, t < zN z → upd (upd (A5 17) (24 : Int32).toNatClampNeg (nI (zK z))) (25 : Int32).toNatClampNeg 1 (8 + t) = nI (zB z t)),
          rs_c (fun t ht => by rw [u (16 + t) (by omega) (by omega), z5 (16 + t) (by omega) (by omega)] : ∀ t, t < zN z → upd (upd (A5 17) (24 : Int32).toNatClampNeg (nI (zK z))) (25 : Int32).toNatClampNeg 1 (16 + t) = 0),
          u 26 (by decide) (by decide), u 27 (by decide) (by decide), z5 26 (by omega) (by omega), z5 27 (by omega) (by omega)]
        rfl
      · rw [mA 22 (by decide)]; exact g22
    · intro i hi ih A5 g5 e5 z5
      rw [show nI i = 0 + nI i from (Int32.zero_add _).symm]
      refine wb_R_sets_113 hm ⟨fun c => ?_, fun _ => ?_⟩
      · rw [j19, Int32.zero_add] at c; exact absurd c (nI_ge (by omega) (by omega))
      · rw [Int32.zero_add, Int32.zero_add, n_8, nI_clamp (by omega), nI_clamp (by omega), nI_1]
        refine ⟨vp_in_nI (by omega) (by omega), vp_in_nI (by omega) (by omega), vp_in_nI (by omega) (by omega), vp_in_nI (by omega) (by omega), ?_⟩
        have r3 : A5 3 i = nI (zV z i) := by rw [g5 3 (by decide), g4 3 (by decide)]; exact (hl.2.2.2.1 i hi).1
        have r4 : A5 4 i = nI (zB z i) := by rw [g5 4 (by decide), g4 4 (by decide)]; exact (hl.2.2.2.1 i hi).2.1
        rw [upA_n (show (4 : Nat) ≠ 17 by decide), r3, r4]
        refine ih _ (fr_t g5 (fr_A (fr_A fr_r (by simp)) (by simp))) (fun t ht => ?_) (fun t h1 h2 => ?_)
        · rw [upA_s, upA_s]
          by_cases he : t = i
          · rw [he, upd_ne (show i ≠ 8 + i by omega), upd_at, upd_at]; exact ⟨rfl, rfl⟩
          · rw [upd_ne (show t ≠ 8 + i by omega), upd_ne he, upd_ne (show 8 + t ≠ 8 + i by omega), upd_ne (show 8 + t ≠ i by omega)]; exact e5 t (by omega)
        · rw [upA_s, upA_s, upd_ne (by omega), upd_ne (by omega)]; exact z5 t h1 h2
  have l92 : ∀ A3, Fr [22] A2 A3 → (∀ t, t < 8 → A3 22 t = -1) → gWp (gTab (tb_R_sets (meth (d + 1)))) Q X 92 [some (.ref (x + 0)), some (.int (nI 0))] [] (gset H x mck P I' A3) := by
    intro A3 g3 g22
    refine gdown (p := fun i => ∀ A4, Fr [17] A3 A4 → (∀ t, t < i → A4 17 t = 0) → gWp (gTab (tb_R_sets (meth (d + 1)))) Q X 92 [some (.ref (x + 0)), some (.int (nI i))] [] (gset H x mck P I' A4)) (n := 28) ?_ ?_ 0 (by omega) A3 fr_r (fun t ht => absurd ht (Nat.not_lt_zero t))
    · intro A4 g4 e4
      exact wb_R_sets_92 hm ⟨fun _ => l113 A4 (fr_t fA (fr_t (fr_m g3 (by simp)) (fr_m g4 (by simp)))) (by rw [g4 7 (by decide), g3 7 (by decide)]) (by rw [g4 8 (by decide), g3 8 (by decide)]) (by rw [g4 22 (by decide)]; exact g22) e4, fun c => absurd (nI_le (a := 28) (by omega) (by omega)) c⟩
    · intro i hi ih A4 g4 e4
      refine wb_R_sets_92 hm ⟨fun c => absurd c (nI_ge (b := 28) (by omega) (by omega)), fun _ => ⟨vp_in_nI (by omega) (by omega), ?_⟩⟩
      rw [nI_clamp (by omega), nI_1]
      refine ih _ (fr_t g4 (fr_A fr_r (by simp))) (fun t ht => ?_)
      rw [upA_s]
      by_cases he : t = i
      · rw [he, upd_at]
      · rw [upd_ne he]; exact e4 t (by omega)
  refine gdown (p := fun i => ∀ A3, Fr [22] A2 A3 → (∀ t, t < i → A3 22 t = -1) → gWp (gTab (tb_R_sets (meth (d + 1)))) Q X 71 [some (.ref (x + 0)), some (.int (nI i))] [] (gset H x mck P I' A3)) (n := 8) ?_ ?_ 0 (by omega) A2 fr_r (fun t ht => absurd ht (Nat.not_lt_zero t))
  · intro A3 g3 e3
    exact wb_R_sets_71 hm ⟨fun _ => l92 A3 g3 e3, fun c => absurd (nI_le (a := 8) (by omega) (by omega)) c⟩
  · intro i hi ih A3 g3 e3
    refine wb_R_sets_71 hm ⟨fun c => absurd c (nI_ge (b := 8) (by omega) (by omega)), fun _ => ⟨vp_in_nI (by omega) (by omega), ?_⟩⟩
    rw [nI_clamp (by omega), nI_1]
    refine ih _ (fr_t g3 (fr_A fr_r (by simp))) (fun t ht => ?_)
    rw [upA_s]
    by_cases he : t = i
    · rw [he, upd_at]
    · rw [upd_ne he]; exact e3 t (by omega)
end TX2
