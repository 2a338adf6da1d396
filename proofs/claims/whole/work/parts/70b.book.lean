/-! ===== calls: book ===== -/
section CA11
variable {s : ST}
def sBook (s : ST) (z : BZ) : ST := ((sB s, 0, -1), sZ s, sW s, sE s, z, sU s, sM s, sR s, sX0 s, sX1 s)
def f_book (k : Nat) (s : ST) : (Value ⊕ String) × ST := fTxt (pbook (sB s) k (sN s) (.inr (sk (sB s) k 0))).2 s (.inl (.int (nI (pbook (sB s) k (sN s) (.inr (sk (sB s) k 0))).1.1)), sBook s (pbook (sB s) k (sN s) (.inr (sk (sB s) k 0))).1)
theorem C_book (hs : sOk s) {n : Int32} : cCall m_S_book [.int n] (qN (okN s 60 n) s (f_book n.toNatClampNeg s)) s := by
  intro d Q X H x P I A hr h
  have hm := @mo_S_book (meth (d + 59)) (meth_smono (d + 59))
  have hp := hr.1
  have hA := hr.2.1.2.2
  have hN8 : sN s ≤ 8 := hs.2.1.1
  have pf := pP_frames hp
  have q1 : P 1 ≠ 1 := by rcases hp.1 with ⟨e, _⟩ | ⟨e, _⟩ <;> omega
  refine me_S_book (wb_S_book_0 hm (sp_S_needText (lim := 60) hs (by omega) hr (fun c => wb_S_book_7 hm ?_) (fun c I' r' => ?_)))
  · rw [qN_t c] at h
    obtain ⟨k, k1, k2, rfl⟩ := okN_n hs c
    rw [nI_clamp (by omega)] at h
    refine sp_Tape_open (b := sB s) (n := k) (by omega) hA (fun I1 f1 e1 c1 => wb_S_book_15 hm (pOk_1 hp) (pOk_8 hp) ?_)
    rw [f1 (P 1) (by simp; exact q1), show I (P 1) 0 = nI (sN s) from hr.2.2.1.1]
    refine sp_Book_read (d := d + 54) (pOk_8 hp) k1 hN8 hA c1 (fun t e => by cases e; exact (sk_P (Nat.zero_le _)).1.1) (fun I2 A2 f2 g2 c2 k3 => wb_S_book_33 hm (sp_Tape_sound c2 (wb_S_book_40 hm (pOk_8 hp) ?_)))
    have fI : Fr [1, P 8] I I2 := fr_t (fr_m f1 (by simp)) f2.1
    have i11 : I2 1 1 = 0 := by rw [f2.2]; exact e1
    unfold f_book fTxt at h
    cases hr2 : (pbook (sB s) k (sN s) (.inr (sk (sB s) k 0))).2 with
    | inl e =>
      rw [hr2] at c2 h
      dsimp only at h
      refine ⟨fun q => absurd rfl q, fun _ => sp_Tape_answer c2 (wb_S_book_50 hm ?_)⟩
      exact h P I2 A2 (cRep_txt hr fI g2 pf.2.2.1 pf.2.2.2.1 i11 c2.2.2.2.1)
    | inr t =>
      rw [hr2] at c2 h k3
      dsimp only at h
      refine ⟨fun _ => ?_, fun q => absurd i01_1 q⟩
      have r2 := cRep_txt (p := -1) hr fI g2 pf.2.2.1 pf.2.2.2.1 i11 c2.2.2.2.2.2.2.2.1
      have hla := k3 rfl
      obtain ⟨rp, rt, rl, rw_, rla, _, rU, rM, r1, r2', r3⟩ := r2
      have pp : pOkP (upP (upP P 7 (P 8)) 8 (P 7)) := by
        refine ⟨rp.1, rp.2.1, ?_⟩
        show (P 8 = 29 ∧ P 7 = 32) ∨ (P 8 = 32 ∧ P 7 = 29)
        rcases rp.2.2 with ⟨e5, e6⟩ | ⟨e5, e6⟩ <;> omega
      rw [hla.1]
      exact h _ I2 A2 ⟨pp, rt, rl, rw_, rla, hla, rU, rM, r1, r2', r3⟩
  · rw [qN_f c] at h; exact h P I' A r'
theorem ri_46 {d : Nat} {Q : gQ} {X : gX} {H : gH} {x : Nat} {P : Nat → Nat} {I A : Nat → Nat → Int32} {v1 : Int32} (h : ∀ A', Fr [21] A A' → (∀ t, t < 8 → A' 21 t = -1) → gWp (gTab (tb_R_book (meth d))) Q X 67 [some (.ref (x + 0)), some (.int v1), some (.int 0), none, none, none] [] (gset H x mck P I A')) : gWp (gTab (tb_R_book (meth d))) Q X 46 [some (.ref (x + 0)), some (.int v1), some (.int (nI 0)), none, none, none] [] (gset H x mck P I A) := by
  have hm := @mo_R_book (meth d) (meth_smono d)
  refine gdown (p := fun i => ∀ A', Fr [21] A A' → (∀ t, t < i → A' 21 t = -1) → gWp (gTab (tb_R_book (meth d))) Q X 46 [some (.ref (x + 0)), some (.int v1), some (.int (nI i)), none, none, none] [] (gset H x mck P I A')) (n := 8) ?_ ?_ 0 (by omega) A fr_r (fun t ht => absurd ht (Nat.not_lt_zero t))
  · intro A' f e
    exact wb_R_book_46 hm ⟨fun _ => h A' f e, fun c => absurd (nI_le (a := 8) (by omega) (by omega)) c⟩
  · intro i hi ih A' f e
    refine wb_R_book_46 hm ⟨fun c => absurd c (nI_ge (b := 8) (by omega) (by omega)), fun _ => ⟨vp_in_nI (by omega) (by omega), ?_⟩⟩
    rw [nI_clamp (by omega), nI_1]
    refine ih _ (fr_t f (fr_A fr_r (by simp))) (fun t ht => ?_)
    rw [upA_s]
    by_cases he : t = i
    · rw [he, upd_at]
    · rw [upd_ne he]; exact e t (by omega)
set_option maxHeartbeats 1000000 in
theorem R_book (hs : sOk s) {n : Int32} : rCall m_R_book [.int n] kA (.int 0) (qN (okN s 60 n) s (f_book n.toNatClampNeg s)) s := by
  intro d Q X H x P I A hr h
  have hm := @mo_R_book (meth (d + 59)) (meth_smono (d + 59))
  have hA := hr.1.2.2
  have hN8 : sN s ≤ 8 := hs.2.1.1
  obtain ⟨o1, o2, o3, o4⟩ := rOk_n (n := n) (lim := 60) hs (by omega) hr
  have no : okN s 60 n = false → gWp (gTab (tb_R_book (meth (d + 59)))) Q X 28 [some (.ref (x + 0)), some (.int n), none, none, none, none] [.ref (x + 0)] (gset H x mck P (upI I 0 0 0) A) := fun hf => by
    rw [qN_f hf] at h
    exact wb_R_book_28 hm (wb_R_book_29 hm (sp_R_may (c := false) (kind := 1) (code := 1) upI_s (by omega) (by omega) (rRep_0 hr) (fun q => by cases q) (fun _ I' A' r' e => wb_R_book_34 hm ⟨fun q => absurd rfl q, fun _ => h I' A' _ r' ⟨e, rfl⟩⟩)))
  refine me_R_book (wb_R_book_0 hm ⟨fun c => no (o1 c), fun c1 => ⟨fun c => no (o2 c), fun c2 => ⟨fun c => no (o3 c), fun c3 => wb_R_book_29 hm (sp_R_may (c := true) (kind := 1) (code := 1) upI_s (by omega) (by omega) (rRep_0 hr) (fun _ => wb_R_book_34 hm ⟨fun _ => ?_, fun q => absurd (by decide) q⟩) (fun q => by cases q))⟩⟩⟩)
  have c := o4 c1 c2 c3
  rw [qN_t c] at h
  obtain ⟨k, k1, k2, rfl⟩ := okN_n hs c
  rw [nI_clamp (by omega)] at h
  refine rs_begin (b := sB s) (n := k) hA (fun I1 f1 a2 a8 a7 c1' => wb_R_book_44 hm (ri_46 (fun A1 g1 e1 => ?_)))
  have i0 : I1 0 0 = 0 := by rw [f1 0 (by decide) (by decide) (by decide) (by decide) (by decide) (by decide), upI_s]
  have i19 : I1 0 19 = nI (sN s) := by rw [f1 19 (by decide) (by decide) (by decide) (by decide) (by decide) (by decide), upI_f (by decide)]; exact hr.2.1.1
  have hA1 : A1 2 = sB s := by rw [g1 2 (by decide)]; exact hA
  refine rb_67 (d := d + 56) (o := .inr (sk (sB s) k 0)) k1 hN8 60 0 ((0, fun _ => -1), .inr (sk (sB s) k 0)) I1 A1 rfl (fun _ _ => Nat.zero_le _) hA1 i19 c1' rfl (fun t e => by cases e; exact ⟨(sk_P (Nat.zero_le _)).1.1, e1⟩) (fun I2 A2 v t2 g2 c2' k3 => wb_R_book_167 hm ?_)
  have fA : Fr [21] A A2 := fr_t g1 g2
  refine sp_R_result (by omega) c2' (fun I4 u e4 eo => wb_R_book_172 hm ?_)
  have j45 : I4 0 5 = I2 0 5 := e4 5 (by decide)
  have p2 : I4 0 2 = 0 := by rw [e4 2 (by decide), t2 2 (by decide) (by decide) (by decide)]; exact a2
  have p0 : I4 0 0 = 0 := by rw [e4 0 (by decide), t2 0 (by decide) (by decide) (by decide)]; exact i0
  have pI : ∀ f, f = 19 ∨ f = 20 ∨ f = 27 ∨ f = 32 ∨ f = 33 ∨ f = 43 ∨ f = 53 → I4 0 f = I 0 f := fun f hf => by rw [e4 f (by omega), t2 f (by omega) (by omega) (by omega), f1 f (by omega) (by omega) (by omega) (by omega) (by omega) (by omega), upI_f (by omega)]
  unfold f_book fTxt at h
  cases hr2 : (pbook (sB s) k (sN s) (.inr (sk (sB s) k 0))).2 with
  | inl e =>
    rw [hr2] at c2' eo h
    dsimp only [rRes] at h eo
    obtain ⟨_, _, _, _, ho⟩ := c2'
    rw [eo.2]
    exact ⟨fun q => absurd q (by rw [j45, ho.1]; exact nI_nm1 (by have := ho.2.2.1; omega)), fun _ => h I4 A2 _ (rRep_txt hr pI fA rSp_21 p2 eo.1) ⟨p0, rfl⟩⟩
  | inr t =>
    rw [hr2] at c2' eo h k3
    dsimp only [rRes] at h eo
    obtain ⟨_, _, _, _, ho⟩ := c2'
    obtain ⟨kv, k4⟩ := k3 rfl
    refine ⟨fun _ => ?_, fun q => absurd (by rw [j45]; exact ho.1) q⟩
    refine sp_R_copies (a := 21) (b := 22) (n1 := 8) (n2 := 8) (k := 8) rfl rfl (by omega) (by omega) (by omega) (by omega) (by decide) (fun A3 f3 e3 _ => wb_R_book_202 hm ?_)
    obtain ⟨ht, hl, hw, hLw, _, hU, hM, h1, h2, h3⟩ := rRep_txt (p := -1) hr pI fA rSp_21 p2 eo.1
    have mA : ∀ j, j ≠ 22 → A3 j = A2 j := fun j b => f3 j (by simp; exact b)
    have mI : ∀ f, f ≠ 43 → upI I4 0 43 v 0 f = I4 0 f := fun f b => upI_f b
    rw [eo.2, kv]
    rw [kv] at mI
    refine h _ A3 _ ⟨⟨by rw [mI 2 (by decide)]; exact ht.1, by rw [mI 8 (by decide)]; exact ht.2.1, by rw [mA 2 (by decide)]; exact ht.2.2⟩, ?_, ?_, hLw.mv (mI 27 (by decide)) (mA 11 (by decide)) (mA 12 (by decide)), ⟨by rw [upI_s]; rfl, fun t ht => by rw [e3 t ht]; exact k4 t ht⟩, ?_, ?_, by rw [mI 33 (by decide)]; exact h1, by rw [mA 1 (by decide)]; exact h2, by rw [mA 1 (by decide)]; exact h3⟩ ⟨by rw [mI 0 (by decide)]; exact p0, rfl⟩
    · show rLand (sZ s) _ _
      unfold rLand; rw [mI 19 (by decide), mI 20 (by decide), mA 7 (by decide), mA 8 (by decide)]; exact hl
    · rw [mA 17 (by decide)]; exact hw
    · show rWorks s _ _
      unfold rWorks; rw [mI 32 (by decide), mA 19 (by decide)]; exact hU
    · show rImgs s _ _
      unfold rImgs; rw [mI 53 (by decide), mA 28 (by decide)]; exact hM
end CA11
