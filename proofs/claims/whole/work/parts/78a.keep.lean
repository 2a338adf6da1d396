/-! ===== every call keeps what a state must be ===== -/
section KEEP
variable {s : ST}
theorem sOk_flt {p : Int32} (h : sOk s) : sOk (sFlt s p) := ⟨Nat.zero_le _, h.2⟩
theorem sOk_feed {a b c e g : Int32} (h : sOk s) : sOk (f_feed a b c e g s).2 := by
  unfold f_feed
  by_cases hl : sL s + 20 ≤ 600
  · rw [if_pos hl]; exact ⟨hl, h.2⟩
  · rw [if_neg hl]; exact h
theorem sOk_undo (h : sOk s) : sOk (f_undo s).2 := by
  unfold f_undo
  by_cases h0 : (sU s).1 = 0
  · rw [if_pos h0]; exact h
  · rw [if_neg h0]
    obtain ⟨h1, h2, h3, h4, h5, h6, h7⟩ := h
    exact ⟨h1, h2, h6.2 _ (by omega), h4, h5, ⟨by have := h6.1; show (sU s).1 - 1 ≤ 16; omega, fun i hi => h6.2 i (by have hi : i < (sU s).1 - 1 := hi; omega)⟩, h7⟩
theorem sOk_image (h : sOk s) : sOk (f_image s).2 := by
  unfold f_image
  by_cases h0 : (sM s).1 = 3
  · rw [if_pos h0]; exact h
  · rw [if_neg h0]
    obtain ⟨h1, h2, h3, h4, h5, h6, h7⟩ := h
    refine ⟨h1, h2, h3, h4, h5, h6, ⟨by have := h7.1; show (sM s).1 + 1 ≤ 3; omega, fun i hi => ?_⟩⟩
    have hi : i < (sM s).1 + 1 := hi
    show (wOk (sN s) (if i = (sM s).1 then (sW s, (sU s).1, (sU s).2) else (sM s).2 i).1 ∧ wYok (if i = (sM s).1 then (sW s, (sU s).1, (sU s).2) else (sM s).2 i).1) ∧ (if i = (sM s).1 then (sW s, (sU s).1, (sU s).2) else (sM s).2 i).2.1 ≤ 16 ∧ ∀ j, j < (if i = (sM s).1 then (sW s, (sU s).1, (sU s).2) else (sM s).2 i).2.1 → wOk (sN s) ((if i = (sM s).1 then (sW s, (sU s).1, (sU s).2) else (sM s).2 i).2.2 j) ∧ wYok ((if i = (sM s).1 then (sW s, (sU s).1, (sU s).2) else (sM s).2 i).2.2 j)
    by_cases he : i = (sM s).1
    · rw [if_pos he]; exact ⟨h3, h6.1, h6.2⟩
    · rw [if_neg he]; exact h7.2 i (by omega)
theorem sOk_restore (h : sOk s) : sOk (f_restore s).2 := by
  unfold f_restore
  by_cases h0 : (sM s).1 = 0
  · rw [if_pos h0]; exact h
  · rw [if_neg h0]
    obtain ⟨h1, h2, h3, h4, h5, h6, h7⟩ := h
    have h8 := h7.2 ((sM s).1 - 1) (by omega)
    exact ⟨h1, h2, h8.1, h4, h5, h8.2, ⟨by have := h7.1; show (sM s).1 - 1 ≤ 3; omega, fun i hi => h7.2 i (by have hi : i < (sM s).1 - 1 := hi; omega)⟩⟩
theorem wNew_ok {z : LZ} (h : zOk z) : wOk (zN z) (wNew z) ∧ wYok (wNew z) := by
  refine ⟨fun t ht => ?_, 0, by omega, rfl⟩
  obtain ⟨a1, a2, a3, _⟩ := h.2.2.2.1 t ht
  exact ⟨zV z t, zB z t, a1, by omega, a3, rs_at (f := fun t => nI (zV z t)) ht, rs_at (f := fun t => nI (zB z t)) ht⟩
theorem sOk_new {t : (Nat → Int32) × Nat × Int32} {z : LZ} {x0 x1 : Int32} (ht : t.2.1 ≤ 600) (hz : zOk z) : sOk (sNew t z x0 x1) :=
  ⟨ht, hz, wNew_ok hz, lev_ok plain_chk, ⟨fun _ => Or.inl rfl, fun _ _ => rfl⟩, ⟨Nat.zero_le _, fun i hi => absurd hi (Nat.not_lt_zero i)⟩, ⟨Nat.zero_le _, fun i hi => absurd hi (Nat.not_lt_zero i)⟩⟩
theorem sOk_qN {c : Bool} {r : (Value ⊕ String) × ST} (h : sOk s) (hr : c = true → sOk r.2) : sOk (qN c s r).2 := by
  cases c
  · rw [qN_f rfl]; exact sOk_bad h
  · rw [qN_t rfl]; exact hr rfl
theorem sOk_q1 {c : Bool} {v : Int32} (h : sOk s) : sOk (q1 c s v).2 := by
  cases c
  · rw [q1_f rfl]; exact sOk_bad h
  · rw [q1_t rfl]; exact h
theorem sOk_qT {c : Bool} {r : (Value ⊕ String) × ST} (h : sOk s) (hr : sOk r.2) : sOk (qT c s r).2 := by
  cases c
  · rw [qT_f rfl]; exact sOk_no h
  · rw [qT_t rfl]; exact hr
theorem sOk_fTxt {o : PO} {g : (Value ⊕ String) × ST} (h : sOk s) (hg : ∀ t, o = .inr t → sOk g.2) : sOk (fTxt o s g).2 := by
  unfold fTxt
  cases o with
  | inl e => exact sOk_flt h
  | inr t => exact hg t rfl
theorem sOk_state {n : Int32} (h : sOk s) : sOk (qN (okN s 600 n) s (f_state n.toNatClampNeg s)).2 :=
  sOk_qN h (fun _ => sOk_fTxt h (fun t e => sOk_new (Nat.zero_le _) (pland_ok 61 0 zNil _ zNil_ok (by rw [e]; rfl))))
theorem sOk_law {n : Int32} (h : sOk s) : sOk (qN (okN s 150 n) s (f_law n.toNatClampNeg s)).2 := by
  refine sOk_qN h (fun c => sOk_fTxt h (fun t e => ?_))
  obtain ⟨k, k1, _, rfl⟩ := okN_n h c
  rw [nI_clamp (by omega)] at e ⊢
  obtain ⟨_, lch⟩ := plaw_ok k1 e
  obtain ⟨h1, h2, h3, h4, h5, h6, h7⟩ := h
  exact ⟨Nat.zero_le _, h2, h3, lev_ok lch, h5, h6, h7⟩
theorem sOk_book {n : Int32} (h : sOk s) : sOk (qN (okN s 60 n) s (f_book n.toNatClampNeg s)).2 := by
  refine sOk_qN h (fun c => sOk_fTxt h (fun t e => ?_))
  obtain ⟨h1, h2, h3, h4, h5, h6, h7⟩ := h
  exact ⟨Nat.zero_le _, h2, h3, h4, pbook_ok (fun u hu => by cases hu; exact (sk_P (Nat.zero_le _)).1.1) e, h6, h7⟩
theorem sOk_work {n : Int32} (h : sOk s) : sOk (qN (okN s 150 n) s (f_work n.toNatClampNeg s)).2 := by
  refine sOk_qN h (fun c => ?_)
  unfold f_work
  by_cases h16 : (sU s).1 = 16
  · rw [if_pos h16]; exact sOk_flt h
  · rw [if_neg h16]
    refine sOk_fTxt h (fun t e => ?_)
    have hok := wRes_ok h (z := (pwork (sB s) n.toNatClampNeg (sN s) (.inr (sk (sB s) n.toNatClampNeg 0))).1) (pwork_ok e).2
    obtain ⟨h1, h2, h3, h4, h5, h6, h7⟩ := h
    refine ⟨Nat.zero_le _, h2, ⟨hok.1, hok.2.1⟩, h4, h5, ⟨by have := h6.1; show (sU s).1 + 1 ≤ 16; omega, fun i hi => ?_⟩, h7⟩
    have hi : i < (sU s).1 + 1 := hi
    show wOk (sN s) (if i = (sU s).1 then sW s else (sU s).2 i) ∧ wYok (if i = (sU s).1 then sW s else (sU s).2 i)
    by_cases he : i = (sU s).1
    · rw [if_pos he]; exact h3
    · rw [if_neg he]; exact h6.2 i (by omega)
end KEEP
