/-! ===== calls: look, the reference ===== -/
section CA16
variable {s : ST}
theorem rSp_25 : rSpA [25] := fun j hj q => by simp at q; omega
def dMx (s : ST) (t : Nat) : Nat → Nat
  | 0 => 0
  | p + 1 => max (dMx s t p) (dT s t p 81)
theorem dMx_le {s : ST} {t : Nat} : ∀ p, dMx s t p ≤ 81
  | 0 => Nat.zero_le _
  | p + 1 => by
    have := dMx_le (s := s) (t := t) p
    have := dT_le (s := s) (t := t) (p := p) 81
    unfold dMx; omega
theorem dMx_3 {s : ST} {t : Nat} : dMx s t 3 = dW s t := by
  show max (max (max 0 (dT s t 0 81)) (dT s t 1 81)) (dT s t 2 81) = dW s t
  unfold dW
  omega
theorem n2_lt : ∀ p, p < 3 → ¬ (2 : Int32) < nI p := by decide +kernel
theorem R_look (hs : sOk s) {a : Int32} : rCall m_R_look [.int a] kA (.int 0) (q1 (inR a 0 1) s (f_look a s)) s := by
  intro d Q X H x P I A hr h
  have hm := @mo_R_look (meth (d + 59)) (meth_smono (d + 59))
  have h8 : sN s ≤ 8 := hs.2.1.1
  refine me_R_look (wb_R_look_0 hm (sp_R_within (wb_R_look_12 hm (sp_R_may (kind := 1) (code := 1) upI_s (by omega) (by omega) (rRep_0 hr) (fun c => wb_R_look_17 hm ⟨fun _ => ?_, fun q => absurd (by decide) q⟩) (fun c I' A' r' e => wb_R_look_17 hm ⟨fun q => absurd rfl q, fun _ => ?_⟩)))))
  · rw [q1_t c] at h
    have eN : upI I 0 0 0 0 19 = nI (sN s) := by rw [upI_f (by decide)]; exact hr.2.1.1
    have rr : ∀ A', Fr [25] A A' → rRep s (upI I 0 0 0) A' := fun A' f => rRep_fr (rRep_0 hr) (fun _ _ => rfl) f rSp_25
    have h := fun A' f v => h _ A' v (rr A' f)
    unfold f_look at h
    have loop : ∀ k, k ≤ sN s → ∀ A1, Fr [25] A A1 → gWp (gTab (tb_R_look (meth (d + 59)))) Q X 29 [some (.ref (x + 0)), some (.int a), some (.int (dNext s k).1), some (.int (dNext s k).2), some (.int (nI k)), none, none] [] (gset H x mck P (upI I 0 0 0) A1) := by
      refine gdown ?_ ?_
      · intro A1 f1
        refine wb_R_look_29 hm ⟨fun _ => ⟨fun c1 => wb_R_look_197 hm (h A1 f1 _ ⟨upI_s, ?_⟩), fun c1 => wb_R_look_197 hm (h A1 f1 _ ⟨upI_s, ?_⟩)⟩, fun c => absurd (by rw [eN]; exact nI_le (Nat.le_refl _) (by omega)) c⟩
        · rw [if_neg c1]
        · rw [if_pos (Classical.not_not.mp c1)]
      · intro k hk ih A1 f1
        rw [← nI_1] at ih
        have hb : ∀ A2, Fr [25] A A2 → ¬ ((sK s).2 k = -1 ∧ ((dNext s k).1 = -1 ∨ nI (dW s k) < (dNext s k).2)) → gWp (gTab (tb_R_look (meth (d + 59)))) Q X 182 [some (.ref (x + 0)), some (.int a), some (.int (dNext s k).1), some (.int (dNext s k).2), some (.int (nI k)), none, none] [] (gset H x mck P (upI I 0 0 0) A2) := fun A2 f2 c => by
          have := ih A2 f2
          rw [dNext, if_neg c] at this
          exact wb_R_look_182 hm this
        have ha : ∀ A2 v6, Fr [25] A A2 → (sK s).2 k = -1 ∧ ((dNext s k).1 = -1 ∨ nI (dW s k) < (dNext s k).2) → gWp (gTab (tb_R_look (meth (d + 59)))) Q X 176 [some (.ref (x + 0)), some (.int a), some (.int (dNext s k).1), some (.int (dNext s k).2), some (.int (nI k)), some (.int (nI (dW s k))), some (.int v6)] [] (gset H x mck P (upI I 0 0 0) A2) := fun A2 v6 f2 c => by
          have := ih A2 f2
          rw [dNext, if_pos c] at this
          exact wb_R_look_176 hm (wb_R_look_182 hm this)
        refine wb_R_look_29 hm ⟨fun c => absurd c (by rw [eN]; exact nI_ge hk (by omega)), fun _ => ⟨vp_in_nI (by omega) (by omega), ?_⟩⟩
        rw [nI_clamp (by omega), (rr A1 f1).2.2.2.2.1.2 k (by omega)]
        refine ⟨fun hz => ?_, fun hz => hb A1 f1 (fun q => hz q.1)⟩
        -- the greatest
        have l124 : ∀ p, p ≤ 3 → ∀ A2, Fr [25] A A2 → (∀ p, p < 3 → A2 25 p = nI (dT s k p 81)) → gWp (gTab (tb_R_look (meth (d + 59)))) Q X 124 [some (.ref (x + 0)), some (.int a), some (.int (dNext s k).1), some (.int (dNext s k).2), some (.int (nI k)), some (.int (nI (dMx s k p))), some (.int (nI p))] [] (gset H x mck P (upI I 0 0 0) A2) := by
          refine gdown ?_ ?_
          · intro A2 f2 e2
            rw [dMx_3]
            refine wb_R_look_124 hm ⟨fun _ => ⟨fun c1 => ha A2 _ f2 ⟨hz, Or.inl c1⟩, fun c1 => ⟨fun c2 => ha A2 _ f2 ⟨hz, Or.inr c2⟩, fun c2 => hb A2 f2 (fun q => q.2.elim c1 c2)⟩⟩, fun q => absurd (by decide) q⟩
          · intro p hp ihp A2 f2 e2
            have l1 := dMx_le (s := s) (t := k) p
            have l2 := dT_le (s := s) (t := k) (p := p) 81
            have := ihp A2 f2 e2
            rw [← nI_1] at this
            refine wb_R_look_124 hm ⟨fun q => absurd q (n2_lt p hp), fun _ => ⟨vp_in_nI (by omega) (by omega), ?_⟩⟩
            rw [nI_clamp (by omega), e2 p hp, nI_leI (by omega) (by omega)]
            refine ⟨fun q => wb_R_look_154 hm ?_, fun q => ⟨vp_in_nI (by omega) (by omega), wb_R_look_154 hm ?_⟩⟩
            · rw [dMx, Nat.max_eq_left q] at this; exact this
            · rw [dMx, Nat.max_eq_right (by omega)] at this; exact this
        have l79 : ∀ j, j ≤ 81 → ∀ A2, Fr [25] A A2 → (∀ p, p < 3 → A2 25 p = nI (dT s k p j)) → gWp (gTab (tb_R_look (meth (d + 59)))) Q X 79 [some (.ref (x + 0)), some (.int a), some (.int (dNext s k).1), some (.int (dNext s k).2), some (.int (nI k)), some (.int (mJ j)), none] [] (gset H x mck P (upI I 0 0 0) A2) := by
          refine gdown ?_ ?_
          · intro A2 f2 e2
            exact wb_R_look_79 hm ⟨fun _ => l124 0 (Nat.zero_le _) A2 f2 e2, fun c => absurd ((mJ_81 81 (by omega)).mpr rfl) c⟩
          · intro j hj ihj A2 f2 e2
            refine wb_R_look_79 hm ⟨fun c => absurd ((mJ_81 j (by omega)).mp c) (by omega), fun _ => rs_isDrift hs (rr A2 f2) (wb_R_look_92 hm ⟨fun c1 => wb_R_look_112 hm ?_, fun c1 => rs_driftTo hs (rr A2 f2) hk (wb_R_look_107 hm ?_)⟩)⟩
            · have hf := b_i00 c1
              rw [mJ_1 j hj]
              refine ihj A2 f2 (fun p hp => ?_)
              rw [dT, if_neg (fun q => by rw [hf] at q; cases q.1)]
              exact e2 p hp
            · have hf := b_i01 c1
              obtain ⟨p0, hp0, ep⟩ := dSide_n (s := s) (t := k) (v := mJ j)
              rw [ep, nI_clamp (by omega), e2 p0 hp0, nI_1]
              refine ⟨vp_in_nI (by omega) (by omega), vp_in_nI (by omega) (by omega), wb_R_look_112 hm ?_⟩
              rw [mJ_1 j hj]
              refine ihj _ (fr_t f2 (fr_A fr_r (by simp))) (fun p hp => ?_)
              rw [upA_s]
              by_cases hpp : p = p0
              · subst hpp
                rw [upd_at, dT, if_pos ⟨hf, ep⟩]
              · have hne : ¬ (dFit s (mJ j) = true ∧ dSide s k (mJ j) = nI p) := fun q => hpp ((nI_eq (by omega) (by omega)).mp (q.2.symm.trans ep))
                rw [upd_ne hpp, e2 p hp, dT, if_neg hne]
        have l55 : ∀ p, p ≤ 3 → ∀ A2, Fr [25] A A2 → (∀ i, i < p → A2 25 i = 0) → gWp (gTab (tb_R_look (meth (d + 59)))) Q X 55 [some (.ref (x + 0)), some (.int a), some (.int (dNext s k).1), some (.int (dNext s k).2), some (.int (nI k)), some (.int (nI p)), none] [] (gset H x mck P (upI I 0 0 0) A2) := by
          refine gdown ?_ ?_
          · intro A2 f2 e2
            exact wb_R_look_55 hm ⟨fun _ => l79 0 (Nat.zero_le _) A2 f2 (fun p hp => by rw [e2 p hp]; rfl), fun q => absurd (by decide) q⟩
          · intro p hp ihp A2 f2 e2
            refine wb_R_look_55 hm ⟨fun q => absurd q (n2_lt p hp), fun _ => ⟨vp_in_nI (by omega) (by omega), ?_⟩⟩
            rw [nI_clamp (by omega), nI_1]
            refine ihp _ (fr_t f2 (fr_A fr_r (by simp))) (fun i hi => ?_)
            rw [upA_s]
            by_cases he : i = p
            · rw [he, upd_at]
            · rw [upd_ne he]; exact e2 i (by omega)
        exact l55 0 (Nat.zero_le _) A1 f1 (fun t ht => absurd ht (Nat.not_lt_zero t))
    exact loop 0 (Nat.zero_le _) A fr_r
  · rw [q1_f c] at h; exact h I' A' _ r' ⟨e, rfl⟩
end CA16
