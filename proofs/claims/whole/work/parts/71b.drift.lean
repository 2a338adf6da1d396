/-! ===== calls: drift, look ===== -/
section DRR
variable {s : ST} {d : Nat} {Q : gQ} {X : gX} {H : gH} {x : Nat} {P : Nat → Nat} {I A : Nat → Nat → Int32}
theorem rs_driftTo (hs : sOk s) (hr : rRep s I A) {t : Nat} (ht : t < sN s) {v : Int32} (h : Q (some (.int (dSide s t v))) (gset H x mck P I A)) : meth (d + 2) m_R_driftTo [.ref (x + 0), .int (nI t), .int v] (gset H x mck P I A) Q X := by
  have hm := @mo_R_driftTo (meth (d + 1)) (meth_smono (d + 1))
  have h8 : sN s ≤ 8 := hs.2.1.1
  have hw := hr.2.2.1
  refine me_R_driftTo (wb_R_driftTo_0 hm ?_)
  rw [Int32.zero_add, n_8, nI_clamp (by omega), nI_clamp (by omega)]
  refine ⟨vp_in_nI (by omega) (by omega), vp_in_nI (by omega) (by omega), vp_in_nI (by omega) (by omega), sp_R_held (wb_R_driftTo_30 hm (sp_R_goesTo (wb_R_driftTo_33 hm ?_)))⟩
  unfold dSide fhold at h
  rw [rw_V hw ht, rw_B hw ht] at h
  obtain ⟨vv, bb, v1, v9, _, ev, _⟩ := hs.2.2.1.1 t ht
  rw [rw_V hw ht] at ev
  rw [held_eq (by rw [ev]; exact nI_le (a := 0) (by omega) (by omega))]
  exact h
theorem rs_isDrift (hs : sOk s) (hr : rRep s I A) {v : Int32} (h : Q (some (.int (i01 (dFit s v)))) (gset H x mck P I A)) : meth (d + 3) m_R_isDrift [.ref (x + 0), .int v] (gset H x mck P I A) Q X := by
  have hm := @mo_R_isDrift (meth (d + 2)) (meth_smono (d + 2))
  have h8 : sN s ≤ 8 := hs.2.1.1
  have eN : I 0 19 = nI (sN s) := hr.2.1.1
  have eK := hr.2.2.2.2.1.2
  have key : ∀ k, k ≤ sN s → (∀ t, t < k → (sK s).2 t = -1 ∨ dSide s t v = (sK s).2 t) → gWp (gTab (tb_R_isDrift (meth (d + 2)))) Q X 2 [some (.ref (x + 0)), some (.int v), some (.int (nI k))] [] (gset H x mck P I A) := by
    refine gdown ?_ ?_
    · intro e
      refine wb_R_isDrift_2 hm ⟨fun _ => ⟨rfl, ?_⟩, fun c => absurd (by rw [eN]; exact nI_le (Nat.le_refl _) (by omega)) c⟩
      unfold dFit at h
      rw [decide_eq_true e] at h
      exact h
    · intro k hk ih e
      refine wb_R_isDrift_2 hm ⟨fun c => absurd c (by rw [eN]; exact nI_ge hk (by omega)), fun _ => ⟨vp_in_nI (by omega) (by omega), ?_⟩⟩
      rw [nI_clamp (by omega), eK k (by omega)]
      refine ⟨fun c => wb_R_isDrift_37 hm ?_, fun c => rs_driftTo hs hr hk (wb_R_isDrift_26 hm ⟨vp_in_nI (by omega) (by omega), ?_⟩)⟩
      · rw [nI_1]
        exact ih (fun t ht => if he : t = k then Or.inl (by rw [he]; exact c) else e t (by omega))
      · rw [nI_clamp (by omega), eK k (by omega)]
        refine ⟨fun c2 => wb_R_isDrift_37 hm ?_, fun c2 => ⟨rfl, ?_⟩⟩
        · rw [nI_1]
          exact ih (fun t ht => if he : t = k then Or.inr (by rw [he]; exact c2) else e t (by omega))
        · unfold dFit at h
          rw [decide_eq_false (fun q => (q k hk).elim c c2)] at h
          exact h
  exact me_R_isDrift (wb_R_isDrift_0 hm (key 0 (Nat.zero_le _) (fun t ht => absurd ht (Nat.not_lt_zero t))))
end DRR
section CA15
variable {s : ST}
def f_drift (a : Int32) (s : ST) : Int32 := if a = 0 then (dAcc s 81).1 else if a = 1 then (dAcc s 81).2.1 else (dAcc s 81).2.2
theorem C_drift (hs : sOk s) {a : Int32} : cCall m_S_drift [.int a] (q1 (inR a 0 2) s (f_drift a s)) s := by
  intro d Q X H x P I A hr h
  have hm := @mo_S_drift (meth (d + 59)) (meth_smono (d + 59))
  refine me_S_drift (wb_S_drift_0 hm (sp_S_within (wb_S_drift_7 hm (sp_S_need hr (fun c => wb_S_drift_10 hm (pOk_7 hr.1) (cs_measure hs hr (fun I' A' r' m => wb_S_drift_25 hm (pOk_7 hr.1) ?_))) (fun c I' r' => ?_)))))
  · rw [q1_t c] at h
    have h := h P I' A' r'
    unfold f_drift at h
    obtain ⟨e4, e5, e6, _⟩ := m
    rw [e4, e5, e6]
    refine ⟨fun c1 => ⟨fun c2 => wb_S_drift_59 hm ?_, fun c2 => wb_S_drift_59 hm ?_⟩, fun c1 => ?_⟩
    · rw [if_neg c1, if_neg c2] at h; exact h
    · rw [if_neg c1, if_pos (Classical.not_not.mp c2)] at h; exact h
    · rw [if_pos (Classical.not_not.mp c1)] at h; exact h
  · rw [q1_f c] at h; exact h P I' A r'
theorem R_drift (hs : sOk s) {a : Int32} : rCall m_R_drift [.int a] kA (.int 0) (q1 (inR a 0 2) s (f_drift a s)) s := by
  intro d Q X H x P I A hr h
  have hm := @mo_R_drift (meth (d + 59)) (meth_smono (d + 59))
  refine me_R_drift (wb_R_drift_0 hm (sp_R_within (wb_R_drift_12 hm (sp_R_may (kind := 1) (code := 1) upI_s (by omega) (by omega) (rRep_0 hr) (fun c => wb_R_drift_17 hm ⟨fun _ => ?_, fun q => absurd (by decide) q⟩) (fun c I' A' r' e => wb_R_drift_17 hm ⟨fun q => absurd rfl q, fun _ => ?_⟩)))))
  · rw [q1_t c] at h
    have h := fun v => h _ A v (rRep_0 (a := 0) hr)
    unfold f_drift at h
    have loop : ∀ j, j ≤ 81 → gWp (gTab (tb_R_drift (meth (d + 59)))) Q X 35 [some (.ref (x + 0)), some (.int a), some (.int (dAcc s j).1), some (.int (dAcc s j).2.1), some (.int (dAcc s j).2.2), some (.int (mJ j))] [] (gset H x mck P (upI I 0 0 0) A) := by
      refine gdown ?_ ?_
      · refine wb_R_drift_35 hm ⟨fun _ => ⟨fun c1 => ⟨fun c2 => wb_R_drift_97 hm (h _ ⟨upI_s, ?_⟩), fun c2 => wb_R_drift_97 hm (h _ ⟨upI_s, ?_⟩)⟩, fun c1 => wb_R_drift_97 hm (h _ ⟨upI_s, ?_⟩)⟩, fun c => absurd ((mJ_81 81 (by omega)).mpr rfl) c⟩
        · rw [if_neg c1, if_neg c2]
        · rw [if_neg c1, if_pos (Classical.not_not.mp c2)]
        · rw [if_pos (Classical.not_not.mp c1)]
      · intro j hj ih
        rw [← mJ_1 j hj] at ih
        refine wb_R_drift_35 hm ⟨fun c => absurd ((mJ_81 j (by omega)).mp c) (by omega), fun _ => rs_isDrift hs (rRep_0 hr) (wb_R_drift_48 hm ⟨fun c1 => ?_, fun c1 => wb_R_drift_72 hm ?_⟩)⟩
        · have hf := b_i01 c1
          rw [dAcc, if_pos hf] at ih
          dsimp only at ih
          refine ⟨fun c2 => wb_R_drift_64 hm (wb_R_drift_72 hm ?_), fun c2 => wb_R_drift_64 hm (wb_R_drift_72 hm ?_)⟩
          · rw [if_neg c2] at ih; exact ih
          · rw [if_pos (Classical.not_not.mp c2)] at ih; exact ih
        · have hf := b_i00 (Classical.not_not.mp c1)
          rw [dAcc, if_neg (by rw [hf]; decide)] at ih
          exact ih
    exact loop 0 (Nat.zero_le _)
  · rw [q1_f c] at h; exact h I' A' _ r' ⟨e, rfl⟩
-- look
def dNext (s : ST) : Nat → Int32 × Int32
  | 0 => (-1, -1)
  | t + 1 => if (sK s).2 t = -1 ∧ ((dNext s t).1 = -1 ∨ nI (dW s t) < (dNext s t).2) then (nI t, nI (dW s t)) else dNext s t
theorem dNext_ok {s : ST} : ∀ k, k < 2 ^ 31 → (dNext s k = (-1, -1)) ∨ ∃ t, t < k ∧ dNext s k = (nI t, nI (dW s t))
  | 0, _ => Or.inl rfl
  | k + 1, hk => by
    rw [dNext]
    by_cases h : (sK s).2 k = -1 ∧ ((dNext s k).1 = -1 ∨ nI (dW s k) < (dNext s k).2)
    · rw [if_pos h]; exact Or.inr ⟨k, by omega, rfl⟩
    · rw [if_neg h]
      rcases dNext_ok (s := s) k (by omega) with e | ⟨t, ht, e⟩
      · exact Or.inl e
      · exact Or.inr ⟨t, by omega, e⟩
def f_look (a : Int32) (s : ST) : Int32 := if a = 0 then (dNext s (sN s)).1 else (dNext s (sN s)).2
theorem cs_worst {d : Nat} {Q : gQ} {X : gX} {H : gH} {x : Nat} {P : Nat → Nat} {I A : Nat → Nat → Int32} (hs : sOk s) (hr : cRep s P I A) (hd : dMem s (P 7) 81 I A) {t : Nat} (ht : t < sN s) (h : Q (some (.int (nI (dW s t)))) (gset H x cck P I A)) : meth (d + 1) m_Book_worst [.ref (x + P 7), .int (nI t)] (gset H x cck P I A) Q X := by
  have hm := @mo_Book_worst (meth d) (meth_smono d)
  have h8 : sN s ≤ 8 := hs.2.1.1
  have e := hd.2.2.2 t ht
  have l : ∀ p, dT s t p 81 ≤ 81 := fun p => dT_le 81
  have l0 := l 0
  have l1 := l 1
  have l2 := l 2
  refine me_Book_worst (wb_Book_worst_0 hm (pOk_7 hr.1) ?_)
  rw [nI_3, nI_1, show nI (3 * t) + 2 = nI (3 * t + 2) from nI_add _ 2, nI_clamp (by omega), nI_clamp (by omega), nI_clamp (by omega), e 1 (by omega), e 2 (by omega), show A (P 7 + 2) (3 * t) = nI (dT s t 0 81) from e 0 (by omega), gmax_n (by omega) (by omega), gmax_n (by omega) (by omega)]
  exact ⟨vp_in_nI (by omega) (by omega), vp_in_nI (by omega) (by omega), vp_in_nI (by omega) (by omega), h⟩
theorem cs_nextTown {d : Nat} {Q : gQ} {X : gX} {H : gH} {x : Nat} {P : Nat → Nat} {I A : Nat → Nat → Int32} (hs : sOk s) (hr : cRep s P I A) (hd : dMem s (P 7) 81 I A) (h : Q (some (.int (dNext s (sN s)).1)) (gset H x cck P I A)) : meth (d + 2) m_Book_nextTown [.ref (x + P 7), .ref (x + P 1)] (gset H x cck P I A) Q X := by
  have hm := @mo_Book_nextTown (meth (d + 1)) (meth_smono (d + 1))
  have h8 : sN s ≤ 8 := hs.2.1.1
  have eN : I (P 1) 0 = nI (sN s) := hr.2.2.1.1
  have h7 := pOk_7 hr.1
  have h1 := pOk_1 hr.1
  have key : ∀ k, k ≤ sN s → gWp (gTab (tb_Book_nextTown (meth (d + 1)))) Q X 4 [some (.ref (x + P 7)), some (.ref (x + P 1)), some (.int (dNext s k).1), some (.int (nI k))] [] (gset H x cck P I A) := by
    refine gdown ?_ ?_
    · exact wb_Book_nextTown_4 hm h7 h1 ⟨fun _ => h, fun c => absurd (by rw [eN]; exact nI_le (Nat.le_refl _) (by omega)) c⟩
    · intro k hk ih
      rw [← nI_1] at ih
      have ha : ∀ v, (sK s).2 k = -1 ∧ ((dNext s k).1 = -1 ∨ nI (dW s k) < (dNext s k).2) → gWp (gTab (tb_Book_nextTown (meth (d + 1)))) Q X 38 [some (.ref (x + P 7)), some (.ref (x + P 1)), some (.int v), some (.int (nI k))] [] (gset H x cck P I A) := fun v c => by
        rw [dNext, if_pos c] at ih
        exact wb_Book_nextTown_38 hm (wb_Book_nextTown_40 hm ih)
      have hb : ¬ ((sK s).2 k = -1 ∧ ((dNext s k).1 = -1 ∨ nI (dW s k) < (dNext s k).2)) → gWp (gTab (tb_Book_nextTown (meth (d + 1)))) Q X 40 [some (.ref (x + P 7)), some (.ref (x + P 1)), some (.int (dNext s k).1), some (.int (nI k))] [] (gset H x cck P I A) := fun c => by
        rw [dNext, if_neg c] at ih
        exact wb_Book_nextTown_40 hm ih
      refine wb_Book_nextTown_4 hm h7 h1 ⟨fun c => absurd c (by rw [eN]; exact nI_ge hk (by omega)), fun _ => cs_holds hs hr hk (wb_Book_nextTown_17 hm h7 ⟨fun c => hb ?_, fun c => ?_⟩)⟩
      · have hz := b_i01 c
        rw [decide_eq_true_eq] at hz
        exact fun q => hz q.1
      · have hz := b_i00 (Classical.not_not.mp c)
        rw [decide_eq_false_iff_not, Classical.not_not] at hz
        refine ⟨fun c1 => ha _ ⟨hz, Or.inl c1⟩, fun c1 => ?_⟩
        rcases dNext_ok (s := s) k (by omega) with e | ⟨t, ht, e⟩
        · rw [e] at c1; exact absurd rfl c1
        · refine cs_worst hs hr hd hk (wb_Book_nextTown_30 hm h7 ?_)
          have e2 : (dNext s k).2 = nI (dW s t) := by rw [e]
          have e1 : (dNext s k).1 = nI t := by rw [e]
          have l1 := dW_le (s := s) (t := t)
          have l2 := dW_le (s := s) (t := k)
          have goal : gWp (gTab (tb_Book_nextTown (meth (d + 1)))) Q X 35 [some (.ref (x + P 7)), some (.ref (x + P 1)), some (.int (dNext s k).1), some (.int (nI k))] [.int (nI (dW s t)), .int (nI (dW s k))] (gset H x cck P I A) := by
            refine wb_Book_nextTown_35 hm ⟨fun c2 => hb (fun q => ?_), fun c2 => ha _ ⟨hz, Or.inr ?_⟩⟩
            · rcases q.2 with q | q
              · exact c1 q
              · rw [e2, nI_ltI (by omega) (by omega)] at q
                rw [nI_leI (by omega) (by omega)] at c2
                omega
            · rw [nI_leI (by omega) (by omega)] at c2
              rw [e2, nI_ltI (by omega) (by omega)]
              omega
          rw [e1] at goal ⊢
          exact cs_worst hs hr hd (by omega) goal
  exact me_Book_nextTown (wb_Book_nextTown_0 hm (key 0 (Nat.zero_le _)))
theorem C_look (hs : sOk s) {a : Int32} : cCall m_S_look [.int a] (q1 (inR a 0 1) s (f_look a s)) s := by
  intro d Q X H x P I A hr h
  have hm := @mo_S_look (meth (d + 59)) (meth_smono (d + 59))
  have h8 : sN s ≤ 8 := hs.2.1.1
  refine me_S_look (wb_S_look_0 hm (sp_S_within (wb_S_look_7 hm (sp_S_need hr (fun c => wb_S_look_10 hm (pOk_7 hr.1) (cs_measure hs hr (fun I' A' r' m => wb_S_look_25 hm (pOk_7 hr.1) (cs_nextTown hs r' m (wb_S_look_36 hm (pOk_7 hr.1) ?_))))) (fun c I' r' => ?_)))))
  · rw [q1_t c] at h
    have h := h P I' A' r'
    unfold f_look at h
    rcases dNext_ok (s := s) (sN s) (by omega) with e | ⟨t, ht, e⟩
    · rw [e] at h ⊢
      refine ⟨fun _ => wb_S_look_46 hm (wb_S_look_58 hm ?_), fun q => absurd rfl q⟩
      by_cases ha : a = 0
      · rw [if_pos ha] at h; exact h
      · rw [if_neg ha] at h; exact h
    · rw [e] at h ⊢
      refine ⟨fun q => absurd q (nI_nm1 (by omega)), fun _ => ⟨fun c1 => cs_worst hs r' m ht (wb_S_look_58 hm ?_), fun c1 => wb_S_look_46 hm (wb_S_look_58 hm ?_)⟩⟩
      · rw [if_neg c1] at h; exact h
      · rw [if_pos (Classical.not_not.mp c1)] at h; exact h
  · rw [q1_f c] at h; exact h P I' A r'
end CA15
