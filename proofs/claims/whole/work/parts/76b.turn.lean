/-! ===== calls: turn, the reference ===== -/
section TUR
variable {s : ST} {d : Nat} {Q : gQ} {X : gX} {H : gH} {x : Nat} {P : Nat → Nat} {I A : Nat → Nat → Int32} {m : Int32}
theorem rs_partyOf (hs : sOk s) (h18 : rW (sN s) (A 18) = sW s) {t : Nat} (ht : t < sN s) (h : Q (some (.int (tS s t))) (gset H x mck P I A)) : meth (d + 2) m_R_partyOf [.ref (x + 0), .int (nI t)] (gset H x mck P I A) Q X := by
  have h8 : sN s ≤ 8 := hs.2.1.1
  refine sp_R_partyOf (by omega) ?_
  unfold tS at h
  rw [rw_V h18 ht, rw_B h18 ht] at h
  exact h
theorem neg_add_n {a b : Nat} (h : b ≤ a) : nI a + -nI b = nI (a - b) := by rw [← Int32.sub_eq_add_neg]; exact nI_sub h
theorem rs_turnsOf (hs : sOk s) (h18 : rW (sN s) (A 18) = sW s) {p : Nat} (hp : p ≤ 1) {t : Nat} (ht : t < sN s) (h : Q (some (.int (nI (tc s p t)))) (gset H x mck P I A)) : meth (d + 2) m_R_turnsOf [.ref (x + 0), .int (nI t), .int (nI p)] (gset H x mck P I A) Q X := by
  have hm := @mo_R_turnsOf (meth (d + 1)) (meth_smono (d + 1))
  have h8 : sN s ≤ 8 := hs.2.1.1
  have ev := vN_ok hs ht
  have eb := bN_ok hs ht
  have htc := tc_le hs (p := p) ht
  rw [rw_V h18 ht] at ev
  rw [rw_B h18 ht] at eb
  have p0 : nI p = 0 ↔ p = 0 := nI_eq (b := 0) (by omega) (by omega)
  have key : ∀ i, i ≤ tc s p t → gWp (gTab (tb_R_turnsOf (meth (d + 1)))) Q X 2 [some (.ref (x + 0)), some (.int (nI t)), some (.int (nI p)), some (.int (nI i))] [] (gset H x mck P I A) := by
    have step : ∀ i, i ≤ tc s p t → (fun (r : Prop) => r) (gWp (gTab (tb_R_turnsOf (meth (d + 1)))) Q X 33 [some (.ref (x + 0)), some (.int (nI t)), some (.int (nI p)), some (.int (nI i))] [.int (if p = 0 then fside (nI (bN s t + i)) (nI (vN s t)) else fside (nI (bN s t - i)) (nI (vN s t)))] (gset H x mck P I A)) → gWp (gTab (tb_R_turnsOf (meth (d + 1)))) Q X 2 [some (.ref (x + 0)), some (.int (nI t)), some (.int (nI p)), some (.int (nI i))] [] (gset H x mck P I A) := by
      intro i hi hk
      refine wb_R_turnsOf_2 hm ?_
      rw [n_z, n_8, nI_clamp (by omega), nI_clamp (by omega), ev.1, eb.1, p0]
      refine ⟨vp_in_nI (by omega) (by omega), vp_in_nI (by omega) (by omega), fun q => wb_R_turnsOf_29 hm ?_, fun q => wb_R_turnsOf_29 hm ?_⟩
      · have hib : i ≤ bN s t := by
          unfold tc at hi
          rw [if_neg q] at hi
          omega
        rw [neg_add_n hib]
        refine sp_R_goesTo ?_
        rw [if_neg q] at hk
        exact hk
      · rw [show nI (bN s t) + nI i = nI (bN s t + i) from nI_add _ _]
        refine sp_R_goesTo ?_
        rw [if_pos (Classical.not_not.mp q)] at hk
        exact hk
    have test : ∀ i, i ≤ tc s p t → ((if p = 0 then fside (nI (bN s t + i)) (nI (vN s t)) else fside (nI (bN s t - i)) (nI (vN s t))) = nI p ↔ i = tc s p t) := by
      intro i hi
      rcases (show p = 0 ∨ p = 1 by omega) with e | e
      · rw [if_pos e]
        rw [e] at hi htc ⊢
        have := fside_p (b := bN s t + i) (v := vN s t) (p := 0) (by omega) (by omega) (by omega)
        rw [if_pos rfl] at this
        rw [this]
        unfold tc at hi ⊢
        rw [if_pos rfl] at hi ⊢
        omega
      · rw [if_neg (by omega)]
        rw [e] at hi ⊢
        have := fside_p (b := bN s t - i) (v := vN s t) (p := 1) (by omega) (by omega) (by omega)
        rw [if_neg (show ¬ (1 : Nat) = 0 by decide)] at this
        rw [this]
        unfold tc at hi ⊢
        rw [if_neg (show ¬ (1 : Nat) = 0 by decide)] at hi ⊢
        omega
    refine gdown ?_ ?_
    · exact step _ (Nat.le_refl _) (wb_R_turnsOf_33 hm ⟨fun _ => h, fun c => absurd ((test _ (Nat.le_refl _)).mpr rfl) c⟩)
    · intro i hi ih
      refine step i (by omega) (wb_R_turnsOf_33 hm ⟨fun c => absurd ((test i (by omega)).mp c) (by omega), fun _ => ?_⟩)
      rw [nI_1]
      exact ih
  exact me_R_turnsOf (wb_R_turnsOf_0 hm (key 0 (Nat.zero_le _)))
end TUR
section CA23
variable {s : ST}
def tFl (s : ST) (p : Nat) (m : Int32) (t : Nat) : Bool := decide (∀ u, u < t → bt m u = true → tS s u ≠ nI p)
theorem tFl_s {s : ST} {p : Nat} {m : Int32} {t : Nat} : tFl s p m (t + 1) = (tFl s p m t && !(bt m t && decide (tS s t = nI p))) := by
  unfold tFl
  by_cases h : ∀ u, u < t → bt m u = true → tS s u ≠ nI p
  · rw [decide_eq_true h, Bool.true_and]
    cases hb : bt m t
    · refine (decide_eq_true (fun u hu hbu => ?_)).trans (by simp)
      by_cases he : u = t
      · rw [he, hb] at hbu; cases hbu
      · exact h u (by omega) hbu
    · by_cases hS : tS s t = nI p
      · rw [decide_eq_true hS]
        exact decide_eq_false (fun q => q t (by omega) hb hS)
      · rw [decide_eq_false hS]
        refine (decide_eq_true (fun u hu hbu => ?_)).trans (by simp)
        by_cases he : u = t
        · rw [he]; exact hS
        · exact h u (by omega) hbu
  · rw [decide_eq_false h, Bool.false_and]
    exact decide_eq_false (fun q => h (fun u hu => q u (by omega)))
set_option maxHeartbeats 2000000 in
theorem R_turn (hs : sOk s) {p a : Int32} : rCall m_R_turn [.int p, .int a] kA (.int 0) (q1 (inR p 0 1 && inR a 0 1) s (f_turn p.toNatClampNeg a s)) s := by
  intro d Q X H x P I A hr h
  have hm := @mo_R_turn (meth (d + 59)) (meth_smono (d + 59))
  have h8 : sN s ≤ 8 := hs.2.1.1
  obtain ⟨p1, p2⟩ := p256 hs
  have no : (inR p 0 1 && inR a 0 1) = false → gWp (gTab (tb_R_turn (meth (d + 59)))) Q X 28 [some (.ref (x + 0)), some (.int p), some (.int a), none, none, none, none, none, none, none, none, none] [.ref (x + 0)] (gset H x mck P (upI I 0 0 0) A) := fun hf => by
    rw [q1_f hf] at h
    exact wb_R_turn_28 hm (wb_R_turn_29 hm (sp_R_may (c := false) (kind := 1) (code := 1) upI_s (by omega) (by omega) (rRep_0 hr) (fun q => by cases q) (fun _ I' A' r' e => wb_R_turn_34 hm ⟨fun q => absurd rfl q, fun _ => h I' A' _ r' ⟨e, rfl⟩⟩)))
  refine me_R_turn (wb_R_turn_0 hm (sp_R_within (wb_R_turn_12 hm ⟨fun c1 => no (by rw [b_i00 c1]; rfl), fun c1 => sp_R_within (wb_R_turn_21 hm ⟨fun c2 => no (by rw [b_i01 c1, b_i00 c2]; rfl), fun c2 => wb_R_turn_29 hm (sp_R_may (c := true) (kind := 1) (code := 1) upI_s (by omega) (by omega) (rRep_0 hr) (fun _ => wb_R_turn_34 hm ⟨fun _ => rs_take (rRep_0 hr) h8 (fun A' f r' e18 => wb_R_turn_43 hm ?_), fun q => absurd (by decide) q⟩) (fun q => by cases q))⟩)⟩)))
  rw [q1_t (by rw [b_i01 c1, b_i01 c2]; rfl)] at h
  have h := fun v => h _ A' v r'
  have i00 : upI I 0 0 0 0 0 = 0 := upI_s
  have eN : upI I 0 0 0 0 19 = nI (sN s) := r'.2.1.1
  generalize upI I 0 0 0 = J at r' h i00 eN ⊢
  clear no
  obtain ⟨k, hk, rfl⟩ := inR_n (m := 1) (by omega) (b_i01 c1)
  rw [nI_clamp (by omega)] at h
  unfold f_turn at h
  have shl : ∀ k, k < 9 → (1 : Int32) <<< (nI k &&& 31) = nI (2 ^ k) := by decide +kernel
  have fin : ∀ v5, gWp (gTab (tb_R_turn (meth (d + 59)))) Q X 269 [some (.ref (x + 0)), some (.int (nI k)), some (.int a), some (.int (tAcc s k (2 ^ sN s)).1), some (.int (tAcc s k (2 ^ sN s)).2), some (.int v5), none, none, none, none, none, none] [] (gset H x mck P J A') := by
    intro v5
    refine wb_R_turn_269 hm ⟨fun q => wb_R_turn_279 hm (h _ ⟨i00, ?_⟩), fun q => wb_R_turn_279 hm (h _ ⟨i00, ?_⟩)⟩
    · rw [if_neg q]
    · rw [if_pos (Classical.not_not.mp q)]
  by_cases hN0 : sN s = 0
  · have e0 : tAcc s k (2 ^ sN s) = (-1, -1) := by
      rw [hN0]
      show tAcc s k 1 = _
      rw [tAcc, if_neg (fun q => ?_)]
      · rfl
      · have q1 := q.1
        unfold tOk at q1
        rw [decide_eq_true_eq, hN0] at q1
        exact q1.2 (Int32.le_refl _)
    rw [e0] at fin
    refine wb_R_turn_51 hm ?_
    rw [eN, hN0]
    exact ⟨fun _ => fin _, fun _ => ⟨fun _ => fin _, fun c => absurd (by decide) c⟩⟩
  have masks : ∀ i, i ≤ 2 ^ sN s → gWp (gTab (tb_R_turn (meth (d + 59)))) Q X 51 [some (.ref (x + 0)), some (.int (nI k)), some (.int a), some (.int (tAcc s k i).1), some (.int (tAcc s k i).2), some (.int (nI i)), none, none, none, none, none, none] [] (gset H x mck P J A') := by
    refine gdown ?_ ?_
    · refine wb_R_turn_51 hm ?_
      rw [eN, shl _ (by omega)]
      exact ⟨fun _ => fin _, fun c => absurd (nI_le (Nat.le_refl _) (by omega)) c⟩
    · intro i hi ih
      rw [← nI_1] at ih
      have skip : ¬ (tOk s k (nI i) = true ∧ ((tAcc s k i).1 = -1 ∨ nI (mc s k (nI i) (sN s)) < (tAcc s k i).2)) → ∀ v6 v7 v8 v9 v10, gWp (gTab (tb_R_turn (meth (d + 59)))) Q X 263 [some (.ref (x + 0)), some (.int (nI k)), some (.int a), some (.int (tAcc s k i).1), some (.int (tAcc s k i).2), some (.int (nI i)), some (.int v6), some (.int v7), some (.int v8), some (.int v9), some (.int v10), none] [] (gset H x mck P J A') := fun q v6 v7 v8 v9 v10 => by
        rw [tAcc, if_neg q] at ih
        exact wb_R_turn_263 hm ih
      have take : (tOk s k (nI i) = true ∧ ((tAcc s k i).1 = -1 ∨ nI (mc s k (nI i) (sN s)) < (tAcc s k i).2)) → ∀ v7 v8 v9 v10, gWp (gTab (tb_R_turn (meth (d + 59)))) Q X 256 [some (.ref (x + 0)), some (.int (nI k)), some (.int a), some (.int (tAcc s k i).1), some (.int (tAcc s k i).2), some (.int (nI i)), some (.int (nI (mc s k (nI i) (sN s)))), some (.int v7), some (.int v8), some (.int v9), some (.int v10), none] [] (gset H x mck P J A') := fun q v7 v8 v9 v10 => by
        rw [tAcc, if_pos q] at ih
        exact wb_R_turn_256 hm (wb_R_turn_263 hm ih)
      refine wb_R_turn_51 hm ?_
      rw [eN, shl _ (by omega)]
      refine ⟨fun c => absurd c (nI_ge hi (by omega)), fun _ => ⟨fun c => ?_, fun _ => ?_⟩⟩
      · rw [show (0 : Int32) = nI 0 from rfl, nI_leI (by omega) (by omega)] at c; omega
      have towns : ∀ t, t ≤ sN s → gWp (gTab (tb_R_turn (meth (d + 59)))) Q X 84 [some (.ref (x + 0)), some (.int (nI k)), some (.int a), some (.int (tAcc s k i).1), some (.int (tAcc s k i).2), some (.int (nI i)), some (.int (nI (mc s k (nI i) t))), some (.int (sp1 s k (nI i) t)), some (.int (sp2 s k (nI i) t)), some (.int (i01 (tFl s k (nI i) t))), some (.int (nI t)), none] [] (gset H x mck P J A') := by
        refine gdown ?_ ?_
        · refine wb_R_turn_84 hm ?_
          rw [eN]
          refine ⟨fun _ => ⟨fun c => skip (fun q => ?_) _ _ _ _ _, fun c => ⟨fun c2 => skip (fun q => ?_) _ _ _ _ _, fun c2 => ?_⟩⟩, fun c => absurd (nI_le (Nat.le_refl _) (by omega)) c⟩
          · have hf := b_i00 c
            unfold tFl at hf
            rw [decide_eq_false_iff_not] at hf
            have q1 := q.1
            unfold tOk at q1
            rw [decide_eq_true_eq] at q1
            exact hf q1.1
          · have q1 := q.1
            unfold tOk at q1
            rw [decide_eq_true_eq] at q1
            exact q1.2 c2
          · have hf := b_i01 c
            unfold tFl at hf
            rw [decide_eq_true_eq] at hf
            have ok : tOk s k (nI i) = true := by unfold tOk; exact decide_eq_true ⟨hf, c2⟩
            exact ⟨fun c3 => take ⟨ok, Or.inl c3⟩ _ _ _ _, fun c3 => ⟨fun c4 => take ⟨ok, Or.inr c4⟩ _ _ _ _, fun c4 => skip (fun q => q.2.elim c3 c4) _ _ _ _ _⟩⟩
        · intro t ht iht
          rw [← nI_1, mc, tFl_s] at iht
          unfold sp1 sp2 at iht
          rw [fsum, fsum] at iht
          have iht : gWp (gTab (tb_R_turn (meth (d + 59)))) Q X 84 [some (.ref (x + 0)), some (.int (nI k)), some (.int a), some (.int (tAcc s k i).1), some (.int (tAcc s k i).2), some (.int (nI i)), some (.int (nI (mc s k (nI i) t + (if bt (nI i) t = true then tc s k t else 0)))), some (.int (sp1 s k (nI i) t + (if bt (nI i) t = true ∨ tS s t = nI k then sC s t else 0))), some (.int (sp2 s k (nI i) t + (if bt (nI i) t = false ∧ tS s t = nI (1 - k) then sC s t else 0))), some (.int (i01 (tFl s k (nI i) t && !(bt (nI i) t && decide (tS s t = nI k))))), some (.int (nI t + 1)), none] [] (gset H x mck P J A') := iht
          have iv : vp_in (nI t) 8 := vp_in_nI (by omega) (by omega)
          have eC : A' 7 t = sC s t := r'.2.1.2.2.1 t ht
          have sub1 : (1 : Int32) - nI k = nI (1 - k) := nI_sub (a := 1) hk
          generalize hfl : tFl s k (nI i) t = fl at iht ⊢
          generalize mc s k (nI i) t = M at iht ⊢
          generalize sp1 s k (nI i) t = S1 at iht ⊢
          generalize sp2 s k (nI i) t = S2 at iht ⊢
          generalize tAcc s k i = T at iht ⊢
          refine wb_R_turn_84 hm ?_
          rw [eN, b_at1 (by omega)]
          refine ⟨fun c => absurd c (nI_ge ht (by omega)), fun _ => ⟨fun hb => ?_, fun hb => ?_⟩⟩
          · -- the town isn't in the set
            have hb : bt (nI i) t = false := by cases hx : bt (nI i) t with | true => exact absurd hx hb | false => rfl
            rw [hb, if_neg (by decide), Bool.false_and, Bool.not_false, Bool.and_true] at iht
            have z : nI (M + 0) = nI M + 0 := (nI_add M 0).symm
            rw [z] at iht
            -- from 156, flag set
            have g136 : ∀ v : Int32, v = i01 fl → gWp (gTab (tb_R_turn (meth (d + 59)))) Q X 136 [some (.ref (x + 0)), some (.int (nI k)), some (.int a), some (.int T.1), some (.int T.2), some (.int (nI i)), some (.int (nI M)), some (.int S1), some (.int S2), some (.int (i01 fl)), some (.int (nI t)), some (.int 0)] [.int v] (gset H x mck P J A') := by
              intro v hv
              rw [← hv] at iht
              refine wb_R_turn_136 hm ⟨fun _ => wb_R_turn_156 hm ⟨fun q => absurd rfl q, fun _ => rs_partyOf hs e18 ht (wb_R_turn_172 hm ?_)⟩, fun q => absurd rfl q⟩
              refine ⟨fun c => wb_R_turn_187 hm ⟨fun q => absurd rfl q, fun _ => rs_partyOf hs e18 ht (wb_R_turn_203 hm ?_)⟩, fun c => wb_R_turn_176 hm ⟨iv, wb_R_turn_187 hm ⟨fun q => absurd rfl q, fun _ => rs_partyOf hs e18 ht (wb_R_turn_203 hm ?_)⟩⟩⟩
              · rw [if_neg (fun q => q.elim (fun q => by cases q) c)] at iht
                rw [sub1, nI_clamp (by omega), eC]
                refine ⟨fun c2 => wb_R_turn_219 hm (wb_R_turn_220 hm ?_), fun c2 => ⟨iv, wb_R_turn_220 hm ?_⟩⟩
                · rw [if_neg (fun q => c2 q.2)] at iht; exact iht
                · rw [if_pos ⟨rfl, Classical.not_not.mp c2⟩] at iht; exact iht
              · rw [if_pos (Or.inr (Classical.not_not.mp c))] at iht
                rw [sub1, nI_clamp (by omega), eC]
                refine ⟨fun c2 => wb_R_turn_219 hm (wb_R_turn_220 hm ?_), fun c2 => ⟨iv, wb_R_turn_220 hm ?_⟩⟩
                · rw [if_neg (fun q => c2 q.2)] at iht; exact iht
                · rw [if_pos ⟨rfl, Classical.not_not.mp c2⟩] at iht; exact iht
            refine wb_R_turn_109 hm ⟨fun c => wb_R_turn_135 hm (g136 0 c.symm), fun c => ⟨fun _ => wb_R_turn_131 hm (g136 1 ?_), fun q => absurd rfl q⟩⟩
            rw [b_i01 c]; rfl
          · have hb := Classical.not_not.mp hb
            rw [hb, if_pos rfl, if_pos (Or.inl rfl), if_neg (fun q => by cases q.1), Bool.true_and] at iht
            rw [show nI (M + tc s k t) = nI M + nI (tc s k t) from (nI_add _ _).symm] at iht
            have g136 : ∀ v : Int32, v = i01 (fl && !decide (tS s t = nI k)) → gWp (gTab (tb_R_turn (meth (d + 59)))) Q X 136 [some (.ref (x + 0)), some (.int (nI k)), some (.int a), some (.int T.1), some (.int T.2), some (.int (nI i)), some (.int (nI M)), some (.int S1), some (.int S2), some (.int (i01 fl)), some (.int (nI t)), some (.int 1)] [.int v] (gset H x mck P J A') := by
              intro v hv
              rw [← hv] at iht
              refine wb_R_turn_136 hm ⟨fun q => absurd q (by decide), fun _ => rs_turnsOf hs e18 hk ht (wb_R_turn_152 hm (wb_R_turn_156 hm ⟨fun _ => wb_R_turn_176 hm ⟨iv, wb_R_turn_187 hm ⟨fun _ => wb_R_turn_219 hm (wb_R_turn_220 hm ?_), fun q => absurd (by decide) q⟩⟩, fun q => absurd (by decide) q⟩))⟩
              rw [nI_clamp (by omega), eC]
              exact iht
            refine wb_R_turn_109 hm ⟨fun c => wb_R_turn_135 hm (g136 0 ?_), fun c => ⟨fun q => absurd q (by decide), fun _ => rs_partyOf hs e18 ht (wb_R_turn_127 hm ⟨fun c2 => wb_R_turn_135 hm (g136 0 ?_), fun c2 => wb_R_turn_131 hm (g136 1 ?_)⟩)⟩⟩
            · rw [b_i00 c]; rfl
            · rw [decide_eq_true c2, Bool.not_true, Bool.and_false]; rfl
            · rw [decide_eq_false c2, b_i01 c]; rfl
      exact towns 0 (Nat.zero_le _)
  exact masks 0 (Nat.zero_le _)
end CA23
