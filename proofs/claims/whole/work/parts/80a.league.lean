/-! ===== calls: league ===== -/
def onN (m : Nat) : Nat := (oP 0 m 8).1
theorem on_fbc : ∀ m, m < 256 → fbc (nI m) = nI (onN m) := by decide +kernel
theorem on_le : ∀ n, n < 9 → ∀ m, m < 2 ^ n → onN m ≤ n := by decide +kernel
theorem on_1 : ∀ m, m < 256 → 0 < m → 1 ≤ onN m := by decide +kernel
theorem low_n : ∀ m, m < 256 → 0 < m → ∃ a, a < 8 ∧ fbc ((nI m &&& -nI m) - 1) = nI a ∧ bt (nI m) a = true := by decide +kernel
def cn (s : ST) (v : Int32) (a : Nat) : Prop := ∀ t, t < sN s → bt v t = true → Rch (edg s v (-1)) a t
def cand (s : ST) (m j : Nat) : Prop := nI j &&& nI m = nI m ∧ ∃ a, a < sN s ∧ bt (nI j) a = true ∧ cn s (nI j) a
def isB (s : ST) (m n b : Nat) : Prop := b < n ∧ cand s m b ∧ ∀ j, j < n → cand s m j → onN b < onN j ∨ (onN b = onN j ∧ b ≤ j)
noncomputable def lgR (s : ST) (m : Nat) : Int32 := @ite Int32 (∃ b, isB s m (2 ^ sN s) b) (Classical.propDecidable _) (nI (Classical.epsilon (isB s m (2 ^ sN s)))) (-1)
noncomputable def f_league (m : Nat) (s : ST) : Int32 := if m = 0 then 0 else lgR s m
section LEA
variable {s : ST}
theorem lgR_b {m b : Nat} (h : isB s m (2 ^ sN s) b) : lgR s m = nI b := by
  have he := Classical.epsilon_spec (p := isB s m (2 ^ sN s)) ⟨b, h⟩
  unfold lgR
  rw [if_pos ⟨b, h⟩]
  generalize Classical.epsilon (isB s m (2 ^ sN s)) = c at he ⊢
  have h1 := h.2.2 c he.1 he.2.1
  have h2 := he.2.2 b h.1 h.2.1
  congr 1
  omega
theorem lgR_0 {m : Nat} (h : ∀ j, j < 2 ^ sN s → ¬ cand s m j) : lgR s m = -1 := by
  unfold lgR
  rw [if_neg (fun ⟨b, hb⟩ => h b hb.1 hb.2.1)]
theorem bit_lt (hs : sOk s) {j a : Nat} (hj : j < 2 ^ sN s) (ha : a < 32) (hb : bt (nI j) a = true) : a < sN s := by
  rw [bt_nI ha] at hb
  refine Classical.byContradiction (fun hc => ?_)
  rw [Nat.testBit_lt_two_pow (Nat.lt_of_lt_of_le hj (Nat.pow_le_pow_right (by omega) (by omega)))] at hb
  cases hb
theorem cn_any {v : Int32} {a b : Nat} (ha : a < sN s) (hva : bt v a = true) (h : cn s v b) : cn s v a := fun t ht hb => Rch_tr (Rch_sy (fun _ _ => edg_sy) (h a ha hva)) (h t ht hb)
theorem cn_itr (hs : sOk s) {j a : Nat} (hj : j < 2 ^ sN s) (ha : a < sN s) (hb : bt (nI j) a = true) : itr s (nI j) (-1) a 8 = nI j ↔ cn s (nI j) a := by
  have h8 : sN s ≤ 8 := hs.2.1.1
  constructor
  · intro h t ht hbt
    rw [← h] at hbt
    exact (itr_8 hs ha (by omega)).mp hbt
  · intro h
    refine b_ext (fun i hi => ?_)
    cases hx : bt (nI j) i
    · cases hy : bt (itr s (nI j) (-1) a 8) i
      · rfl
      · have := Rch_in hb ((itr_8 hs ha hi).mp hy)
        rw [hx] at this; cases this
    · exact (itr_8 hs ha hi).mpr (h i (bit_lt hs hj hi hx) hx)
theorem cn_hI (hs : sOk s) {j a : Nat} (hj : j < 2 ^ sN s) (ha : a < sN s) (hb : bt (nI j) a = true) : hI s (nI j) a (sN s) = nI j ↔ cn s (nI j) a := by
  have h8 : sN s ≤ 8 := hs.2.1.1
  constructor
  · intro h t ht hbt
    rw [← h] at hbt
    exact (hI_N hs ha hb (by omega)).mp hbt
  · intro h
    refine b_ext (fun i hi => ?_)
    cases hx : bt (nI j) i
    · cases hy : bt (hI s (nI j) a (sN s)) i
      · rfl
      · have := Rch_in hb ((hI_N hs ha hb hi).mp hy)
        rw [hx] at this; cases this
    · exact (hI_N hs ha hb hi).mpr (h i (bit_lt hs hj hi hx) hx)
theorem and_sub {j m a : Nat} (h : nI j &&& nI m = nI m) (hb : bt (nI m) a = true) : bt (nI j) a = true := by
  rw [← h, b_and, Bool.and_eq_true] at hb
  exact hb.1
theorem cand_n0 (hs : sOk s) {m j : Nat} (hm : 0 < m) (hm2 : m < 256) (h : cand s m j) : 0 < j := by
  refine Classical.byContradiction (fun hc => ?_)
  have hj : j = 0 := by omega
  obtain ⟨a, ha, _, hb⟩ := low_n m hm2 hm
  have := and_sub h.1 hb
  rw [hj, show nI 0 = 0 from rfl, b_0] at this
  cases this
theorem cand_ge {m j : Nat} (hj : j < 256) (hm : m < 256) (h : nI j &&& nI m = nI m) : m ≤ j := by
  refine Classical.byContradiction (fun hc => ?_)
  have e : j &&& m = m := by
    have h2 : nI j &&& nI m = nI (j &&& m) := b_ext (fun i hi => by rw [b_and, bt_nI hi, bt_nI hi, bt_nI hi, Nat.testBit_and])
    rw [h2] at h
    have l : j &&& m ≤ m := Nat.and_le_right
    exact (nI_eq (by omega) (by omega)).mp h
  have : j &&& m ≤ j := Nat.and_le_left
  omega
set_option maxHeartbeats 1000000 in
theorem C_league (hs : sOk s) {m : Int32} : cCall m_S_league [.int m] (q1 (okM s m) s (f_league m.toNatClampNeg s)) s := by
  intro d Q X H x P I A hr h
  have hm' := @mo_S_league (meth (d + 59)) (meth_smono (d + 59))
  have h8 : sN s ≤ 8 := hs.2.1.1
  obtain ⟨p1, p2⟩ := p256 hs
  have h1 := pOk_1 hr.1
  refine me_S_league (wb_S_league_0 hm' h1 (cs_knows hs hr (wb_S_league_9 hm' (sp_S_need hr (fun c => wb_S_league_12 hm' h1 ?_) (fun c I' r' => ?_)))))
  · rw [q1_t c] at h
    have h := h P I A hr
    obtain ⟨M, hM, rfl⟩ := inR_n (m := 2 ^ sN s - 1) (by omega) c
    rw [nI_clamp (by omega)] at h
    unfold f_league at h
    have hm := @mo_Land_fewestTogether (meth (d + 58)) (meth_smono (d + 58))
    have e0 : nI M = 0 ↔ M = 0 := nI_eq (b := 0) (by omega) (by omega)
    refine me_Land_fewestTogether (wb_Land_fewestTogether_0 hm ⟨fun q => ?_, fun q => wb_S_league_20 hm' ?_⟩)
    · have hM0 : M ≠ 0 := fun z => q (e0.mpr z)
      rw [if_neg hM0] at h
      obtain ⟨a, ha8, ea, hb⟩ := low_n M (by omega) (by omega)
      refine sp_bitCount ?_
      rw [ea]
      refine wb_Land_fewestTogether_17 hm ?_
      have haN : a < sN s := bit_lt hs (j := M) (by omega) (by omega) hb
      have loop : ∀ j, j ≤ 2 ^ sN s → M ≤ j → ∀ v2 : Int32, ((v2 = -1 ∧ ∀ i, i < j → ¬ cand s M i) ∨ ∃ b, isB s M j b ∧ v2 = nI b) → gWp (gTab (tb_Land_fewestTogether (meth (d + 58)))) (fun r H' => gWp (gTab (tb_S_league (meth (d + 59)))) Q X 20 [some (.ref (x + 0)), some (.int (nI M))] (r.toList ++ []) H') X 21 [some (.ref (x + P 1)), some (.int (nI M)), some (.int v2), some (.int (nI a)), some (.int (nI j)), none, none] [] (gset H x cck P I A) := by
        refine gdown ?_ ?_
        · intro _ v2 hv
          refine wb_Land_fewestTogether_21 hm h1 (cs_everyTown hs hr (wb_Land_fewestTogether_27 hm ⟨fun _ => wb_S_league_20 hm' ?_, fun z => absurd ((nI_ltI (by omega) (by omega)).mpr (by omega)) z⟩))
          rcases hv with ⟨e, z⟩ | ⟨b, hB, e⟩
          · rw [lgR_0 z] at h; rw [e]; exact h
          · rw [lgR_b hB] at h; rw [e]; exact h
        · intro j hj ih hMj v2 hv
          have ih := ih (by omega)
          rw [← nI_1] at ih
          have skip : (cand s M j → ∃ b, isB s M j b ∧ v2 = nI b ∧ onN b ≤ onN j) → ∀ v5 v6, gWp (gTab (tb_Land_fewestTogether (meth (d + 58)))) (fun r H' => gWp (gTab (tb_S_league (meth (d + 59)))) Q X 20 [some (.ref (x + 0)), some (.int (nI M))] (r.toList ++ []) H') X 95 [some (.ref (x + P 1)), some (.int (nI M)), some (.int v2), some (.int (nI a)), some (.int (nI j)), some (.int v5), some (.int v6)] [] (gset H x cck P I A) := fun z v5 v6 => by
            refine wb_Land_fewestTogether_95 hm (ih v2 ?_)
            by_cases hc : cand s M j
            · obtain ⟨b, hB, e, ho⟩ := z hc
              refine Or.inr ⟨b, ⟨by have := hB.1; omega, hB.2.1, fun i hi hci => ?_⟩, e⟩
              by_cases he : i = j
              · have := hB.1; rw [he]; omega
              · exact hB.2.2 i (by omega) hci
            · rcases hv with ⟨e, z⟩ | ⟨b, hB, e⟩
              · exact Or.inl ⟨e, fun i hi hci => by
                  by_cases he : i = j
                  · rw [he] at hci; exact hc hci
                  · exact z i (by omega) hci⟩
              · exact Or.inr ⟨b, ⟨by have := hB.1; omega, hB.2.1, fun i hi hci => by
                  by_cases he : i = j
                  · rw [he] at hci; exact absurd hci hc
                  · exact hB.2.2 i (by omega) hci⟩, e⟩
          have take : cand s M j → ((v2 = -1 ∧ ∀ i, i < j → ¬ cand s M i) ∨ ∃ b, isB s M j b ∧ v2 = nI b ∧ onN j < onN b) → ∀ v5 v6, gWp (gTab (tb_Land_fewestTogether (meth (d + 58)))) (fun r H' => gWp (gTab (tb_S_league (meth (d + 59)))) Q X 20 [some (.ref (x + 0)), some (.int (nI M))] (r.toList ++ []) H') X 95 [some (.ref (x + P 1)), some (.int (nI M)), some (.int (nI j)), some (.int (nI a)), some (.int (nI j)), some (.int v5), some (.int v6)] [] (gset H x cck P I A) := fun hc z v5 v6 => by
            refine wb_Land_fewestTogether_95 hm (ih (nI j) (Or.inr ⟨j, ⟨by omega, hc, fun i hi hci => ?_⟩, rfl⟩))
            by_cases he : i = j
            · rw [he]; omega
            · rcases z with ⟨_, z⟩ | ⟨b, hB, _, ho⟩
              · exact absurd hci (z i (by omega))
              · have := hB.2.2 i (by omega) hci; omega
          refine wb_Land_fewestTogether_21 hm h1 (cs_everyTown hs hr (wb_Land_fewestTogether_27 hm ⟨fun z => absurd ((nI_ltI (by omega) (by omega)).mp z) (by omega), fun _ => ⟨fun z => ?_, fun z => ?_⟩⟩))
          · -- doesn't hold the set
            have nc : ¬ cand s M j := fun hc => z hc.1
            have g67 : ∀ w : Int32, gWp (gTab (tb_Land_fewestTogether (meth (d + 58)))) (fun r H' => gWp (gTab (tb_S_league (meth (d + 59)))) Q X 20 [some (.ref (x + 0)), some (.int (nI M))] (r.toList ++ []) H') X 67 [some (.ref (x + P 1)), some (.int (nI M)), some (.int v2), some (.int (nI a)), some (.int (nI j)), some (.int 0), none] [.int w] (gset H x cck P I A) := fun w => wb_Land_fewestTogether_67 hm h1 ⟨fun _ => skip (fun hc => absurd hc nc) _ _, fun y => absurd rfl y⟩
            exact wb_Land_fewestTogether_43 hm ⟨fun _ => wb_Land_fewestTogether_62 hm (g67 _), fun _ => sp_bitCount (wb_Land_fewestTogether_55 hm (sp_bitCount (wb_Land_fewestTogether_59 hm ⟨fun _ => g67 _, fun _ => wb_Land_fewestTogether_62 hm (g67 _)⟩)))⟩
          · have hsub := Classical.not_not.mp z
            have hbj := and_sub hsub hb
            have cc : itr s (nI j) (-1) a 8 = nI j ↔ cand s M j := by
              rw [cn_itr hs hj haN hbj]
              exact ⟨fun y => ⟨hsub, a, haN, hbj, y⟩, fun ⟨_, b, hbN, hbb, y⟩ => cn_any haN hbj y⟩
            have g67 : ((v2 = -1 ∧ ∀ i, i < j → ¬ cand s M i) ∨ ∃ b, isB s M j b ∧ v2 = nI b ∧ onN j < onN b) → gWp (gTab (tb_Land_fewestTogether (meth (d + 58)))) (fun r H' => gWp (gTab (tb_S_league (meth (d + 59)))) Q X 20 [some (.ref (x + 0)), some (.int (nI M))] (r.toList ++ []) H') X 67 [some (.ref (x + P 1)), some (.int (nI M)), some (.int v2), some (.int (nI a)), some (.int (nI j)), some (.int 1), none] [.int 1] (gset H x cck P I A) := fun hw =>
              wb_Land_fewestTogether_67 hm h1 ⟨fun y => absurd y (by decide), fun _ => ⟨fun y => absurd y (by decide), fun _ => cs_reached hs hr haN (wb_Land_fewestTogether_87 hm ⟨fun y => skip (fun hc => absurd (cc.mpr hc) y) _ _, fun y => take (cc.mp (Classical.not_not.mp y)) hw _ _⟩)⟩⟩
            refine wb_Land_fewestTogether_43 hm ⟨fun y => wb_Land_fewestTogether_62 hm (g67 ?_), fun y => sp_bitCount (wb_Land_fewestTogether_55 hm (sp_bitCount (wb_Land_fewestTogether_59 hm ?_)))⟩
            · rcases hv with hv | ⟨b, hB, e⟩
              · exact Or.inl hv
              · rw [e] at y; exact absurd y (nI_nm1 (by have := hB.1; omega))
            · rcases hv with hv | ⟨b, hB, e⟩
              · exact absurd hv.1 y
              · have hbj' := hB.1
                have l1 := on_le 8 (by omega) j (by show j < 256; omega)
                have l2 := on_le 8 (by omega) b (by show b < 256; omega)
                rw [on_fbc j (by omega), show fbc v2 = nI (onN b) by rw [e]; exact on_fbc b (by omega), nI_leI (by omega) (by omega)]
                refine ⟨fun y2 => wb_Land_fewestTogether_67 hm h1 ⟨fun w => absurd w (by decide), fun _ => ⟨fun _ => skip (fun _ => ⟨b, hB, e, y2⟩) _ _, fun w => absurd rfl w⟩⟩, fun y2 => wb_Land_fewestTogether_62 hm (g67 (Or.inr ⟨b, hB, e, by omega⟩))⟩
      exact loop M (by omega) (Nat.le_refl _) (-1) (Or.inl ⟨rfl, fun i hi hc => by have := cand_ge (by omega) (by omega) hc.1; omega⟩)
    · rw [if_pos (e0.mp (Classical.not_not.mp q))] at h; exact h
  · rw [q1_f c] at h; exact h P I' A r'
end LEA
