/-! ===== calls: odds, both ===== -/
section CA19
variable {s : ST}
def oN (s : ST) (t : Nat) : Nat := min 9 (wV (sW s) t).toNatClampNeg
def f_odds (t q : Nat) (a : Int32) (s : ST) : Int64 := nL ((if a = 0 then wM (oN s t) q 10 (oN s t / 2 + 1) else 16 ^ oN s t) / (eu 100 (wM (oN s t) q 10 (oN s t / 2 + 1)) (16 ^ oN s t)).1)
theorem oN_ok (hs : sOk s) {t : Nat} (ht : t < sN s) : ∃ v, 1 ≤ v ∧ v ≤ 999 ∧ wV (sW s) t = nI v ∧ oN s t = min 9 v := by
  obtain ⟨v, b, v1, v9, _, ev, _⟩ := hs.2.2.1.1 t ht
  exact ⟨v, v1, v9, ev, by unfold oN; rw [ev, nI_clamp (by omega)]⟩
theorem p16 : ∀ n, n < 10 → 16 ^ n < 2 ^ 63 ∧ 0 < 16 ^ n := by decide +kernel
theorem C_odds (hs : sOk s) {t q a : Int32} : cCall m_S_odds [.int t, .int q, .int a] (qT (isT s t) s (qN (inR q 0 16 && inR a 0 1) s (.inl (.long (f_odds t.toNatClampNeg q.toNatClampNeg a s)), s))) s := by
  intro d Q X H x P I A hr h
  have hm := @mo_S_odds (meth (d + 59)) (meth_smono (d + 59))
  refine me_S_odds (wb_S_odds_0 hm (sp_S_needTown hr (fun c => wb_S_odds_5 hm ?_) (fun c I' r' => ?_)))
  · rw [qT_t c] at h
    have no : (inR q 0 16 && inR a 0 1) = false → gWp (gTab (tb_S_odds (meth (d + 59)))) Q X 29 [some (.ref (x + 0)), some (.int t), some (.int q), some (.int a), none, none, none, none, none, none, none, none, none] [.ref (x + 0)] (gset H x cck P I A) := fun hf => by
      rw [qN_f hf] at h
      exact wb_S_odds_29 hm (wb_S_odds_30 hm (sp_S_need (c := false) hr (fun q => by cases q) (fun _ I' r' => h P I' A r')))
    refine sp_S_within (wb_S_odds_13 hm ⟨fun c1 => no (by rw [b_i00 c1]; rfl), fun c1 => sp_S_within (wb_S_odds_22 hm ⟨fun c2 => no (by rw [b_i01 c1, b_i00 c2]; rfl), fun c2 => wb_S_odds_30 hm (sp_S_need (c := true) hr (fun _ => wb_S_odds_33 hm ?_) (fun q => by cases q))⟩)⟩)
    rw [qN_t (by rw [b_i01 c1, b_i01 c2]; rfl)] at h
    have h := h P I A hr
    obtain ⟨j, hj, h8, rfl⟩ := isT_n hs c
    obtain ⟨k, hk, rfl⟩ := inR_n (m := 16) (by omega) (b_i01 c1)
    rw [nI_clamp (by omega), nI_clamp (by omega)] at h
    obtain ⟨v, v1, v9, ev, eo⟩ := oN_ok hs hj
    rw [nI_clamp (by omega), ← cw_V hr hj, ev, show (9 : Int32) = nI 9 from rfl, gmin_n (by omega) (by omega), ← eo]
    unfold f_odds at h
    have n9 : oN s j < 10 := by omega
    obtain ⟨e1, e2⟩ := eu_ok (oN s j) n9 k (by omega)
    obtain ⟨e3, e4⟩ := p16 (oN s j) n9
    generalize oN s j = n at h n9 e1 e2 e3 e4 ⊢
    refine ⟨vp_in_nI (by omega) (by omega), sp_Polls_waysForMost n9 (by omega) (wb_S_odds_55 hm (sp_Polls_power (b := 16) (by omega) (wb_S_odds_65 hm (sp_Polls_commonDivisor (by omega) e3 e1 (wb_S_odds_74 hm ?_)))))⟩
    generalize wM n k 10 (n / 2 + 1) = W at h e1 e2 ⊢
    have hpos := eu_pos 100 W (16 ^ n) (by omega) e1
    have hle := eu_le 100 W (16 ^ n) (2 ^ 63 - 1) (by omega) (by omega)
    generalize (eu 100 W (16 ^ n)).1 = G at h hpos hle ⊢
    have hc : ¬ lg_cmp (nL G) 0 = 0 := fun z => by have := (cmp_0 (by omega)).mp z; omega
    refine ⟨fun q => wb_S_odds_87 hm ⟨fun _ => ⟨nL_0 (by omega) hpos, wb_S_odds_106 hm ?_⟩, fun z => absurd hc z⟩, fun q => wb_S_odds_87 hm ⟨fun _ => ⟨nL_0 (by omega) hpos, wb_S_odds_106 hm ?_⟩, fun z => absurd hc z⟩⟩
    · rw [nL_div e3 (by omega)]
      rw [if_neg q] at h; exact h
    · rw [nL_div (by omega) (by omega)]
      rw [if_pos (Classical.not_not.mp q)] at h; exact h
  · rw [qT_f c] at h; exact h P I' A r'
theorem bit_n : ∀ m, m < 512 → ∀ i, i < 9 → (nI m >>> (nI i &&& 31)) &&& 1 = nI (m / 2 ^ i % 2) := by decide +kernel
theorem shl_n : ∀ n, n < 10 → (1 : Int32) <<< (nI n &&& 31) = nI (2 ^ n) := by decide +kernel
theorem oP_le {q m : Nat} : ∀ i, (oP q m i).1 ≤ i
  | 0 => Nat.le_refl _
  | i + 1 => by
    have := oP_le (q := q) (m := m) i
    show (oP q m i).1 + m / 2 ^ i % 2 ≤ i + 1
    omega
set_option maxHeartbeats 1000000 in
theorem R_odds (hs : sOk s) {t q a : Int32} : rCall m_R_odds [.int t, .int q, .int a] kB (.long 0) (qT (isT s t) s (qN (inR q 0 16 && inR a 0 1) s (.inl (.long (f_odds t.toNatClampNeg q.toNatClampNeg a s)), s))) s := by
  intro d Q X H x P I A hr h
  have hm := @mo_R_odds (meth (d + 59)) (meth_smono (d + 59))
  refine me_R_odds (wb_R_odds_0 hm (sp_R_isTown (code := 1) upI_s (by omega) (rRep_0 hr) (fun c => wb_R_odds_11 hm ⟨fun q => absurd q (by decide), fun _ => ?_⟩) (fun c I' A' r' e => wb_R_odds_11 hm ⟨fun _ => wb_R_odds_47 hm ?_, fun q => absurd rfl q⟩)))
  · rw [qT_t c] at h
    have no : (inR q 0 16 && inR a 0 1) = false → gWp (gTab (tb_R_odds (meth (d + 59)))) Q X 38 [some (.ref (x + 0)), some (.int t), some (.int q), some (.int a), none, none, none, none, none, none, none, none, none, none] [.ref (x + 0)] (gset H x mck P (upI I 0 0 0) A) := fun hf => by
      rw [qN_f hf] at h
      exact wb_R_odds_38 hm (wb_R_odds_39 hm (sp_R_may (c := false) (kind := 1) (code := 2) upI_s (by omega) (by omega) (rRep_0 hr) (fun q => by cases q) (fun _ I' A' r' e => wb_R_odds_44 hm ⟨fun q => absurd rfl q, fun _ => wb_R_odds_47 hm (h I' A' _ r' ⟨e, rfl⟩)⟩)))
    refine sp_R_within (wb_R_odds_22 hm ⟨fun c1 => no (by rw [b_i00 c1]; rfl), fun c1 => sp_R_within (wb_R_odds_31 hm ⟨fun c2 => no (by rw [b_i01 c1, b_i00 c2]; rfl), fun c2 => wb_R_odds_39 hm (sp_R_may (c := true) (kind := 1) (code := 2) upI_s (by omega) (by omega) (rRep_0 hr) (fun _ => wb_R_odds_44 hm ⟨fun _ => ?_, fun q => absurd (by decide) q⟩) (fun q => by cases q))⟩)⟩)
    rw [qN_t (by rw [b_i01 c1, b_i01 c2]; rfl)] at h
    have h := fun v => h _ A v (rRep_0 (a := 0) hr)
    obtain ⟨j, hj, h8, rfl⟩ := isT_n hs c
    obtain ⟨k, hk, rfl⟩ := inR_n (m := 16) (by omega) (b_i01 c1)
    rw [nI_clamp (by omega), nI_clamp (by omega)] at h
    obtain ⟨v, v1, v9, ev, eo⟩ := oN_ok hs hj
    rw [n_z, nI_clamp (by omega), ← rw_V hr.2.2.1 hj, ev]
    unfold f_odds at h
    have n9 : oN s j < 10 := by omega
    have g75 : gWp (gTab (tb_R_odds (meth (d + 59)))) Q X 75 [some (.ref (x + 0)), some (.int (nI j)), some (.int (nI k)), some (.int a), none, none, none, none, none, none, none, none, none, none] [.int (nI (oN s j))] (gset H x mck P (upI I 0 0 0) A) := by
      obtain ⟨e1, e2⟩ := eu_ok (oN s j) n9 k (by omega)
      obtain ⟨e3, e4⟩ := p16 (oN s j) n9
      have eS := oS_wM (oN s j) n9 k (by omega)
      generalize oN s j = n at h n9 e1 e2 e3 e4 eS ⊢
      refine wb_R_odds_75 hm ?_
      have p512 : 2 ^ n ≤ 2 ^ 9 := Nat.pow_le_pow_right (by omega) (by omega)
      have masks : ∀ m, m ≤ 2 ^ n → gWp (gTab (tb_R_odds (meth (d + 59)))) Q X 110 [some (.ref (x + 0)), some (.int (nI j)), some (.int (nI k)), some (.int a), some (.int (nI n)), some (.long (nL (16 ^ n))), none, some (.long (nL (oS n k m))), none, some (.int (nI m)), none, none, none, none] [] (gset H x mck P (upI I 0 0 0) A) := by
        refine gdown ?_ ?_
        · refine wb_R_odds_110 hm ⟨fun _ => ?_, fun c => absurd (by rw [shl_n n n9]; exact nI_le (Nat.le_refl _) (by omega)) c⟩
          rw [eS]
          exact sp_R_least (by omega) e3 e4 e1 (wb_R_odds_213 hm (h _ ⟨upI_s, rfl⟩))
        · intro m hm' ihm
          refine wb_R_odds_110 hm ⟨fun c => absurd c (by rw [shl_n n n9]; exact nI_ge hm' (by omega)), fun _ => ?_⟩
          have bits : ∀ i, i ≤ n → gWp (gTab (tb_R_odds (meth (d + 59)))) Q X 128 [some (.ref (x + 0)), some (.int (nI j)), some (.int (nI k)), some (.int a), some (.int (nI n)), some (.long (nL (16 ^ n))), none, some (.long (nL (oS n k m))), none, some (.int (nI m)), some (.int (nI (oP k m i).1)), some (.long (nL (oP k m i).2)), none, some (.int (nI i))] [] (gset H x mck P (upI I 0 0 0) A) := by
            refine gdown ?_ ?_
            · have hp := oP_le (q := k) (m := m) n
              have e2p : (2 : Int32) * nI (oP k m n).1 = nI (2 * (oP k m n).1) := (Int32.ofNat_mul 2 _).symm
              rw [← nI_1] at ihm
              refine wb_R_odds_128 hm ⟨fun _ => ?_, fun c => absurd (nI_le (Nat.le_refl _) (by omega)) c⟩
              rw [e2p, nI_leI (by omega) (by omega)]
              refine ⟨fun q => wb_R_odds_196 hm ?_, fun q => wb_R_odds_196 hm ?_⟩
              · rw [oS, if_pos q] at ihm
                rw [show nL (oS n k m) + 0 = nL (oS n k m + 0) from (Int64.ofNat_add _ _).symm]
                exact ihm
              · rw [oS, if_neg q] at ihm
                rw [show nL (oS n k m) + nL (oP k m n).2 = nL (oS n k m + (oP k m n).2) from (Int64.ofNat_add _ _).symm]
                exact ihm
            · intro i hi ihi
              refine wb_R_odds_128 hm ⟨fun c => absurd c (nI_ge hi (by omega)), fun _ => ?_⟩
              rw [bit_n m (by omega) i (by omega), show nI (oP k m i).1 + nI (m / 2 ^ i % 2) = nI ((oP k m i).1 + m / 2 ^ i % 2) from nI_add _ _, show (1 : Int32) = nI 1 from rfl, nI_eq (by omega) (by omega)]
              rw [← nI_1] at ihi
              refine ⟨fun q => wb_R_odds_170 hm ?_, fun q => wb_R_odds_170 hm ?_⟩
              · rw [show (16 : Int32) - nI k = nI (16 - k) from nI_sub (a := 16) (by omega), nL_I (by omega), show nL (oP k m i).2 * nL (16 - k) = nL ((oP k m i).2 * (16 - k)) from (Int64.ofNat_mul _ _).symm]
                rw [oP, if_neg q] at ihi
                exact ihi
              · rw [nL_I (by omega), show nL (oP k m i).2 * nL k = nL ((oP k m i).2 * k) from (Int64.ofNat_mul _ _).symm]
                rw [oP, if_pos (Classical.not_not.mp q)] at ihi
                exact ihi
          exact bits 0 (Nat.zero_le _)
      have pow : ∀ i, i ≤ n → gWp (gTab (tb_R_odds (meth (d + 59)))) Q X 83 [some (.ref (x + 0)), some (.int (nI j)), some (.int (nI k)), some (.int a), some (.int (nI n)), some (.long (nL (16 ^ i))), none, some (.int (nI i)), none, none, none, none, none, none] [] (gset H x mck P (upI I 0 0 0) A) := by
        refine gdown ?_ ?_
        · exact wb_R_odds_83 hm ⟨fun _ => masks 0 (Nat.zero_le _), fun c => absurd (nI_le (Nat.le_refl _) (by omega)) c⟩
        · intro i hi ih
          refine wb_R_odds_83 hm ⟨fun c => absurd c (nI_ge hi (by omega)), fun _ => ?_⟩
          rw [show nL (16 ^ i) * 16 = nL (16 ^ (i + 1)) from (Int64.ofNat_mul _ _).symm, nI_1]
          exact ih
      exact pow 0 (Nat.zero_le _)
    rw [show (9 : Int32) = nI 9 from rfl, nI_leI (by omega) (by omega)]
    have i28 : vp_in (nI j) 28 := vp_in_nI (by omega) (by omega)
    refine ⟨i28, fun q => ?_, fun q => ⟨i28, ?_⟩⟩
    · rw [eo, show min 9 v = 9 by omega] at g75; exact g75
    · rw [eo, show min 9 v = v by omega] at g75; exact g75
  · rw [qT_f c] at h; exact h I' A' _ r' ⟨e, rfl⟩
end CA19
