/-! ===== calls: league, the reference ===== -/
section LER
variable {s : ST}
theorem sp_R_ones {d : Nat} {Q : gQ} {X : gX} {H : gH} {x : Nat} {P : Nat → Nat} {I A : Nat → Nat → Int32} {j : Nat} (hj : j < 256) (h : Q (some (.int (nI (onN j)))) (gset H x mck P I A)) : meth (d + 1) m_R_ones [.int (nI j)] (gset H x mck P I A) Q X := by
  have hm := @mo_R_ones (meth d) (meth_smono d)
  have key : ∀ i, i ≤ 8 → gWp (gTab (tb_R_ones (meth d))) Q X 4 [some (.int (nI j)), some (.int (nI (oP 0 j i).1)), some (.int (nI i))] [] (gset H x mck P I A) := by
    refine gdown ?_ ?_
    · exact wb_R_ones_4 hm ⟨fun _ => h, fun q => absurd (nI_le (a := 8) (by omega) (by omega)) q⟩
    · intro i hi ih
      refine wb_R_ones_4 hm ⟨fun q => absurd q (nI_ge (b := 8) hi (by omega)), fun _ => ?_⟩
      rw [bit_n j (by omega) i (by omega), show nI (oP 0 j i).1 + nI (j / 2 ^ i % 2) = nI ((oP 0 j i).1 + j / 2 ^ i % 2) from nI_add _ _, nI_1]
      rw [oP] at ih
      exact ih
  exact me_R_ones (wb_R_ones_0 hm (key 0 (Nat.zero_le _)))
theorem sp_R_first {d : Nat} {Q : gQ} {X : gX} {H : gH} {x : Nat} {P : Nat → Nat} {I A : Nat → Nat → Int32} {v : Int32} {a : Nat} (ha : a < 8) (hv : bt v a = true) (h : ∀ b, b < 8 → bt v b = true → Q (some (.int (nI b))) (gset H x mck P I A)) : meth (d + 1) m_R_first [.int v] (gset H x mck P I A) Q X := by
  have hm := @mo_R_first (meth d) (meth_smono d)
  have key : ∀ i, i ≤ a → gWp (gTab (tb_R_first (meth d))) Q X 2 [some (.int v), some (.int (nI i))] [] (gset H x mck P I A) := by
    refine gdown ?_ ?_
    · refine wb_R_first_2 hm ?_
      rw [b_at0 (by omega)]
      exact ⟨fun _ => h a ha hv, fun q => by rw [Classical.not_not.mp q] at hv; cases hv⟩
    · intro i hi ih
      refine wb_R_first_2 hm ?_
      rw [b_at0 (by omega), nI_1]
      refine ⟨fun q => h i (by omega) ?_, fun _ => ih⟩
      cases hb : bt v i with
      | true => rfl
      | false => exact absurd hb q
  exact me_R_first (wb_R_first_0 hm (key 0 (Nat.zero_le _)))
set_option maxHeartbeats 1000000 in
theorem R_league (hs : sOk s) {m : Int32} : rCall m_R_league [.int m] kA (.int 0) (q1 (okM s m) s (f_league m.toNatClampNeg s)) s := by
  intro d Q X H x P I A hr h
  have hm := @mo_R_league (meth (d + 59)) (meth_smono (d + 59))
  have h8 : sN s ≤ 8 := hs.2.1.1
  obtain ⟨p1, p2⟩ := p256 hs
  have r0 := rRep_0 (a := 0) hr
  have eN : upI I 0 0 0 0 19 = nI (sN s) := r0.2.1.1
  have eN' : I 0 19 = nI (sN s) := hr.2.1.1
  have no : okM s m = false → gWp (gTab (tb_R_league (meth (d + 59)))) Q X 24 [some (.ref (x + 0)), some (.int m), none, none] [.ref (x + 0)] (gset H x mck P (upI I 0 0 0) A) := fun hf => by
    rw [q1_f hf] at h
    exact wb_R_league_24 hm (wb_R_league_25 hm (sp_R_may (c := false) (kind := 1) (code := 1) upI_s (by omega) (by omega) (rRep_0 hr) (fun q => by cases q) (fun _ I' A' r' e => wb_R_league_30 hm ⟨fun q => absurd rfl q, fun _ => h I' A' _ r' ⟨e, rfl⟩⟩)))
  have hle : nI (2 ^ sN s) ≤ m ↔ nI (2 ^ sN s - 1) < m := by
    rw [Int32.le_iff_toInt_le, Int32.lt_iff_toInt_lt, nI_toInt (by omega), nI_toInt (by omega)]; omega
  have shl : ∀ k, k < 9 → (1 : Int32) <<< (nI k &&& 31) = nI (2 ^ k) := by decide +kernel
  have ok_f1 : m < 0 → okM s m = false := fun q => by unfold okM inR; exact decide_eq_false (fun z => z.1 q)
  have ok_f2 : nI (2 ^ sN s - 1) < m → okM s m = false := fun q => by unfold okM inR; exact decide_eq_false (fun z => z.2 q)
  refine me_R_league (wb_R_league_0 hm ?_)
  rw [eN', shl _ (by omega), hle]
  refine ⟨fun q => no (ok_f1 q), fun q1 => ⟨fun q => no (ok_f2 q), fun q2 => wb_R_league_25 hm (sp_R_may (c := true) (kind := 1) (code := 1) upI_s (by omega) (by omega) (rRep_0 hr) (fun _ => wb_R_league_30 hm ⟨fun _ => ?_, fun q => absurd (by decide) q⟩) (fun q => by cases q))⟩⟩
  have okm : okM s m = true := by unfold okM inR; exact decide_eq_true ⟨q1, q2⟩
  rw [q1_t okm] at h
  obtain ⟨M, hM, rfl⟩ := inR_n (m := 2 ^ sN s - 1) (by omega) okm
  rw [nI_clamp (by omega)] at h
  have h := fun v => h _ A v r0
  have i00 : upI I 0 0 0 0 0 = 0 := upI_s
  unfold f_league at h
  have e0 : nI M = 0 ↔ M = 0 := nI_eq (b := 0) (by omega) (by omega)
  rw [e0]
  clear no ok_f1 ok_f2 hle q1 q2 okm
  generalize upI I 0 0 0 = J at r0 h i00 eN ⊢
  refine ⟨fun hM0 => ?_, fun q => h _ ⟨i00, ?_⟩⟩
  · rw [if_neg hM0] at h
    have sizes : ∀ z, z ≤ sN s + 1 → 1 ≤ z → (∀ i, i < 2 ^ sN s → cand s M i → z ≤ onN i) → gWp (gTab (tb_R_league (meth (d + 59)))) Q X 43 [some (.ref (x + 0)), some (.int (nI M)), some (.int (nI z)), none] [] (gset H x mck P J A) := by
      refine gdown ?_ ?_
      · intro _ hz
        refine wb_R_league_43 hm ?_
        rw [eN]
        refine ⟨fun _ => h _ ⟨i00, ?_⟩, fun q => absurd ((nI_ltI (by omega) (by omega)).mpr (by omega)) q⟩
        rw [lgR_0 (fun j hj hc => ?_)]
        have l1 := hz j hj hc
        have l2 := on_le (sN s) (by omega) j hj
        omega
      · intro z hz ih hz1 hc
        refine wb_R_league_43 hm ?_
        rw [eN]
        refine ⟨fun q => absurd ((nI_ltI (by omega) (by omega)).mp q) (by omega), fun _ => ?_⟩
        have sets : ∀ j, j ≤ 2 ^ sN s → 1 ≤ j → (∀ i, i < j → cand s M i → z < onN i) → gWp (gTab (tb_R_league (meth (d + 59)))) Q X 53 [some (.ref (x + 0)), some (.int (nI M)), some (.int (nI z)), some (.int (nI j))] [] (gset H x mck P J A) := by
          refine gdown ?_ ?_
          · intro _ hj
            refine wb_R_league_53 hm ?_
            rw [eN, shl _ (by omega)]
            refine ⟨fun _ => ?_, fun q => absurd (nI_le (Nat.le_refl _) (by omega)) q⟩
            rw [nI_1]
            exact ih (by omega) (fun i hi hci => hj i hi hci)
          · intro j hj ihj hj1 hjc
            have ihj := ihj (by omega)
            rw [← nI_1] at ihj
            have skip : ¬ (cand s M j ∧ onN j = z) → gWp (gTab (tb_R_league (meth (d + 59)))) Q X 93 [some (.ref (x + 0)), some (.int (nI M)), some (.int (nI z)), some (.int (nI j))] [] (gset H x mck P J A) := fun q => by
              refine wb_R_league_93 hm (ihj (fun i hi hci => ?_))
              by_cases he : i = j
              · rw [he] at hci ⊢
                have := hc j hj hci
                have : onN j ≠ z := fun w => q ⟨hci, w⟩
                omega
              · exact hjc i (by omega) hci
            have l8 := on_le 8 (by omega) j (by show j < 256; omega)
            refine wb_R_league_53 hm ?_
            rw [eN, shl _ (by omega)]
            refine ⟨fun q => absurd q (nI_ge hj (by omega)), fun _ => sp_R_ones (by omega) (wb_R_league_67 hm ?_)⟩
            rw [nI_eq (by omega) (by omega)]
            refine ⟨fun q => skip (fun w => q w.2), fun q => ⟨fun q2 => skip (fun w => q2 w.1.1), fun q2 => ?_⟩⟩
            have hon := Classical.not_not.mp q
            have hsub := Classical.not_not.mp q2
            obtain ⟨a, ha8, _, hb⟩ := low_n j (by omega) (by omega)
            refine sp_R_first ha8 hb (fun b hb8 hbb => wb_R_league_83 hm ?_)
            have hbN : b < sN s := bit_lt hs hj (by omega) hbb
            refine rs_hangs hs r0 (wb_R_league_87 hm ?_)
            have cc : hI s (nI j) b (sN s) = nI j ↔ cand s M j := by
              rw [cn_hI hs hj hbN hbb]
              exact ⟨fun y => ⟨hsub, b, hbN, hbb, y⟩, fun ⟨_, b', _, _, y⟩ => cn_any hbN hbb y⟩
            refine ⟨fun y => skip (fun w => y (cc.mpr w.1)), fun y => h _ ⟨i00, ?_⟩⟩
            have hcj := cc.mp (Classical.not_not.mp y)
            rw [lgR_b (b := j) ⟨hj, hcj, fun i hi hci => ?_⟩]
            have := hc i hi hci
            by_cases hlt : i < j
            · have := hjc i hlt hci; omega
            · omega
        exact sets 1 (by omega) (Nat.le_refl _) (fun i hi hci => by have := cand_n0 hs (by omega) (by omega) hci; omega)
    exact sizes 1 (by omega) (Nat.le_refl _) (fun i hi hci => on_1 i (by omega) (cand_n0 hs (by omega) (by omega) hci))
  · rw [if_pos (Classical.not_not.mp q)]
end LER
