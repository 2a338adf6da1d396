/-! ===== L2: the reference's vote; drawing ===== -/
theorem held_eq {u v : Int32} (hv : 0 ≤ v) : (if 0 ≤ u then if u ≤ v then u else v else 0) = gmax 0 (gmin v u) := by
  unfold gmax gmin
  rw [Int32.le_iff_toInt_le] at hv
  by_cases h1 : 0 ≤ u
  · rw [if_pos h1]
    by_cases h2 : u ≤ v
    · rw [if_pos h2]
      by_cases h3 : u < v
      · rw [if_pos h3]
        by_cases h4 : 0 < u
        · rw [if_pos h4]
        · rw [if_neg h4]
          rw [Int32.le_iff_toInt_le] at h1
          rw [Int32.lt_iff_toInt_lt] at h4
          rw [← Int32.toInt_inj]; omega
      · rw [if_neg h3]
        have e : u = v := by
          rw [Int32.le_iff_toInt_le] at h2
          rw [Int32.lt_iff_toInt_lt] at h3
          rw [← Int32.toInt_inj]; omega
        rw [e]
        by_cases h4 : 0 < v
        · rw [if_pos h4]
        · rw [if_neg h4]
          rw [Int32.lt_iff_toInt_lt] at h4
          rw [← Int32.toInt_inj]; omega
    · rw [if_neg h2]
      have h3 : ¬ u < v := by
        rw [Int32.le_iff_toInt_le] at h2
        rw [Int32.lt_iff_toInt_lt]; omega
      rw [if_neg h3]
      by_cases h4 : 0 < v
      · rw [if_pos h4]
      · rw [if_neg h4]
        rw [Int32.lt_iff_toInt_lt] at h4
        rw [← Int32.toInt_inj]; omega
  · rw [if_neg h1]
    rw [Int32.le_iff_toInt_le] at h1
    have h3 : u < v := by rw [Int32.lt_iff_toInt_lt]; omega
    rw [if_pos h3, if_neg (by rw [Int32.lt_iff_toInt_lt]; omega)]
theorem wseat1_c {C C' V V' B B' : Nat → Int32} {n : Nat} {p : Int32} (hC : ∀ t, t < n → C t = C' t) (hV : ∀ t, t < n → V t = V' t) (hB : ∀ t, t < n → B t = B' t) : wseat1 C n V B p = wseat1 C' n V' B' p := fsum_c (fun t ht => by rw [hC t ht, hV t ht, hB t ht])
section L2S
variable {d : Nat} {Q : gQ} {X : gX} {H : gH} {x : Nat} {P : Nat → Nat} {I A : Nat → Nat → Int32}
set_option maxHeartbeats 1000000 in
theorem sp_R_votes {ev : (Nat → Int32) → Int32} {n m : Nat} {C N : Nat → Int32} (hL : RLawAt I A ev) (hev : evOk ev) (hn : I 0 19 = nI n) (hn8 : n ≤ 8) (hm20 : I 0 20 = nI m) (hm12 : m ≤ 12) (hC : ∀ t, t < n → A 7 t = C t) (hN : ∀ t, t < n → froads (A 8) (nI t) m = N t) (hV : ∀ t, t < n → 0 ≤ A 18 t)
    (h : ∀ A', Fr [13, 14, 18, 20] A A' → rW n (A' 18) = wvote ev C N n (rW n (A 18)) → Q none (gset H x mck P I A')) : meth (d + 6) m_R_votes [.ref (x + 0)] (gset H x mck P I A) Q X := by
  have hm := @mo_R_votes (meth (d + 5)) (meth_smono (d + 5))
  generalize hw : rW n (A 18) = w at h
  have wVe : ∀ t, t < n → wV w t = A 18 t := fun t ht => by rw [← hw]; exact rs_at ht
  have wBe : ∀ t, t < n → wB w t = A 18 (8 + t) := fun t ht => by rw [← hw]; exact rs_at (f := fun t => A 18 (8 + t)) ht
  have wPe : ∀ t, t < n → w.2.2.1 t = A 18 (16 + t) := fun t ht => by rw [← hw]; exact rs_at (f := fun t => A 18 (16 + t)) ht
  have hsw : ∀ (A' : Nat → Nat → Int32), Fr [13, 14, 20] A A' → ∀ t, t < n → ev (fct (A' 18 t) (A' 18 (8 + t)) (A' 7 t) (A' 18 24) (A' 18 (16 + t)) (fsum (fun o => if bt (froads (A' 8) (nI t) m) o = true ∧ fside (A' 18 (8 + o)) (A' 18 o) = 0 then 1 else 0) n) (A' 18 26) (A' 18 25) (nI t) (A' 18 27)) = wsway ev C N n w t := by
    intro A' hf t ht
    rw [hf 18 (by decide), hf 7 (by decide), hf 8 (by decide), hC t ht, hN t ht]
    unfold wsway wnear
    rw [wVe t ht, wBe t ht, wPe t ht]
    have e2 : fsum (fun o_1 => if bt (N t) o_1 = true ∧ wside w o_1 = 0 then (1 : Int32) else 0) n = fsum (fun o_1 => if bt (N t) o_1 = true ∧ fside (A 18 (8 + o_1)) (A 18 o_1) = 0 then 1 else 0) n := fsum_c (fun u hu => by unfold wside; rw [wVe u hu, wBe u hu])
    rw [e2, ← hw]
    rfl
  refine me_R_votes (wb_R_votes_0 hm ?_)
  have key2 : ∀ k, k ≤ n → ∀ A', Fr [13, 14, 18, 20] A A' → (∀ t, t < n → A' 20 t = wsway ev C N n w t) → (∀ t, t < k → A' 18 (8 + t) = fhold (A 18 (8 + t)) (A 18 t) (wsway ev C N n w t)) → (∀ j, (j < 8 ∨ 8 + k ≤ j) → A' 18 j = A 18 j) →
      gWp (gTab (tb_R_votes (meth (d + 5)))) Q X 29 [some (.ref (x + 0)), some (.int (nI k)), none] [] (gset H x mck P I A') := by
    refine gdown ?_ ?_
    · intro A' hf hs hlo hhi
      refine wb_R_votes_29 hm ⟨fun _ => ⟨vpd (by decide), vpd (by decide), ?_⟩, fun c => absurd (by rw [hn]; exact nI_le (Nat.le_refl n) (by omega)) c⟩
      have e26 : (26 : Int32).toNatClampNeg = 26 := rfl
      have e25 : (25 : Int32).toNatClampNeg = 25 := rfl
      rw [e26]
      have e7 : A' 7 = A 7 := hf 7 (by decide)
      have hB1 : ∀ t, t < n → wB1 ev C N n w t = A' 18 (8 + t) := fun t ht => by
        unfold wB1
        rw [rs_at ht, wVe t ht, wBe t ht, hlo t ht]
      have hse : ∀ (A'' : Nat → Nat → Int32), (∀ j, j < 16 → A'' 18 j = A' 18 j) → A'' 7 = A' 7 → ∀ p : Int32, fsum (fun t => if fside (A'' 18 (8 + t)) (A'' 18 t) = p then A'' 7 t else 0) n = wseat1 C n (wV w) (wB1 ev C N n w) p := by
        intro A'' h1 h2 p
        refine fsum_c (fun t ht => ?_)
        rw [h1 (8 + t) (by omega), h1 t (by omega), hhi t (Or.inl (by omega)), h2, e7, hB1 t ht, wVe t ht, hC t ht]
      have fin : ∀ A'', Fr [13, 14, 18, 20] A A'' → (∀ j, j < 24 → A'' 18 j = A' 18 j) → A'' 18 24 = A 18 24 → A'' 18 26 = A 18 26 + 1 → A'' 18 27 = A 18 27 → A'' 18 25 = wlead (wseat1 C n (wV w) (wB1 ev C N n w) 0) (wseat1 C n (wV w) (wB1 ev C N n w) 1) (A 18 25) → Q none (gset H x mck P I A'') := by
        intro A'' f1 fj f24 f26 f27 f25
        refine h A'' f1 ?_
        have g1 : rs n (A'' 18) = wV w := by
          rw [← hw]
          exact rs_c (fun t ht => by rw [fj t (by omega), hhi t (Or.inl (by omega))])
        have g2 : rs n (fun t => A'' 18 (8 + t)) = wB1 ev C N n w := rs_c (fun t ht => by rw [fj (8 + t) (by omega), hlo t ht, wVe t ht, wBe t ht])
        have g3 : rs n (fun t => A'' 18 (16 + t)) = w.2.2.1 := by
          rw [← hw]
          exact rs_c (fun t ht => by rw [fj (16 + t) (by omega), hhi (16 + t) (Or.inr (by omega))])
        unfold rW wvote
        rw [g1, g2, g3, f24, f25, f26, f27, ← hw]
        rfl
      refine sp_R_seatsOf (d := d + 2) hn hn8 (wb_R_votes_95 hm (sp_R_seatsOf (d := d + 2) hn hn8 ?_))
      rw [hse _ (fun j hj => by rw [upA_s, upd_ne (by omega)]) (upA_n (by decide)) 0, hse _ (fun j hj => by rw [upA_s, upd_ne (by omega)]) (upA_n (by decide)) 1]
      have q24 : A' 18 24 = A 18 24 := hhi 24 (Or.inr (by omega))
      have q25 : A' 18 25 = A 18 25 := hhi 25 (Or.inr (by omega))
      have q26 : A' 18 26 = A 18 26 := hhi 26 (Or.inr (by omega))
      have q27 : A' 18 27 = A 18 27 := hhi 27 (Or.inr (by omega))
      unfold wlead at fin
      refine wb_R_votes_101 hm ⟨fun c => wb_R_votes_124 hm (fin _ (fr_A hf (by decide)) (fun j hj => by rw [upA_s, upd_ne (by omega)]) (by rw [upA_s, upd_ne (by omega), q24]) (by rw [upA_s, upd_at, q26]) (by rw [upA_s, upd_ne (by omega), q27]) (by rw [upA_s, upd_ne (by omega), q25, if_pos c])), fun c => ⟨fun c2 => wb_R_votes_123 hm ⟨vpd (by decide), wb_R_votes_124 hm ?_⟩, fun c2 => wb_R_votes_123 hm ⟨vpd (by decide), wb_R_votes_124 hm ?_⟩⟩⟩
      · rw [e25]
        exact fin _ (fr_A (fr_A hf (by decide)) (by decide)) (fun j hj => by rw [upA_s, upd_ne (by omega), upA_s, upd_ne (by omega)]) (by rw [upA_s, upd_ne (by omega), upA_s, upd_ne (by omega), q24]) (by rw [upA_s, upd_ne (by omega), upA_s, upd_at, q26]) (by rw [upA_s, upd_ne (by omega), upA_s, upd_ne (by omega), q27]) (by rw [upA_s, upd_at, if_neg c, if_pos c2])
      · rw [e25]
        exact fin _ (fr_A (fr_A hf (by decide)) (by decide)) (fun j hj => by rw [upA_s, upd_ne (by omega), upA_s, upd_ne (by omega)]) (by rw [upA_s, upd_ne (by omega), upA_s, upd_ne (by omega), q24]) (by rw [upA_s, upd_ne (by omega), upA_s, upd_at, q26]) (by rw [upA_s, upd_ne (by omega), upA_s, upd_ne (by omega), q27]) (by rw [upA_s, upd_at, if_neg c, if_neg c2])
    · intro k hk ih A' hf hs hlo hhi
      refine wb_R_votes_29 hm ⟨fun c => absurd c (by rw [hn]; exact nI_ge hk (by omega)), fun _ => ⟨by rw [n_8]; exact vp_in_nI (by omega) (by omega), vp_in_nI (by omega) (by omega), by rw [n_z]; exact vp_in_nI (by omega) (by omega), sp_R_held (wb_R_votes_72 hm ⟨by rw [n_8]; exact vp_in_nI (by omega) (by omega), ?_⟩)⟩⟩
      rw [n_8, n_z, nI_clamp (by omega), nI_clamp (by omega), ← nI_succ, hs k hk, hhi k (Or.inl (by omega)), hhi (8 + k) (Or.inr (by omega)), held_eq (hV k hk)]
      refine ih _ (fr_A hf (by decide)) (fun t ht => ?_) (fun t ht => ?_) (fun j hj => ?_)
      · rw [upA_n (by decide)]; exact hs t ht
      · rw [upA_s]
        by_cases htk : t = k
        · rw [htk, upd_at]; rfl
        · rw [upd_ne (by omega)]; exact hlo t (by omega)
      · rw [upA_s, upd_ne (by omega)]; exact hhi j (by omega)
  have key1 : ∀ k, k ≤ n → ∀ A', Fr [13, 14, 20] A A' → (∀ t, t < k → A' 20 t = wsway ev C N n w t) →
      gWp (gTab (tb_R_votes (meth (d + 5)))) Q X 2 [some (.ref (x + 0)), some (.int (nI k)), none] [] (gset H x mck P I A') := by
    refine gdown ?_ ?_
    · intro A' hf hs
      exact wb_R_votes_2 hm ⟨fun _ => key2 0 (Nat.zero_le n) A' (fr_m hf (by simp)) hs (fun t ht => absurd ht (Nat.not_lt_zero t)) (fun j _ => by rw [hf 18 (by decide)]), fun c => absurd (by rw [hn]; exact nI_le (Nat.le_refl n) (by omega)) c⟩
    · intro k hk ih A' hf hs
      refine wb_R_votes_2 hm ⟨fun c => absurd c (by rw [hn]; exact nI_ge hk (by omega)), fun _ => sp_R_swayBy (d := d) (hL.mv rfl (hf 11 (by decide)) (hf 12 (by decide))) hev hn hn8 hm20 hm12 (by omega) (fun F K => wb_R_votes_20 hm ⟨vp_in_nI (by omega) (by omega), ?_⟩)⟩
      rw [nI_clamp (by omega), ← nI_succ, hsw A' hf k hk]
      refine ih _ (fr_A (fr_C (fr_C hf (by decide)) (by decide)) (by decide)) (fun t ht => ?_)
      rw [upA_s]
      by_cases htk : t = k
      · rw [htk, upd_at]
      · rw [upd_ne htk, upC_n (by decide), upC_n (by decide)]; exact hs t (by omega)
  exact key1 0 (Nat.zero_le n) A fr_r (fun t ht => absurd ht (Nat.not_lt_zero t))
end L2S
