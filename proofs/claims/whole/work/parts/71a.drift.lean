/-! ===== calls: drift, look: the book ===== -/
def mJ (j : Nat) : Int32 := nI j - 40
theorem mJ_0 : mJ 0 = -40 := by decide
theorem mJ_1 : ∀ j, j < 81 → mJ j + 1 = mJ (j + 1) := by decide +kernel
theorem mJ_81 : ∀ j, j < 82 → (40 < mJ j ↔ j = 81) := by decide +kernel
def dSide (s : ST) (t : Nat) (v : Int32) : Int32 := fside (fhold (wB (sW s) t) (wV (sW s) t) v) (wV (sW s) t)
def dFit (s : ST) (v : Int32) : Bool := decide (∀ t, t < sN s → (sK s).2 t = -1 ∨ dSide s t v = (sK s).2 t)
def dAcc (s : ST) : Nat → Int32 × Int32 × Int32
  | 0 => (0, -41, -41)
  | j + 1 => if dFit s (mJ j) = true then ((dAcc s j).1 + 1, (if (dAcc s j).1 = 0 then mJ j else (dAcc s j).2.1), mJ j) else dAcc s j
def dT (s : ST) (t p : Nat) : Nat → Nat
  | 0 => 0
  | j + 1 => if dFit s (mJ j) = true ∧ dSide s t (mJ j) = nI p then dT s t p j + 1 else dT s t p j
theorem dT_le {s : ST} {t p : Nat} : ∀ j, dT s t p j ≤ j
  | 0 => Nat.le_refl _
  | j + 1 => by
    have := dT_le (s := s) (t := t) (p := p) j
    unfold dT
    by_cases h : dFit s (mJ j) = true ∧ dSide s t (mJ j) = nI p
    · rw [if_pos h]; omega
    · rw [if_neg h]; omega
def dW (s : ST) (t : Nat) : Nat := max (dT s t 0 81) (max (dT s t 1 81) (dT s t 2 81))
theorem dW_le {s : ST} {t : Nat} : dW s t ≤ 81 := by
  have h0 := dT_le (s := s) (t := t) (p := 0) 81
  have h1 := dT_le (s := s) (t := t) (p := 1) 81
  have h2 := dT_le (s := s) (t := t) (p := 2) 81
  unfold dW; omega
theorem dSide_n {s : ST} {t : Nat} {v : Int32} : ∃ p, p < 3 ∧ dSide s t v = nI p := by
  unfold dSide fside
  by_cases h : 2 * fhold (wB (sW s) t) (wV (sW s) t) v ≤ wV (sW s) t
  · rw [if_pos h]
    by_cases h2 : wV (sW s) t ≤ 2 * fhold (wB (sW s) t) (wV (sW s) t) v
    · rw [if_pos h2]; exact ⟨2, by omega, rfl⟩
    · rw [if_neg h2]; exact ⟨1, by omega, rfl⟩
  · rw [if_neg h]; exact ⟨0, by omega, rfl⟩
theorem nI_3 {t : Nat} : nI t * 3 = nI (3 * t) := by rw [show (3 : Int32) = nI 3 from rfl, Int32.mul_comm]; exact (Int32.ofNat_mul 3 t).symm
section DRC
variable {s : ST} {d : Nat} {Q : gQ} {X : gX} {H : gH} {x : Nat} {P : Nat → Nat} {I A : Nat → Nat → Int32}
theorem cRep_bk {I' A' : Nat → Nat → Int32} (hr : cRep s P I A) (h1 : ∀ j, j ≠ P 7 → I' j = I j) (h2 : I' (P 7) 2 = I (P 7) 2) (h3 : I' (P 7) 3 = I (P 7) 3) (fA : Fr [P 7 + 2] A A') : cRep s P I' A' := by
  have hp := hr.1
  have q1 : P 1 = 3 ∨ P 1 = 8 := by rcases hp.1 with ⟨e, _⟩ | ⟨e, _⟩ <;> omega
  have q5 : P 5 = 21 ∨ P 5 = 25 := by rcases hp.2.1 with ⟨e, _⟩ | ⟨e, _⟩ <;> omega
  have q7 : P 7 = 29 ∨ P 7 = 32 := by rcases hp.2.2 with ⟨e, _⟩ | ⟨e, _⟩ <;> omega
  have m : ∀ j, j ≠ P 7 + 2 → A' j = A j := fun j hj => fA j (by simp; exact hj)
  exact cRep_mv hr (h1 0 (by omega)) (h1 1 (by omega)) (h1 _ (by omega)) (h1 13 (by omega)) (h1 40 (by omega)) (h1 _ (by omega)) h2 h3 (m 2 (by omega)) (m _ (by omega)) (m _ (by omega)) (m _ (by omega)) (m _ (by omega)) (m 14 (by omega)) (m 15 (by omega)) (m _ (by omega)) (m _ (by omega)) (m 41 (by omega)) (m 42 (by omega))
theorem cs_sideThen (hs : sOk s) (hr : cRep s P I A) {t : Nat} (ht : t < sN s) {v : Int32} (h : Q (some (.int (dSide s t v))) (gset H x cck P I A)) : meth (d + 2) m_Book_sideThen [.ref (x + P 7), .int (nI t), .int v, .ref (x + 13)] (gset H x cck P I A) Q X := by
  have hm := @mo_Book_sideThen (meth (d + 1)) (meth_smono (d + 1))
  have h8 : sN s ≤ 8 := hs.2.1.1
  refine me_Book_sideThen (wb_Book_sideThen_0 hm (o3 := 13) rfl (sp_World_shifted (o := 13) rfl (vp_in_nI (by omega) (by omega)) (wb_Book_sideThen_6 hm (o3 := 13) rfl ⟨vp_in_nI (by omega) (by omega), sp_World_sideBy (wb_Book_sideThen_15 hm ?_)⟩)))
  unfold dSide at h
  rw [cw_V hr ht, cw_B hr ht] at h
  rw [nI_clamp (by omega)]
  exact h
theorem cs_holds (hs : sOk s) (hr : cRep s P I A) {t : Nat} (ht : t < sN s) (h : Q (some (.int (i01 (decide ((sK s).2 t ≠ -1))))) (gset H x cck P I A)) : meth (d + 1) m_Book_holds [.ref (x + P 7), .int (nI t)] (gset H x cck P I A) Q X := by
  have h8 : sN s ≤ 8 := hs.2.1.1
  refine sp_Book_holds (pOk_7 hr.1) (by omega) ?_
  have := hr.2.2.2.2.2.1.2.1 t (by omega)
  have e : bt (I (P 7) 3) t = decide ((sK s).2 t ≠ -1) := by
    cases hb : bt (I (P 7) 3) t
    · exact (decide_eq_false (fun q => by rw [this.mpr q] at hb; cases hb)).symm
    · exact (decide_eq_true (this.mp hb)).symm
  rw [e]; exact h
theorem cs_fits (hs : sOk s) (hr : cRep s P I A) {v : Int32} (h : Q (some (.int (i01 (dFit s v)))) (gset H x cck P I A)) : meth (d + 3) m_Book_fits [.ref (x + P 7), .int v, .ref (x + 13), .ref (x + P 1)] (gset H x cck P I A) Q X := by
  have hm := @mo_Book_fits (meth (d + 2)) (meth_smono (d + 2))
  have h8 : sN s ≤ 8 := hs.2.1.1
  have eN : I (P 1) 0 = nI (sN s) := hr.2.2.1.1
  have key : ∀ k, k ≤ sN s → (∀ t, t < k → (sK s).2 t = -1 ∨ dSide s t v = (sK s).2 t) → gWp (gTab (tb_Book_fits (meth (d + 2)))) Q X 3 [some (.ref (x + P 7)), some (.int v), some (.ref (x + 13)), some (.ref (x + P 1)), some (.int (nI k))] [] (gset H x cck P I A) := by
    refine gdown ?_ ?_
    · intro e
      refine wb_Book_fits_3 hm (pOk_7 hr.1) (pOk_1 hr.1) ⟨fun _ => ⟨rfl, ?_⟩, fun c => absurd (by rw [eN]; exact nI_le (Nat.le_refl _) (by omega)) c⟩
      unfold dFit at h
      rw [decide_eq_true e] at h
      exact h
    · intro k hk ih e
      refine wb_Book_fits_3 hm (pOk_7 hr.1) (pOk_1 hr.1) ⟨fun c => absurd c (by rw [eN]; exact nI_ge hk (by omega)), fun _ => cs_holds hs hr hk (wb_Book_fits_18 hm (pOk_7 hr.1) ⟨fun c => wb_Book_fits_41 hm ?_, fun c => cs_sideThen hs hr hk (wb_Book_fits_29 hm (pOk_7 hr.1) ⟨vp_in_nI (by omega) (by omega), ?_⟩)⟩)⟩
      · have hz := b_i00 c
        rw [decide_eq_false_iff_not, Classical.not_not] at hz
        rw [nI_1]
        exact ih (fun t ht => if he : t = k then Or.inl (by rw [he]; exact hz) else e t (by omega))
      · have hz := b_i01 c
        rw [decide_eq_true_eq] at hz
        rw [nI_clamp (by omega), hr.2.2.2.2.2.1.2.2 k (by omega) hz]
        refine ⟨fun c2 => wb_Book_fits_41 hm ?_, fun c2 => ⟨rfl, ?_⟩⟩
        · rw [nI_1]
          exact ih (fun t ht => if he : t = k then Or.inr (by rw [he]; exact c2) else e t (by omega))
        · unfold dFit at h
          rw [decide_eq_false (fun q => (q k hk).elim hz c2)] at h
          exact h
  exact me_Book_fits (wb_Book_fits_0 hm (key 0 (Nat.zero_le _) (fun t ht => absurd ht (Nat.not_lt_zero t))))
/-- what the class's book knows behind j drifts -/
def dMem (s : ST) (q j : Nat) (I A : Nat → Nat → Int32) : Prop := I q 4 = (dAcc s j).1 ∧ I q 5 = (dAcc s j).2.1 ∧ I q 6 = (dAcc s j).2.2 ∧ ∀ t, t < sN s → ∀ p, p < 3 → A (q + 2) (3 * t + p) = nI (dT s t p j)
theorem cs_measure (hs : sOk s) (hr : cRep s P I A) (h : ∀ I' A', cRep s P I' A' → dMem s (P 7) 81 I' A' → Q none (gset H x cck P I' A')) : meth (d + 4) m_Book_measure [.ref (x + P 7), .ref (x + 13), .ref (x + P 1)] (gset H x cck P I A) Q X := by
  have hm := @mo_Book_measure (meth (d + 3)) (meth_smono (d + 3))
  have h8 : sN s ≤ 8 := hs.2.1.1
  have h7 := pOk_7 hr.1
  have h1 := pOk_1 hr.1
  have loop : ∀ j, j ≤ 81 → ∀ I1 A1, cRep s P I1 A1 → dMem s (P 7) j I1 A1 → gWp (gTab (tb_Book_measure (meth (d + 3)))) Q X 41 [some (.ref (x + P 7)), some (.ref (x + 13)), some (.ref (x + P 1)), some (.int (mJ j)), none] [] (gset H x cck P I1 A1) := by
    refine gdown ?_ ?_
    · intro I1 A1 r1 m1
      exact wb_Book_measure_41 hm h7 ⟨fun _ => h I1 A1 r1 m1, fun c => absurd ((mJ_81 81 (by omega)).mpr rfl) c⟩
    · intro j hj ih I1 A1 r1 m1
      refine wb_Book_measure_41 hm h7 ⟨fun c => absurd ((mJ_81 j (by omega)).mp c) (by omega), fun _ => cs_fits hs r1 (wb_Book_measure_54 hm h7 ⟨fun c => wb_Book_measure_131 hm ?_, fun c => ?_⟩)⟩
      · have hf := b_i00 c
        rw [mJ_1 j hj]
        have ea : dAcc s (j + 1) = dAcc s j := by rw [dAcc, if_neg (by rw [hf]; decide)]
        have et : ∀ t p, dT s t p (j + 1) = dT s t p j := fun t p => by rw [dT, if_neg (fun q => by rw [hf] at q; cases q.1)]
        refine ih I1 A1 r1 ?_
        unfold dMem
        rw [ea]
        exact ⟨m1.1, m1.2.1, m1.2.2.1, fun t ht p hp => by rw [et]; exact m1.2.2.2 t ht p hp⟩
      · have hf := b_i01 c
        have ea : dAcc s (j + 1) = ((dAcc s j).1 + 1, (if (dAcc s j).1 = 0 then mJ j else (dAcc s j).2.1), mJ j) := by rw [dAcc, if_pos hf]
        have g73 : ∀ v, v = (if (dAcc s j).1 = 0 then mJ j else (dAcc s j).2.1) → gWp (gTab (tb_Book_measure (meth (d + 3)))) Q X 73 [some (.ref (x + P 7)), some (.ref (x + 13)), some (.ref (x + P 1)), some (.int (mJ j)), none] [.int v, .ref (x + P 7)] (gset H x cck P I1 A1) := by
          intro v hv
          refine wb_Book_measure_73 hm h7 ?_
          generalize hI2 : upI (upI (upI I1 (P 7) 5 v) (P 7) 6 (mJ j)) (P 7) 4 (upI (upI I1 (P 7) 5 v) (P 7) 6 (mJ j) (P 7) 4 + 1) = I2
          have n2 : ∀ j', j' ≠ P 7 → I2 j' = I1 j' := fun j' hj' => by rw [← hI2, upI_n hj', upI_n hj', upI_n hj']
          have r2 : ∀ A2, Fr [P 7 + 2] A1 A2 → cRep s P I2 A2 := fun A2 f => cRep_bk r1 n2 (by rw [← hI2, upI_f (by decide), upI_f (by decide), upI_f (by decide)]) (by rw [← hI2, upI_f (by decide), upI_f (by decide), upI_f (by decide)]) f
          have e4 : I2 (P 7) 4 = (dAcc s (j + 1)).1 := by rw [← hI2, upI_s, upI_f (by decide), upI_f (by decide), m1.1, ea]
          have e5 : I2 (P 7) 5 = (dAcc s (j + 1)).2.1 := by rw [← hI2, upI_f (by decide), upI_f (by decide), upI_s, ea, hv]
          have e6 : I2 (P 7) 6 = (dAcc s (j + 1)).2.2 := by rw [← hI2, upI_f (by decide), upI_s, ea]
          have eN : I2 (P 1) 0 = nI (sN s) := (r2 A1 fr_r).2.2.1.1
          have inner : ∀ k, k ≤ sN s → ∀ A2, Fr [P 7 + 2] A1 A2 → (∀ t, t < sN s → ∀ p, p < 3 → A2 (P 7 + 2) (3 * t + p) = nI (dT s t p (if t < k then j + 1 else j))) → gWp (gTab (tb_Book_measure (meth (d + 3)))) Q X 94 [some (.ref (x + P 7)), some (.ref (x + 13)), some (.ref (x + P 1)), some (.int (mJ j)), some (.int (nI k))] [] (gset H x cck P I2 A2) := by
            refine gdown ?_ ?_
            · intro A2 f2 m2
              refine wb_Book_measure_94 hm h7 h1 ⟨fun _ => wb_Book_measure_131 hm ?_, fun c => absurd (by rw [eN]; exact nI_le (Nat.le_refl _) (by omega)) c⟩
              rw [mJ_1 j hj]
              exact ih I2 A2 (r2 A2 f2) ⟨e4, e5, e6, fun t ht p hp => by have := m2 t ht p hp; rwa [if_pos ht] at this⟩
            · intro k hk ihk A2 f2 m2
              refine wb_Book_measure_94 hm h7 h1 ⟨fun c => absurd c (by rw [eN]; exact nI_ge hk (by omega)), fun _ => cs_sideThen hs (r2 A2 f2) hk (wb_Book_measure_119 hm h7 ?_)⟩
              obtain ⟨p0, hp0, ep⟩ := dSide_n (s := s) (t := k) (v := mJ j)
              rw [ep, nI_3, show nI (3 * k) + nI p0 = nI (3 * k + p0) from nI_add _ _, nI_clamp (by omega), m2 k hk p0 hp0, if_neg (by omega), nI_1, nI_1]
              refine ⟨vp_in_nI (by omega) (by omega), vp_in_nI (by omega) (by omega), ihk _ (fr_t f2 (fr_A fr_r (by simp))) (fun t ht p hp => ?_)⟩
              rw [upA_s]
              by_cases he : t = k
              · subst he
                rw [if_pos (by omega)]
                by_cases hpp : p = p0
                · subst hpp
                  rw [upd_at, dT, if_pos ⟨hf, ep⟩]
                · have hne : ¬ (dFit s (mJ j) = true ∧ dSide s t (mJ j) = nI p) := fun q => hpp ((nI_eq (by omega) (by omega)).mp (q.2.symm.trans ep))
                  rw [upd_ne (by omega), m2 t ht p hp, if_neg (by omega), dT, if_neg hne]
              · rw [upd_ne (by omega), m2 t ht p hp]
                by_cases hlt : t < k
                · rw [if_pos hlt, if_pos (by omega)]
                · rw [if_neg hlt, if_neg (by omega)]
          refine inner 0 (Nat.zero_le _) A1 fr_r (fun t ht p hp => ?_)
          rw [if_neg (Nat.not_lt_zero t)]
          exact m1.2.2.2 t ht p hp
        refine ⟨fun c2 => g73 _ ?_, fun c2 => g73 _ ?_⟩
        · rw [m1.2.1, if_neg (by rw [← m1.1]; exact c2)]
        · rw [if_pos (by rw [← m1.1]; exact Classical.not_not.mp c2)]
  refine me_Book_measure (wb_Book_measure_0 hm h7 ?_)
  generalize hI2 : upI (upI (upI I (P 7) 4 0) (P 7) 5 (-41)) (P 7) 6 (-41) = I2
  have n2 : ∀ j', j' ≠ P 7 → I2 j' = I j' := fun j' hj' => by rw [← hI2, upI_n hj', upI_n hj', upI_n hj']
  have r2 : ∀ A2, Fr [P 7 + 2] A A2 → cRep s P I2 A2 := fun A2 f => cRep_bk hr n2 (by rw [← hI2, upI_f (by decide), upI_f (by decide), upI_f (by decide)]) (by rw [← hI2, upI_f (by decide), upI_f (by decide), upI_f (by decide)]) f
  have zero : ∀ k, k ≤ 24 → ∀ A2, Fr [P 7 + 2] A A2 → (∀ i, i < k → A2 (P 7 + 2) i = 0) → gWp (gTab (tb_Book_measure (meth (d + 3)))) Q X 19 [some (.ref (x + P 7)), some (.ref (x + 13)), some (.ref (x + P 1)), some (.int (nI k)), none] [] (gset H x cck P I2 A2) := by
    refine gdown ?_ ?_
    · intro A2 f2 z2
      refine wb_Book_measure_19 hm h7 ⟨fun _ => ?_, fun c => absurd (nI_le (a := 24) (by omega) (by omega)) c⟩
      exact loop 0 (Nat.zero_le _) I2 A2 (r2 A2 f2) ⟨by rw [← hI2, upI_f (by decide), upI_f (by decide), upI_s]; rfl, by rw [← hI2, upI_f (by decide), upI_s]; rfl, by rw [← hI2, upI_s]; rfl, fun t ht p hp => by rw [z2 _ (by omega)]; rfl⟩
    · intro k hk ih A2 f2 z2
      refine wb_Book_measure_19 hm h7 ⟨fun c => absurd c (nI_ge (b := 24) (by omega) (by omega)), fun _ => ⟨vp_in_nI (by omega) (by omega), ?_⟩⟩
      rw [nI_clamp (by omega), nI_1]
      refine ih _ (fr_t f2 (fr_A fr_r (by simp))) (fun i hi => ?_)
      rw [upA_s]
      by_cases he : i = k
      · rw [he, upd_at]
      · rw [upd_ne he]; exact z2 i (by omega)
  exact zero 0 (Nat.zero_le _) A fr_r (fun t ht => absurd ht (Nat.not_lt_zero t))
end DRC
