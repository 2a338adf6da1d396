/-! ===== L2: a state's text, the reference: rows and clauses ===== -/
section L2RS
variable {d n : Nat} {Q : gQ} {X : gX} {H : gH} {x : Nat} {P : Nat → Nat} {I A : Nat → Nat → Int32} {b : Nat → Int32} {o : PO} {z : LZ}
theorem sp_R_isRow {s : Nat} (hs : s ≤ n) (h : Q (some (.int (i01 (oword b n lwW s).isSome))) (gset H x mck P I A)) : meth (d + 6) m_R_isRow [.int (nI (wvN b n s))] (gset H x mck P I A) Q X := by
  have hm := @mo_R_isRow (meth (d + 5)) (meth_smono (d + 5))
  have w5 : nI (wvN b n s) = nI (ofN (gtx 5)) ↔ isW b n s (gtx 5) = true := word_eq hs (by decide +kernel)
  have w6 : nI (wvN b n s) = nI (ofN (gtx 6)) ↔ isW b n s (gtx 6) = true := word_eq hs (by decide +kernel)
  have w7 : nI (wvN b n s) = nI (ofN (gtx 7)) ↔ isW b n s (gtx 7) = true := word_eq hs (by decide +kernel)
  rw [oword_3] at h
  refine me_R_isRow (wb_R_isRow_0 hm (sp_R_of (i := 5) (by omega) (by decide +kernel) (wb_R_isRow_6 hm ⟨fun c => wb_R_isRow_27 hm (wb_R_isRow_32 hm ⟨rfl, ?_⟩), fun c => sp_R_of (i := 6) (by omega) (by decide +kernel) (wb_R_isRow_15 hm ⟨fun c2 => wb_R_isRow_27 hm (wb_R_isRow_32 hm ⟨rfl, ?_⟩), fun c2 => sp_R_of (i := 7) (by omega) (by decide +kernel) (wb_R_isRow_24 hm ⟨fun c3 => wb_R_isRow_32 hm ⟨rfl, ?_⟩, fun c3 => wb_R_isRow_27 hm (wb_R_isRow_32 hm ⟨rfl, ?_⟩)⟩)⟩)⟩)))
  · rw [if_pos (w5.mp c)] at h; exact h
  · rw [if_neg (fun q => c (w5.mpr q)), if_pos (w6.mp c2)] at h; exact h
  · rw [if_neg (fun q => c (w5.mpr q)), if_neg (fun q => c2 (w6.mpr q)), if_neg (fun q => c3 (w7.mpr q))] at h; exact h
  · rw [if_neg (fun q => c (w5.mpr q)), if_neg (fun q => c2 (w6.mpr q)), if_pos (w7.mp (Classical.not_not.mp c3))] at h; exact h
/-- the state of the reading ahead of the sign -/
def pclO (b : Nat → Int32) (n w : Nat) (z : LZ) (o : PO) : PO := if w = 0 then (onum b n 1 10 (onum b n 0 ((onum b n 1 100 o).1 + 1) (onum b n 1 100 o).2).2).2 else if w = 1 then oadv b n (rdO z (onum b n 0 (zN z) o).1 (onumh b n 0 (zN z) (onum b n 0 (zN z) o).2).1 (onumh b n 0 (zN z) (onum b n 0 (zN z) o).2).2) else (onum b n 0 2 o).2
theorem pclN_2 {w : Nat} : (pclN b n w z o).2 = osign b n 59 (pclO b n w z o) := by
  unfold pclN pclO
  by_cases h0 : w = 0
  · rw [if_pos h0, if_pos h0]; rfl
  · rw [if_neg h0, if_neg h0]
    by_cases h1 : w = 1
    · rw [if_pos h1, if_pos h1]; rfl
    · rw [if_neg h1, if_neg h1]; rfl
set_option maxHeartbeats 1000000 in
theorem sp_R_readRow {w : Nat} {v : Int32} (hv0 : v = nI (ofN (gtx 5)) ↔ w = 0) (hv1 : v = nI (ofN (gtx 6)) ↔ w = 1) (hn : n ≤ 600) (hA : A 2 = b) (hc : rS b n o I) (hz : lRl z I A) (hk : zOk z) (hN : w = 0 → zN z < 8) (hM : w = 1 → zM z < 12)
    (h : ∀ I' A', lfR I I' → lfB A A' → rS b n (pclO b n w z o) I' → (osnd (pclO b n w z o) = true → lRl (pclN b n w z o).1 I' A') → Q none (gset H x mck P I' A')) : meth (d + 6) m_R_readRow [.ref (x + 0), .int v] (gset H x mck P I A) Q X := by
  have hm := @mo_R_readRow (meth (d + 5)) (meth_smono (d + 5))
  refine me_R_readRow (wb_R_readRow_0 hm (sp_R_of (i := 5) (by omega) (by decide +kernel) (wb_R_readRow_6 hm ⟨fun c => sp_R_of (i := 6) (by omega) (by decide +kernel) (wb_R_readRow_83 hm ⟨fun c2 => ?_, fun c2 => ?_⟩), fun c => ?_⟩)))
  · have w0 : w ≠ 0 := fun q => c (hv0.mpr q)
    have w1 : w ≠ 1 := fun q => c2 (hv1.mpr q)
    unfold pclO pclN at h
    rw [if_neg w0, if_neg w1, if_neg w0, if_neg w1] at h
    refine sp_R_readNumber (lo := 0) (hi := 2) rfl rfl (by omega) (by omega) hn hA hc (fun I1 t1 q1 => wb_R_readRow_100 hm (wb_R_readRow_103 hm (h _ A (lfR_I (lfR_T t1) (by simp)) fr_r (rS_I (by decide) q1) (fun _ => ?_))))
    have hz1 := lRl_T t1 hz
    exact ⟨by rw [upI_f (by decide)]; exact hz1.1, by rw [upI_f (by decide)]; exact hz1.2.1, by rw [upI_s]; rfl, hz1.2.2.2⟩
  · have w1 : w = 1 := hv1.mp (Classical.not_not.mp c2)
    subst w1
    unfold pclO pclN at h
    rw [if_neg (by decide), if_pos rfl, if_neg (by decide), if_pos rfl] at h
    exact sp_R_readRoad hn hA hc hz hk (hM rfl) (fun I1 A1 f1 f2 q1 q2 => wb_R_readRow_90 hm (wb_R_readRow_103 hm (h I1 A1 f1 f2 q1 (fun q => q2 (by rwa [oadv_snd] at q)))))
  · have w0 : w = 0 := hv0.mp (Classical.not_not.mp c)
    subst w0
    have hN := hN rfl
    unfold pclO pclN at h
    rw [if_pos rfl, if_pos rfl] at h
    unfold pcl0 at h
    have i8 : vp_in (nI (zN z)) 8 := vp_in_nI (by omega) (by omega)
    refine sp_R_readNumber (lo := 1) (hi := 100) rfl rfl (by omega) (by omega) hn hA hc (fun I1 t1 q1 => wb_R_readRow_24 hm ?_)
    have hz1 := lRl_T t1 hz
    have b1' := onumh_le (b := b) (n := n) (lo := 1) (hi := 100) (o := o)
    have b1 : (onum b n 1 100 o).1 < 100 := by show (onumh b n 1 100 o).1 < 100; omega
    generalize h1 : onum b n 1 100 o = r1 at q1 h b1 ⊢
    rw [hz.1, hz1.1, nI_clamp (by omega), upA_s, upd_at]
    refine ⟨i8, i8, sp_R_readNumber (lo := 0) (hi := r1.1 + 1) rfl (nI_pred _).symm (by omega) (by omega) hn (by rw [upA_n (by decide)]; exact hA) q1 (fun I2 t2 q2 => wb_R_readRow_47 hm ?_)⟩
    have hz2 := lRl_T t2 hz1
    generalize h2 : onum b n 0 (r1.1 + 1) r1.2 = r2 at q2 h ⊢
    rw [nI_clamp (by omega)]
    refine ⟨i8, sp_R_readNumber (lo := 1) (hi := 10) rfl rfl (by omega) (by omega) hn (by rw [upA_n (by decide), upA_n (by decide)]; exact hA) q2 (fun I3 t3 q3 => wb_R_readRow_63 hm ?_)⟩
    have hz3 := lRl_T t3 hz2
    generalize h3 : onum b n 1 10 r2.2 = r3 at q3 h ⊢
    rw [hz2.1, hz3.1, nI_clamp (by omega), nI_1]
    refine ⟨i8, wb_R_readRow_103 hm (h _ _ (lfR_I (lfR_T (tR_t t1 (tR_t t2 t3))) (by simp)) (fr_A (fr_A (fr_A fr_r (by simp)) (by simp)) (by simp)) (rS_I (by decide) q3) (fun hs => ?_))⟩
    rw [if_pos hs]
    refine ⟨by rw [upI_s]; rfl, by rw [upI_f (by decide)]; exact hz3.2.1, by rw [upI_f (by decide)]; exact hz3.2.2.1, fun t ht => ?_, fun e he => ?_⟩
    · have ht : t < zN z + 1 := ht
      show _ = nI (updN (zV z) (zN z) r1.1 t) ∧ _ = nI (updN (zB z) (zN z) r2.1 t) ∧ _ = nI (updN (zC z) (zN z) r3.1 t)
      rw [upA_n (o := 5) (j := 3) (by decide), upA_n (o := 4) (j := 3) (by decide), upA_s, upA_n (o := 5) (j := 4) (by decide), upA_s, upA_n (o := 3) (j := 4) (by decide), upA_s, upA_n (o := 4) (j := 5) (by decide), upA_n (o := 3) (j := 5) (by decide)]
      by_cases hh : t = zN z
      · rw [hh, upd_at, upd_at, upd_at, updN_s, updN_s, updN_s]; exact ⟨rfl, rfl, rfl⟩
      · rw [upd_ne hh, upd_ne hh, upd_ne hh, updN_n hh, updN_n hh, updN_n hh]; exact hz3.2.2.2.1 t (by omega)
    · rw [upA_n (by decide), upA_n (by decide), upA_n (by decide)]
      exact hz3.2.2.2.2 e he
theorem oword_2 {s w : Nat} (hw : oword b n lwW s = some w) : tk b n s = 2 := by
  rw [oword_3] at hw
  have key : ∀ l, isW b n s l = true → tk b n s = 2 := by
    intro l q
    unfold isW isWg at q
    exact (decide_eq_true_eq.mp q).1
  by_cases h5 : isW b n s (gtx 5) = true
  · exact key _ h5
  · rw [if_neg h5] at hw
    by_cases h6 : isW b n s (gtx 6) = true
    · exact key _ h6
    · rw [if_neg h6] at hw
      by_cases h7 : isW b n s (gtx 7) = true
      · exact key _ h7
      · rw [if_neg h7] at hw; cases hw
set_option maxHeartbeats 2000000 in
theorem st_44 (hn : n ≤ 600) (v1 : Int32) : ∀ (f k : Nat) (z : LZ) (o : PO) (I A : Nat → Nat → Int32), k + f = 61 → (f = 0 → osnd o = false) → A 2 = b → rS b n o I → (osnd o = true → lRl z I A ∧ zOk z) →
    (∀ I' A' v2, lfR I I' → lfB A A' → rS b n (pland b n f k z o).2 I' → (osnd (pland b n f k z o).2 = true → lRl (pland b n f k z o).1 I' A') → gWp (gTab (tb_R_state (meth (d + 6)))) Q X 164 [some (.ref (x + 0)), some (.int v1), some (.int v2), none] [] (gset H x mck P I' A')) →
    gWp (gTab (tb_R_state (meth (d + 6)))) Q X 44 [some (.ref (x + 0)), some (.int v1), some (.int (nI k)), none] [] (gset H x mck P I A) := by
  have hm := @mo_R_state (meth (d + 6)) (meth_smono (d + 6))
  intro f
  induction f with
  | zero =>
    intro k z o I A hk hf hA hc hz h
    cases o with
    | inl e => exact wb_R_state_44 hm (sp_R_fine hn hc (wb_R_state_48 hm ⟨fun _ => h I A _ lfR_r fr_r hc (fun q => by cases q), fun c => absurd rfl c⟩))
    | inr s => exact absurd (show true = false from hf rfl) (by decide)
  | succ f ih =>
    intro k z o I A hk hf hA hc hz h
    refine wb_R_state_44 hm (sp_R_fine hn hc (wb_R_state_48 hm ?_))
    cases o with
    | inl e =>
      rw [pland_inl] at h
      exact ⟨fun _ => h I A _ lfR_r fr_r hc (fun q => by cases q), fun c => absurd rfl c⟩
    | inr s =>
      refine ⟨fun q => absurd q i01_1, fun _ => sp_R_isMore hn hA hc (fun I1 t1 q1 => wb_R_state_55 hm ⟨fun c => ?_, fun c => ?_⟩)⟩
      · have hs := b_i00 c
        rw [decide_eq_false_iff_not] at hs
        unfold pland at h
        rw [if_pos (by omega)] at h
        exact h I1 A _ (lfR_T t1) fr_r (rX_S q1) (fun q => lRl_T t1 (hz rfl).1)
      · have hs := b_i01 c
        rw [decide_eq_true_eq] at hs
        unfold pland at h
        rw [if_neg (by omega)] at h
        obtain ⟨hz0, hk0⟩ := hz rfl
        refine sp_R_word hn hA (rX_S q1) (fun I2 t2 q2 => wb_R_state_62 hm (sp_R_isRow (b := b) (n := n) (s := s) (by omega) (wb_R_state_67 hm ?_)))
        have t12 := tR_t t1 t2
        have hz2 := lRl_T t12 hz0
        have q2s := rX_S q2
        have q24 := q2.2.1
        -- behind a fault
        have bad : ∀ I3 v3 e, tR I I3 → rS b n (.inl e) I3 → (pclause b n k s z).2 = .inl e → gWp (gTab (tb_R_state (meth (d + 6)))) Q X 133 [some (.ref (x + 0)), some (.int v1), some (.int (nI k)), some (.int v3)] [] (gset H x mck P I3 A) := by
          intro I3 v3 e t3 q3 he
          rw [he, pland_inl] at h
          exact wb_R_state_133 hm (sp_R_fine hn q3 (wb_R_state_137 hm ⟨fun c => absurd rfl c, fun _ => h I3 A _ (lfR_T t3) fr_r q3 (fun q => by cases q)⟩))
        cases hw : oword b n lwW s with
        | none =>
          refine ⟨fun c => absurd rfl c, fun _ => ?_⟩
          rw [q24]
          refine sp_R_wrong (k := 1) (q := s) (by omega) (by omega) hn q2s (fun I3 t3 q3 _ => wb_R_state_79 hm (bad I3 _ (1, s) (tR_t t12 t3) q3 ?_))
          unfold pclause; rw [hw]
        | some w =>
          have hpw := pclause_w (b := b) (n := n) (z := z) (k := k) hw
          have w5 : nI (wvN b n s) = nI (ofN (gtx 5)) ↔ isW b n s (gtx 5) = true := word_eq (by omega) (by decide +kernel)
          have w6 : nI (wvN b n s) = nI (ofN (gtx 6)) ↔ isW b n s (gtx 6) = true := word_eq (by omega) (by decide +kernel)
          have hw3 : (isW b n s (gtx 5) = true ↔ w = 0) ∧ (isW b n s (gtx 6) = true ↔ w = 1) := by
            have hw' := hw
            rw [oword_3] at hw'
            by_cases h5 : isW b n s (gtx 5) = true
            · rw [if_pos h5] at hw'
              cases hw'
              refine ⟨⟨fun _ => rfl, fun _ => h5⟩, ⟨fun h6 => ?_, fun q => absurd q (by decide)⟩⟩
              exfalso
              unfold isW isWg at h5 h6
              rw [decide_eq_true_eq] at h5 h6
              have a1 := h5.2.2 0 (by decide)
              have a2 := h6.2.2 0 (by decide)
              rw [a1] at a2
              exact absurd a2 (by decide)
            · rw [if_neg h5] at hw'
              by_cases h6 : isW b n s (gtx 6) = true
              · rw [if_pos h6] at hw'
                cases hw'
                exact ⟨⟨fun q => absurd q h5, fun q => absurd q (by decide)⟩, ⟨fun _ => rfl, fun _ => h6⟩⟩
              · rw [if_neg h6] at hw'
                by_cases h7 : isW b n s (gtx 7) = true
                · rw [if_pos h7] at hw'
                  cases hw'
                  exact ⟨⟨fun q => absurd q h5, fun q => absurd q (by decide)⟩, ⟨fun q => absurd q h6, fun q => absurd q (by decide)⟩⟩
                · rw [if_neg h7] at hw'; cases hw'
          have v0 : nI (wvN b n s) = nI (ofN (gtx 5)) ↔ w = 0 := w5.trans hw3.1
          have v1' : nI (wvN b n s) = nI (ofN (gtx 6)) ↔ w = 1 := w6.trans hw3.2
          have many : 60 ≤ k ∨ (w = 0 ∧ 8 ≤ zN z) ∨ (w = 1 ∧ 12 ≤ zM z) → gWp (gTab (tb_R_state (meth (d + 6)))) Q X 124 [some (.ref (x + 0)), some (.int v1), some (.int (nI k)), some (.int (nI (wvN b n s)))] [] (gset H x mck P I2 A) := by
            intro hq
            refine wb_R_state_124 hm ?_
            rw [q24]
            refine sp_R_wrong (k := 3) (q := s) (by omega) (by omega) hn q2s (fun I3 t3 q3 _ => bad I3 _ (3, s) (tR_t t12 t3) q3 ?_)
            rw [hpw, if_pos hq]
          have good : ¬ (60 ≤ k ∨ (w = 0 ∧ 8 ≤ zN z) ∨ (w = 1 ∧ 12 ≤ zM z)) → gWp (gTab (tb_R_state (meth (d + 6)))) Q X 133 [some (.ref (x + 0)), some (.int v1), some (.int (nI k)), some (.int (nI (wvN b n s)))] [] (gset H x mck P I2 A) := by
            intro hq
            rw [hpw, if_neg hq] at h
            have hpo := fun q => pclause_ok (b := b) (n := n) (k := k) (s := s) hk0 q
            rw [hpw, if_neg hq] at hpo
            refine wb_R_state_133 hm (sp_R_fine hn q2s (wb_R_state_137 hm ⟨fun _ => sp_R_passW hn hA q2 (oword_2 hw) (fun I3 t3 q3 => wb_R_state_147 hm ?_), fun c => absurd i01_1 c⟩))
            refine sp_R_readRow (w := w) v0 v1' hn hA q3 (lRl_T t3 hz2) hk0 (fun q => ?_) (fun q => ?_) (fun I4 A4 f1 f2 q4 q5 => wb_R_state_152 hm ?_)
            · have : ¬ (w = 0 ∧ 8 ≤ zN z) := fun r => hq (Or.inr (Or.inl r))
              omega
            · have : ¬ (w = 1 ∧ 12 ≤ zM z) := fun r => hq (Or.inr (Or.inr r))
              omega
            · refine sp_R_sign (by decide) (by decide) (by decide) hn (by rw [f2 2 (by decide)]; exact hA) q4 (fun I5 t5 q6 => wb_R_state_158 hm ?_)
              rw [nI_1]
              rw [← pclN_2] at q6
              refine ih (k + 1) _ _ I5 A4 (by omega) (fun hf => ?_) (by rw [f2 2 (by decide)]; exact hA) q6 (fun q => ⟨lRl_T t5 (q5 ?_), hpo q⟩) (fun I6 A6 v2 g1 g2 q7 q8 => h I6 A6 v2 (lfR_t (lfR_T (tR_t t12 t3)) (lfR_t f1 (lfR_t (lfR_T t5) g1))) (fr_t f2 g2) q7 q8)
              · exfalso; omega
              · rw [pclN_2] at q; exact osign_snd q
          have n8 := hk0.1
          have n12 := hk0.2.1
          have k60 : nI k = 60 ↔ k = 60 := nI_eq (b := 60) (by omega) (by omega)
          refine ⟨fun _ => ⟨fun c => many (Or.inl (by have := k60.mp c; omega)), fun c => ?_⟩, fun c => absurd i01_1 c⟩
          have c60 : ¬ 60 ≤ k := fun q => c (k60.mpr (by omega))
          have e8 : I2 0 16 = 8 ↔ zN z = 8 := by rw [hz2.1]; exact nI_eq (b := 8) (by omega) (by omega)
          have e12 : I2 0 17 = 12 ↔ zM z = 12 := by rw [hz2.2.1]; exact nI_eq (b := 12) (by omega) (by omega)
          have g106 : ¬ (w = 0 ∧ 8 ≤ zN z) → gWp (gTab (tb_R_state (meth (d + 6)))) Q X 106 [some (.ref (x + 0)), some (.int v1), some (.int (nI k)), some (.int (nI (wvN b n s)))] [] (gset H x mck P I2 A) := by
            intro n0
            refine wb_R_state_106 hm (sp_R_of (i := 6) (by omega) (by decide +kernel) (wb_R_state_112 hm ⟨fun c1 => good ?_, fun c1 => ⟨fun c2 => good ?_, fun c2 => many (Or.inr (Or.inr ⟨v1'.mp (Classical.not_not.mp c1), ?_⟩))⟩⟩))
            · rintro (q | q | q)
              · exact c60 q
              · exact n0 q
              · exact c1 (v1'.mpr q.1)
            · rintro (q | q | q)
              · exact c60 q
              · exact n0 q
              · exact c2 (e12.mpr (by omega))
            · have := e12.mp (Classical.not_not.mp c2); omega
          refine sp_R_of (i := 5) (by omega) (by decide +kernel) (wb_R_state_94 hm ⟨fun c1 => g106 (fun q => c1 (v0.mpr q.1)), fun c1 => ⟨fun c2 => many (Or.inr (Or.inl ⟨v0.mp (Classical.not_not.mp c1), by have := e8.mp c2; omega⟩)), fun c2 => g106 (fun q => c2 (e8.mpr (by omega)))⟩⟩)
end L2RS
