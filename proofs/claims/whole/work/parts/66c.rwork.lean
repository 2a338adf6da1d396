/-! ===== L2: a work's text, the reference ===== -/
def rPw (E : Nat → Prop) (A : Nat → Nat → Int32) (g : PG) (i : Nat) : Prop := A 15 (4 * i) = nI (g.1 i) ∧ (g.1 i ≤ 1 ∨ g.1 i = 5 → A 15 (4 * i + 1) = nI (g.2.1 i)) ∧ (g.1 i = 0 → A 15 (4 * i + 2) = nI (g.2.2.1 i)) ∧ (g.1 i = 5 ∧ ¬ E i → A 15 (4 * i + 2) = nI (4 * g.2.2.1 i)) ∧ (g.1 i = 0 → A 15 (4 * i + 3) = g.2.2.2 i)
def wqI (I I' : Nat → Nat → Int32) : Prop := ∀ f, f ≠ 4 → f ≠ 5 → f ≠ 6 → f ≠ 31 → I' 0 f = I 0 f
def wq7 (I I' : Nat → Nat → Int32) : Prop := ∀ f, f ≠ 4 → f ≠ 5 → f ≠ 6 → f ≠ 31 → f ≠ 7 → I' 0 f = I 0 f
def wqB (A A' : Nat → Nat → Int32) : Prop := Fr [15] A A'
theorem wqI_r {I : Nat → Nat → Int32} : wqI I I := fun _ _ _ _ _ => rfl
theorem wqI_t {I I' I'' : Nat → Nat → Int32} (h : wqI I I') (k : wqI I' I'') : wqI I I'' := fun f a b c d => (k f a b c d).trans (h f a b c d)
theorem wqI_T {I I' : Nat → Nat → Int32} (h : tR I I') : wqI I I' := fun f a b c _ => h f a b c
theorem wqI_31 {I : Nat → Nat → Int32} {a : Int32} : wqI I (upI I 0 31 a) := fun f _ _ _ h => upI_f h
theorem wq7_t {I I' I'' : Nat → Nat → Int32} (h : wq7 I I') (k : wq7 I' I'') : wq7 I I'' := fun f a b c d e => (k f a b c d e).trans (h f a b c d e)
theorem wq7_I {I I' : Nat → Nat → Int32} (h : wqI I I') : wq7 I I' := fun f a b c d _ => h f a b c d
theorem wqI_7 {I I' : Nat → Nat → Int32} {a : Int32} (h : wq7 I I') (ha : a = I 0 7) : wqI I (upI I' 0 7 a) := fun f h4 h5 h6 h31 => by
  by_cases h7 : f = 7
  · rw [h7, upI_s, ha]
  · rw [upI_f h7]; exact h f h4 h5 h6 h31 h7
theorem rPw_agr {E : Nat → Prop} {A A' : Nat → Nat → Int32} {g g' : PG} {i : Nat} (h : rPw E A g i) (ha : agr g g' i) (e : ∀ j, 4 * i ≤ j → j < 4 * i + 4 → A' 15 j = A 15 j) : rPw E A' g' i := by
  obtain ⟨a1, a2, a3, a4⟩ := ha
  unfold rPw at h ⊢
  rw [e (4 * i) (by omega) (by omega), e (4 * i + 1) (by omega) (by omega), e (4 * i + 2) (by omega) (by omega), e (4 * i + 3) (by omega) (by omega), ← a1, ← a2, ← a3, ← a4]
  exact h
theorem rPw_push {E : Nat → Prop} {A A' : Nat → Nat → Int32} {z : PZ} {w a c : Nat} {t : Int32} (h : ∀ i, i < z.2 → rPw E A z.1 i) (e : ∀ j, j < 4 * z.2 → A' 15 j = A 15 j) (h0 : A' 15 (4 * z.2) = nI w) (h1 : w ≤ 1 ∨ w = 5 → A' 15 (4 * z.2 + 1) = nI a) (h2 : w = 0 → A' 15 (4 * z.2 + 2) = nI c) (h5 : w = 5 → E z.2) (h3 : w = 0 → A' 15 (4 * z.2 + 3) = t) : ∀ i, i < z.2 + 1 → rPw E A' (zpush z w a c t).1 i := by
  intro i hi
  by_cases he : i = z.2
  · subst he
    have e1 : (zpush z w a c t).1.1 z.2 = w := updN_s
    have e2 : (zpush z w a c t).1.2.1 z.2 = a := updN_s
    have e3 : (zpush z w a c t).1.2.2.1 z.2 = c := updN_s
    have e4 : (zpush z w a c t).1.2.2.2 z.2 = t := upd_at
    unfold rPw
    rw [e1, e2, e3, e4]
    exact ⟨h0, h1, h2, fun q => absurd (h5 q.1) q.2, h3⟩
  · have hi2 : i < z.2 := by omega
    exact rPw_agr (h i hi2) (agr_push hi2) (fun j h1 h2 => e j (by omega))
def rdeedSp (b : Nat → Int32) (n N dd op : Nat) (St : PZ → Nat → PZ × PO) : Prop :=
  ∀ (d : Nat), dd ≤ d → ∀ (Q : gQ) (X : gX) (H : gH) (x : Nat) (P : Nat → Nat) (I A : Nat → Nat → Int32) (s : Nat) (z : PZ) (E : Nat → Prop), A 2 = b → rS b n (.inr s) I → s ≤ n → 4 * z.2 ≤ s → I 0 7 = nI op → I 0 19 = nI N → I 0 31 = nI (4 * z.2) → (∀ i, i < z.2 → rPw E A z.1 i) → (∀ i, E i → i < z.2) →
    (∀ I' A', wqI I I' → wqB A A' → rS b n (St z s).2 I' → (osnd (St z s).2 = true → I' 0 31 = nI (4 * (St z s).1.2) ∧ ∀ i, i < (St z s).1.2 → rPw E A' (St z s).1.1 i) → Q none (gset H x mck P I' A')) → meth d m_R_readStep [.ref (x + 0)] (gset H x mck P I A) Q X
section L2DR
variable {n N : Nat} {b : Nat → Int32}
theorem sp_R_tellsStep {d k : Nat} {Q : gQ} {X : gX} {H : gH} {x : Nat} {P : Nat → Nat} {I A : Nat → Nat → Int32} {o : PO} {v1 v2 v3 v4 : Int32} (hn : n ≤ 600) (hc : rS b n o I) (hk : osnd o = true → I 0 31 = nI (4 * k) ∧ k < 50) (h0 : osnd o = false → Q none (gset H x mck P I A))
    (h1 : osnd o = true → ∀ A', Fr [15] A A' → A' 15 (4 * k) = v1 → A' 15 (4 * k + 1) = v2 → A' 15 (4 * k + 2) = v3 → A' 15 (4 * k + 3) = v4 → (∀ j, j < 4 * k → A' 15 j = A 15 j) → Q none (gset H x mck P (upI I 0 31 (nI (4 * (k + 1)))) A')) : meth (d + 2) m_R_tellsStep [.ref (x + 0), .int v1, .int v2, .int v3, .int v4] (gset H x mck P I A) Q X := by
  have hm := @mo_R_tellsStep (meth (d + 1)) (meth_smono (d + 1))
  refine me_R_tellsStep (wb_R_tellsStep_0 hm (sp_R_fine hn hc (wb_R_tellsStep_4 hm ?_)))
  cases o with
  | inl e => exact ⟨fun c => absurd rfl c, fun _ => h0 rfl⟩
  | inr s =>
    obtain ⟨e, hk5⟩ := hk rfl
    refine ⟨fun _ => ?_, fun c => absurd i01_1 c⟩
    have e1 : nI (4 * k) + 1 = nI (4 * k + 1) := nI_1 _
    have e2 : nI (4 * k) + 2 = nI (4 * k + 2) := nI_add _ 2
    have e3 : nI (4 * k) + 3 = nI (4 * k + 3) := nI_add _ 3
    have e4 : nI (4 * k) + 4 = nI (4 * (k + 1)) := nI_add _ 4
    rw [e, e1, e2, e3, e4, nI_clamp (by omega), nI_clamp (by omega), nI_clamp (by omega), nI_clamp (by omega)]
    refine ⟨vp_in_nI (by omega) (by omega), vp_in_nI (by omega) (by omega), vp_in_nI (by omega) (by omega), vp_in_nI (by omega) (by omega), h1 rfl _ (fr_A (fr_A (fr_A (fr_A fr_r (by simp)) (by simp)) (by simp)) (by simp)) ?_ ?_ ?_ ?_ (fun j hj => ?_)⟩
    all_goals simp only [upA_s]
    · rw [upd_ne (by omega), upd_ne (by omega), upd_ne (by omega), upd_at]
    · rw [upd_ne (by omega), upd_ne (by omega), upd_at]
    · rw [upd_ne (by omega), upd_at]
    · rw [upd_at]
    · rw [upd_ne (by omega), upd_ne (by omega), upd_ne (by omega), upd_ne (by omega)]
set_option maxHeartbeats 2000000 in
theorem rd_step {S : Option (PZ × PO → PZ × PO)} {dd op g : Nat} (hn : n ≤ 150) (hN8 : N ≤ 8) (hS : ∀ F, S = some F → op < 6 ∧ ∃ St g', F = wloop (stopH b n) St 150 ∧ rdeedSp b n N dd (op + 1) St ∧ wGood n N g' St ∧ wGoodL n N g F) (hNo : S = none → op = 6) (hop : op ≤ 6) (hdd : 5 ≤ dd) : rdeedSp b n N (dd + 1) op (pstep b n N S) := by
  intro d0 hd0 Q X H x P I A s z E hA hc hs hz4 h7 h19 h31 hcp hE h
  obtain ⟨d, rfl⟩ : ∃ d, d0 = d + 6 := ⟨d0 - 6, by omega⟩
  have hm := @mo_R_readStep (meth (d + 5)) (meth_smono (d + 5))
  have hn6 : n ≤ 600 := by omega
  -- the sign at the end
  have end_ : ∀ I1 A1 (z1 : PZ) (o1 : PO) v1, pstep b n N S z s = (z1, osign b n 59 o1) → wqI I I1 → wqB A A1 → rS b n o1 I1 → (osnd o1 = true → I1 0 31 = nI (4 * z1.2) ∧ ∀ i, i < z1.2 → rPw E A1 z1.1 i) → gWp (gTab (tb_R_readStep (meth (d + 5)))) Q X 280 [some (.ref (x + 0)), some (.int v1), none, none] [] (gset H x mck P I1 A1) := by
    intro I1 A1 z1 o1 v1 e f1 f2 k1 p1
    rw [e] at h
    refine wb_R_readStep_280 hm (sp_R_sign (by decide) (by decide) (by decide) hn6 (by rw [f2 2 (by decide)]; exact hA) k1 (fun I2 t2 k2 => wb_R_readStep_286 hm (h I2 A1 (wqI_t f1 (wqI_T t2)) f2 k2 (fun ho => ?_))))
    obtain ⟨g1, g2⟩ := p1 (osign_snd ho)
    exact ⟨by rw [t2 31 (by decide) (by decide) (by decide)]; exact g1, g2⟩
  refine me_R_readStep (wb_R_readStep_0 hm (sp_R_word hn6 hA hc (fun I1 t1 k1 => wb_R_readStep_4 hm ?_)))
  have hs' := k1.2.2.2.1
  have we : ∀ i, letW (gtx i) = true → (nI (wvN b n s) = nI (ofN (gtx i)) ↔ isW b n s (gtx i) = true) := fun i hi => word_eq hs' hi
  have wn : ∀ i, letW (gtx i) = true → ¬ nI (wvN b n s) = nI (ofN (gtx i)) → isW b n s (gtx i) = false := fun i hi hne => by
    cases hq : isW b n s (gtx i)
    · rfl
    · exact absurd ((we i hi).mpr hq) hne
  -- any step's own facts
  have fct : ∀ w, oword b n dwW s = some w → z.2 < 50 ∧ nx b n s ≤ n := fun w hw => by
    obtain ⟨w6, t3, t4, t5, t6⟩ := dw_3 hs hw
    exact ⟨by omega, t5⟩
  have eP : ∀ w, oword b n dwW s = some w → pstep b n N S z s = pstepW b n N S z s w := fun w hw => by unfold pstep; rw [hw]
  have j31 : ∀ I', tR I I' → I' 0 31 = nI (4 * z.2) := fun I' t => by rw [t 31 (by decide) (by decide) (by decide)]; exact h31
  have j19 : ∀ I', tR I I' → I' 0 19 = nI N := fun I' t => by rw [t 19 (by decide) (by decide) (by decide)]; exact h19
  -- fly, vote, year
  have simple : ∀ i w, isW b n s (gtx i) = true → widx (fun v => decide (v = gtx i)) dwW 0 = some w → 2 ≤ w → w ≤ 4 → (w = 2 ↔ i = 18) → (w = 3 ↔ i = 19) → (i = 18 ∨ i = 19 ∨ i = 15) → gWp (gTab (tb_R_readStep (meth (d + 5)))) Q X 35 [some (.ref (x + 0)), some (.int (nI (wvN b n s))), none, none] [] (gset H x mck P I1 A) := by
    intro i w hw hk w2 w4 wi1 wi2 hi
    have hw' := oword_of hw hk
    obtain ⟨k50, nxn⟩ := fct w hw'
    have e18 : isW b n s (gtx 18) = decide (gtx 18 = gtx i) := isW_eq hw _
    have e19 : isW b n s (gtx 19) = decide (gtx 19 = gtx i) := isW_eq hw _
    refine wb_R_readStep_35 hm (sp_R_passW hn6 hA k1 (oword_tk hw') (fun I2 t2 k2 => wb_R_readStep_39 hm ?_))
    have t12 := tR_t t1 t2
    have g69 : gWp (gTab (tb_R_readStep (meth (d + 5)))) Q X 69 [some (.ref (x + 0)), some (.int (nI (wvN b n s))), none, none] [.int (nI w), .ref (x + 0)] (gset H x mck P I2 A) := by
      refine wb_R_readStep_69 hm (sp_R_tellsStep (k := z.2) hn6 k2 (fun _ => ⟨j31 I2 t12, k50⟩) (fun q => by cases q) (fun _ A3 f3 q1 q2 q3 q4 q5 => wb_R_readStep_75 hm ?_))
      refine end_ _ A3 (zpush z w 0 0 0) (.inr (nx b n s)) _ ?_ (wqI_t (wqI_T t12) wqI_31) f3 (rS_I (by decide) k2) (fun _ => ⟨upI_s, rPw_push hcp q5 q1 (fun q => by omega) (fun q => by omega) (fun q => by omega) (fun q => by omega)⟩)
      rw [eP w hw']
      unfold pstepW
      rw [if_neg (by omega), if_neg (by omega), if_neg (by omega)]
    refine sp_R_of (i := 18) (by omega) (by decide +kernel) (wb_R_readStep_47 hm ⟨fun c => sp_R_of (i := 19) (by omega) (by decide +kernel) (wb_R_readStep_61 hm ⟨fun c2 => ?_, fun c2 => ?_⟩), fun c => ?_⟩)
    · have n18 : i ≠ 18 := fun q => c ((we 18 (by decide +kernel)).mpr (by rw [e18, q]; exact decide_eq_true rfl))
      have n19 : i ≠ 19 := fun q => c2 ((we 19 (by decide +kernel)).mpr (by rw [e19, q]; exact decide_eq_true rfl))
      have : w = 4 := by
        have : w ≠ 2 := fun q => n18 (wi1.mp q)
        have : w ≠ 3 := fun q => n19 (wi2.mp q)
        omega
      rw [this] at g69
      exact g69
    · have q := (we 19 (by decide +kernel)).mp (Classical.not_not.mp c2)
      rw [e19, decide_eq_true_eq] at q
      have : i = 19 := by
        rcases hi with rfl | rfl | rfl
        · exact absurd q (by decide +kernel)
        · rfl
        · exact absurd q (by decide +kernel)
      rw [wi2.mpr this] at g69
      exact g69
    · have q := (we 18 (by decide +kernel)).mp (Classical.not_not.mp c)
      rw [e18, decide_eq_true_eq] at q
      have : i = 18 := by
        rcases hi with rfl | rfl | rfl
        · rfl
        · exact absurd q (by decide +kernel)
        · exact absurd q (by decide +kernel)
      rw [wi1.mpr this] at g69
      exact g69
  refine sp_R_of (i := 18) (by omega) (by decide +kernel) (wb_R_readStep_12 hm ⟨fun c => simple 18 2 ((we 18 (by decide +kernel)).mp c) (by decide +kernel) (by omega) (by omega) (by omega) (by omega) (by omega), fun n18 => ?_⟩)
  refine sp_R_of (i := 19) (by omega) (by decide +kernel) (wb_R_readStep_22 hm ⟨fun c => simple 19 3 ((we 19 (by decide +kernel)).mp c) (by decide +kernel) (by omega) (by omega) (by omega) (by omega) (by omega), fun n19 => ?_⟩)
  refine sp_R_of (i := 15) (by omega) (by decide +kernel) (wb_R_readStep_32 hm ⟨fun n15 => ?_, fun c => simple 15 4 ((we 15 (by decide +kernel)).mp (Classical.not_not.mp c)) (by decide +kernel) (by omega) (by omega) (by omega) (by omega) (by omega)⟩)
  refine sp_R_of (i := 20) (by omega) (by decide +kernel) (wb_R_readStep_85 hm ⟨fun n20 => ?_, fun c => ?_⟩)
  · refine sp_R_of (i := 11) (by omega) (by decide +kernel) (wb_R_readStep_140 hm ⟨fun n11 => ?_, fun c => ?_⟩)
    · refine sp_R_of (i := 21) (by omega) (by decide +kernel) (wb_R_readStep_175 hm ⟨fun n21 => ?_, fun c => ?_⟩)
      · -- none of them
        have hno : oword b n dwW s = none := by
          refine oword_no (fun w hw => ?_)
          have e : dwW = [gtx 20, gtx 11, gtx 18, gtx 19, gtx 15, gtx 21] := by decide +kernel
          rw [e] at hw
          simp only [List.mem_cons, List.not_mem_nil, or_false] at hw
          rcases hw with rfl | rfl | rfl | rfl | rfl | rfl
          · exact wn 20 (by decide +kernel) n20
          · exact wn 11 (by decide +kernel) n11
          · exact wn 18 (by decide +kernel) n18
          · exact wn 19 (by decide +kernel) n19
          · exact wn 15 (by decide +kernel) n15
          · exact wn 21 (by decide +kernel) n21
        rw [k1.2.1]
        refine sp_R_wrong (k := 1) (q := s) (by omega) hs' hn6 (rX_S k1) (fun I2 t2 k2 _ => end_ I2 A z (.inl (1, s)) _ (by unfold pstep; rw [hno]; rfl) (wqI_T (tR_t t1 t2)) fr_r k2 (fun q => by cases q))
      · -- again
        have hq := (we 21 (by decide +kernel)).mp (Classical.not_not.mp c)
        have hw := oword_of hq (show widx (fun v => decide (v = gtx 21)) dwW 0 = some 5 by decide +kernel)
        obtain ⟨w6, t3, t4, t5, t6⟩ := dw_3 hs hw
        obtain ⟨k50, nxn⟩ := fct 5 hw
        have eA : pstep b n N S z s = pagain b n S z s := by rw [eP 5 hw]; rfl
        have hte := (isW_te hq).symm
        refine sp_R_opensOne (k := 5) hn6 k1 (by rw [t1 7 (by decide) (by decide) (by decide)]; exact h7) hop hte (fun I2 f2 j7 j26 k2 => wb_R_readStep_183 hm ?_)
        have r2 : wq7 I I2 := fun f a1 a2 a3 a4 a5 => by
          by_cases h26 : f = 26
          · rw [h26, j26]; exact t1 26 (by decide) (by decide) (by decide)
          · rw [f2 f a1 a2 a3 h26 a5]; exact t1 f a1 a2 a3
        have j31' : I2 0 31 = nI (4 * z.2) := by rw [f2 31 (by decide) (by decide) (by decide) (by decide) (by decide)]; exact j31 I1 t1
        refine sp_R_readNumber (lo := 0) (hi := 31) rfl rfl (by omega) (by omega) hn6 hA k2 (fun I3 t3' k3 => wb_R_readStep_190 hm (sp_R_sign (by decide) (by decide) (by decide) hn6 hA k3 (fun I4 t4' k4 => wb_R_readStep_197 hm ?_)))
        have t34 := tR_t t3' t4'
        have r4 : wq7 I I4 := wq7_t r2 (wq7_I (wqI_T t34))
        have j7' : I4 0 7 = nI (op + 1) := by rw [t34 7 (by decide) (by decide) (by decide)]; exact j7
        have j31'' : I4 0 31 = nI (4 * z.2) := by rw [t34 31 (by decide) (by decide) (by decide)]; exact j31'
        -- the end of it, from 233
        have tail : ∀ I6 A6 v2 (r : PZ × PO), wq7 I I6 → wqB A A6 → I6 0 7 = nI (op + 1) → rS b n r.2 I6 → pstep b n N S z s = (zsec r.1 z.2 r.1.2, osign b n 59 (osign b n 93 r.2)) ∨ (∃ e, r.2 = .inl e ∧ (pstep b n N S z s) = (z, .inl e)) → (osnd r.2 = true → z.2 < r.1.2 ∧ r.1.2 ≤ 50 ∧ r.1.1.1 z.2 = 5 ∧ I6 0 31 = nI (4 * r.1.2) ∧ ∀ i, i < r.1.2 → rPw (fun i => E i ∨ i = z.2) A6 r.1.1 i) → gWp (gTab (tb_R_readStep (meth (d + 5)))) Q X 233 [some (.ref (x + 0)), some (.int (nI (wvN b n s))), some (.int v2), some (.int (nI (4 * z.2)))] [] (gset H x mck P I6 A6) := by
          intro I6 A6 v2 r f6 g6 j6 k6 e6 p6
          refine wb_R_readStep_233 hm (sp_R_sign (by decide) (by decide) (by decide) hn6 (by rw [g6 2 (by decide)]; exact hA) k6 (fun I7 t7 k7 => wb_R_readStep_239 hm ?_))
          have q7 : I7 0 7 = nI (op + 1) := by rw [t7 7 (by decide) (by decide) (by decide)]; exact j6
          rw [q7, nI_pred op]
          have w7 : wqI I (upI I7 0 7 (nI op)) := wqI_7 (wq7_t f6 (wq7_I (wqI_T t7))) h7.symm
          have k7' : rS b n (osign b n 93 r.2) (upI I7 0 7 (nI op)) := rS_I (by decide) k7
          refine sp_R_fine hn6 k7' (wb_R_readStep_253 hm ⟨fun c => wb_R_readStep_268 hm ?_, fun c => ?_⟩)
          · have hf := b_i00 c
            rcases e6 with e6 | ⟨e, e61, e62⟩
            · exact end_ _ A6 _ (osign b n 93 r.2) _ e6 w7 g6 k7' (fun q => by rw [hf] at q; cases q)
            · rw [e61] at k7'
              exact end_ _ A6 z (.inl e) _ e62 w7 g6 k7' (fun q => by cases q)
          · have hf := b_i01 c
            have hr := osign_snd hf
            obtain ⟨p1, p50, p2, p3, p4⟩ := p6 hr
            have i31 : (upI I7 0 7 (nI op)) 0 31 = nI (4 * r.1.2) := by rw [upI_f (by decide), t7 31 (by decide) (by decide) (by decide)]; exact p3
            have e2 : nI (4 * z.2) + 2 = nI (4 * z.2 + 2) := nI_add _ 2
            rw [i31, e2, nI_clamp (by omega)]
            refine ⟨vp_in_nI (by omega) (by omega), wb_R_readStep_268 hm ?_⟩
            rcases e6 with e6 | ⟨e, e61, e62⟩
            · refine end_ _ _ _ (osign b n 93 r.2) _ e6 w7 (fr_A g6 (by simp)) k7' (fun _ => ⟨i31, fun i hi => ?_⟩)
              have hi : i < r.1.2 := hi
              have qi := p4 i hi
              by_cases he : i = z.2
              · subst he
                unfold rPw
                simp only [upA_s]
                rw [upd_ne (by omega), upd_ne (by omega), upd_at]
                refine ⟨qi.1, qi.2.1, fun q => ?_, fun _ => ?_, fun q => ?_⟩
                · have q : r.1.1.1 z.2 = 0 := q; omega
                · show _ = nI (4 * updN _ z.2 r.1.2 z.2)
                  rw [updN_s]
                · have q : r.1.1.1 z.2 = 0 := q; omega
              · have := rPw_agr (A' := upA A6 15 (4 * z.2 + 2) (nI (4 * r.1.2))) qi (agr_sec (z := r.1) (c := r.1.2) he) (fun j h1 h2 => by rw [upA_s, upd_ne (by omega)])
                exact ⟨this.1, this.2.1, this.2.2.1, fun q => this.2.2.2.1 ⟨q.1, fun e => e.elim q.2 he⟩, this.2.2.2.2⟩
            · rw [e61] at hr; cases hr
        cases S with
        | none =>
          have h6 := hNo rfl
          rw [if_pos h6] at k3 k4
          refine sp_R_tellsStep (k := 0) hn6 k4 (fun q => by cases q) (fun _ => wb_R_readStep_210 hm (sp_R_fine hn6 k4 (wb_R_readStep_214 hm ⟨fun _ => ?_, fun c => absurd rfl c⟩))) (fun q => by cases q)
          rw [j31'']
          exact tail I4 A _ (z, .inl (3, s)) r4 fr_r j7' k4 (Or.inr ⟨(3, s), rfl, eA⟩) (fun q => by cases q)
        | some F =>
          obtain ⟨ho6, St, g', hF, hSt, hG, hGL⟩ := hS F rfl
          rw [if_neg (by omega)] at k3 k4
          unfold pagain at eA
          dsimp only at eA
          have hpo := @onum_pos b n 0 31 (nx b n s)
          generalize hr1 : onum b n 0 31 (.inr (nx b n s)) = r1 at k3 k4 eA hpo
          generalize ho2 : osign b n 91 r1.2 = o2 at k4 eA
          have po2 : ∀ s2, o2 = .inr s2 → s2 ≤ n ∧ 4 * (z.2 + 1) ≤ s2 := by
            intro s2 e2
            rw [e2] at ho2
            obtain ⟨s1, e1, kk, _, e1'⟩ := osign_ok ho2
            have p1 := hpo t5 e1
            have hp := nx_P (b := b) p1.2.1
            have hl := hp.2.2 (tk_3 kk).1
            exact ⟨by rw [e1']; exact hp.1.1, by omega⟩
          have agk : ∀ s', (F (zpush z 5 r1.1 0 0, o2)).2 = .inr s' → agr (zpush z 5 r1.1 0 0).1 (F (zpush z 5 r1.1 0 0, o2)).1.1 z.2 ∧ z.2 < (F (zpush z 5 r1.1 0 0, o2)).1.2 ∧ (F (zpush z 5 r1.1 0 0, o2)).1.2 ≤ 50 := by
            intro s' e'
            cases ho : o2 with
            | inl er => rw [ho, hGL.1] at e'; cases e'
            | inr s2 =>
              rw [ho] at e'
              have pp := po2 s2 ho
              obtain ⟨a1, a2, a3, a4, a5, _⟩ := hGL.2 _ s2 s' pp.1 pp.2 e'
              have a4 : z.2 + 1 ≤ (F (zpush z 5 r1.1 0 0, .inr s2)).1.2 := a4
              exact ⟨a5 z.2 (by show z.2 < z.2 + 1; omega), by omega, by omega⟩
          have ztail : ∀ I6 A6 v2 (r : PZ × PO), wq7 I I6 → wqB A A6 → I6 0 7 = nI (op + 1) → rS b n r.2 I6 → r = F (zpush z 5 r1.1 0 0, o2) → (osnd r.2 = true → I6 0 31 = nI (4 * r.1.2) ∧ ∀ i, i < r.1.2 → rPw (fun i => E i ∨ i = z.2) A6 r.1.1 i) → gWp (gTab (tb_R_readStep (meth (d + 5)))) Q X 233 [some (.ref (x + 0)), some (.int (nI (wvN b n s))), some (.int v2), some (.int (nI (4 * z.2)))] [] (gset H x mck P I6 A6) := by
            intro I6 A6 v2 r f6 g6 j6 k6 e6 p6
            refine tail I6 A6 v2 r f6 g6 j6 k6 (Or.inl (by rw [e6]; exact eA)) (fun hs => ?_)
            cases hh : r.2 with
            | inl er => rw [hh] at hs; cases hs
            | inr s' =>
              rw [← e6] at agk
              obtain ⟨ag, al, a50⟩ := agk s' hh
              exact ⟨al, a50, by rw [← ag.1]; exact updN_s, (p6 hs).1, (p6 hs).2⟩
          -- the loop
          have loop : ∀ (f i : Nat) (r : PZ × PO) (I6 A6 : Nat → Nat → Int32) (v2 : Int32), i + f = 150 → wq7 I I6 → wqB A A6 → I6 0 7 = nI (op + 1) → rS b n r.2 I6 → wloop (stopH b n) St f r = F (zpush z 5 r1.1 0 0, o2) → (∀ s, r.2 = .inr s → s ≤ n ∧ 4 * i ≤ s ∧ 4 * r.1.2 ≤ s ∧ z.2 < r.1.2 ∧ I6 0 31 = nI (4 * r.1.2) ∧ (∀ i, i < r.1.2 → rPw (fun i => E i ∨ i = z.2) A6 r.1.1 i)) → gWp (gTab (tb_R_readStep (meth (d + 5)))) Q X 210 [some (.ref (x + 0)), some (.int (nI (wvN b n s))), some (.int v2), some (.int (nI (4 * z.2)))] [] (gset H x mck P I6 A6) := by
            intro f
            induction f with
            | zero =>
              intro i r I6 A6 v2 hi f6 g6 j6 k6 e6 p6
              refine wb_R_readStep_210 hm (sp_R_fine hn6 k6 (wb_R_readStep_214 hm ?_))
              rcases r with ⟨z1, ro⟩
              cases ro with
              | inl er => exact ⟨fun _ => ztail I6 A6 v2 (z1, .inl er) f6 g6 j6 k6 e6 (fun q => by cases q), fun c => absurd rfl c⟩
              | inr s1 => have := p6 s1 rfl; omega
            | succ f ih =>
              intro i r I6 A6 v2 hi f6 g6 j6 k6 e6 p6
              refine wb_R_readStep_210 hm (sp_R_fine hn6 k6 (wb_R_readStep_214 hm ?_))
              rcases r with ⟨z1, ro⟩
              cases ro with
              | inl er =>
                rw [wloop_inl] at e6
                exact ⟨fun _ => ztail I6 A6 v2 (z1, .inl er) f6 g6 j6 k6 e6 (fun q => by cases q), fun c => absurd rfl c⟩
              | inr s1 =>
                obtain ⟨ps, pi, p4, pz, p5, p7⟩ := p6 s1 rfl
                have pz : z.2 < z1.2 := pz
                have a6 : A6 2 = b := by rw [g6 2 (by decide)]; exact hA
                rw [wloop_r] at e6
                refine ⟨fun q => absurd q i01_1, fun _ => sp_R_here hn6 a6 k6 (fun I7 t7 k7 => wb_R_readStep_221 hm ⟨fun c => ?_, fun c => ?_⟩)⟩
                · have hst : stopH b n s1 = true := decide_eq_true ((hv_sg (by decide) (by decide) (by decide)).mp c)
                  rw [if_pos hst] at e6
                  exact ztail I7 A6 v2 (z1, .inr s1) (wq7_t f6 (wq7_I (wqI_T t7))) g6 (by rw [t7 7 (by decide) (by decide) (by decide)]; exact j6) (rX_S k7) e6 (fun _ => ⟨by rw [t7 31 (by decide) (by decide) (by decide)]; exact p5, p7⟩)
                · have hst : ¬ stopH b n s1 = true := fun q => c ((hv_sg (by decide) (by decide) (by decide)).mpr (decide_eq_true_eq.mp q))
                  rw [if_neg hst] at e6
                  have f7 := wq7_t f6 (wq7_I (wqI_T t7))
                  refine hSt (d + 5) (by omega) _ _ _ _ _ _ _ s1 z1 (fun i => E i ∨ i = z.2) a6 (rX_S k7) ps p4 (by rw [t7 7 (by decide) (by decide) (by decide)]; exact j6) (by rw [f7 19 (by decide) (by decide) (by decide) (by decide) (by decide)]; exact h19) (by rw [t7 31 (by decide) (by decide) (by decide)]; exact p5) p7 (fun i hi => ?_) (fun I8 A8 f8 g8 k8 p8 => wb_R_readStep_230 hm (ih (i + 1) (St z1 s1) I8 A8 v2 (by omega) (wq7_t f7 (wq7_I f8)) (fr_t g6 g8) (by rw [f8 7 (by decide) (by decide) (by decide) (by decide), t7 7 (by decide) (by decide) (by decide)]; exact j6) k8 e6 (fun s' e' => ?_)))
                  · rcases hi with hi | hi
                    · have := hE i hi; omega
                    · omega
                  · obtain ⟨b1, b2, b3, b4, b5, _⟩ := hG z1 s1 s' ps p4 e'
                    have := p8 (by rw [e']; rfl)
                    exact ⟨b2, by omega, b3, by omega, this.1, this.2⟩
          have cE : ∀ i, i < z.2 → rPw (fun i => E i ∨ i = z.2) A z.1 i := fun i hi => by
            have := hcp i hi
            exact ⟨this.1, this.2.1, this.2.2.1, fun q => this.2.2.2.1 ⟨q.1, fun e => q.2 (Or.inl e)⟩, this.2.2.2.2⟩
          refine sp_R_tellsStep (k := z.2) hn6 k4 (fun _ => ⟨j31'', k50⟩) (fun hf => ?_) (fun ht A5 f5 q1 q2 q3 q4 q5 => ?_)
          · rw [j31'']
            refine loop 150 0 (zpush z 5 r1.1 0 0, o2) I4 A _ rfl r4 fr_r j7' k4 (by rw [hF]) (fun s2 e2 => ?_)
            have e2 : o2 = .inr s2 := e2
            rw [e2] at hf
            cases hf
          · rw [j31'']
            refine loop 150 0 (zpush z 5 r1.1 0 0, o2) _ A5 _ rfl (wq7_t r4 (wq7_I wqI_31)) f5 (by rw [upI_f (by decide)]; exact j7') (rS_I (by decide) k4) (by rw [hF]) (fun s2 e2 => ?_)
            have pp := po2 s2 e2
            rw [if_neg (show ¬ op = 6 by omega), hr1] at q2
            exact ⟨pp.1, by omega, pp.2, Nat.lt_succ_self _, upI_s, rPw_push cE q5 q1 (fun _ => q2) (fun q => by omega) (fun _ => Or.inr rfl) (fun q => by omega)⟩
    · -- school
      have hq := (we 11 (by decide +kernel)).mp (Classical.not_not.mp c)
      have hw := oword_of hq (show widx (fun v => decide (v = gtx 11)) dwW 0 = some 1 by decide +kernel)
      obtain ⟨k50, nxn⟩ := fct 1 hw
      refine sp_R_passW hn6 hA k1 (oword_tk hw) (fun I2 t2 k2 => wb_R_readStep_147 hm ?_)
      rw [j19 I2 (tR_t t1 t2)]
      refine sp_R_readNumber (lo := 0) (hi := N) rfl rfl (by omega) (by omega) hn6 hA k2 (fun I3 t3 k3 => wb_R_readStep_160 hm ?_)
      have t13 := tR_t t1 (tR_t t2 t3)
      have e : pstep b n N S z s = (zpush z 1 (onum b n 0 N (.inr (nx b n s))).1 0 0, osign b n 59 (onum b n 0 N (.inr (nx b n s))).2) := by rw [eP 1 hw]; rfl
      refine sp_R_tellsStep (k := z.2) hn6 k3 (fun _ => ⟨j31 I3 t13, k50⟩) (fun q => wb_R_readStep_165 hm (end_ I3 A _ _ _ e (wqI_T t13) fr_r k3 (fun q' => by rw [q] at q'; cases q'))) (fun _ A4 f4 q1 q2 q3 q4 q5 => wb_R_readStep_165 hm (end_ _ A4 _ _ _ e (wqI_t (wqI_T t13) wqI_31) f4 (rS_I (by decide) k3) (fun _ => ⟨upI_s, rPw_push hcp q5 q1 (fun _ => q2) (fun q => by omega) (fun q => by omega) (fun q => by omega)⟩)))
  · -- move
    have hq := (we 20 (by decide +kernel)).mp (Classical.not_not.mp c)
    have hw := oword_of hq (show widx (fun v => decide (v = gtx 20)) dwW 0 = some 0 by decide +kernel)
    obtain ⟨k50, nxn⟩ := fct 0 hw
    have e : pstep b n N S z s = pmove b n N z (.inr (nx b n s)) := by rw [eP 0 hw]; rfl
    unfold pmove at e
    refine sp_R_passW hn6 hA k1 (oword_tk hw) (fun I2 t2 k2 => wb_R_readStep_92 hm ?_)
    rw [j19 I2 (tR_t t1 t2)]
    refine sp_R_readNumber (lo := 0) (hi := N) rfl rfl (by omega) (by omega) hn6 hA k2 (fun I3 t3 k3 => wb_R_readStep_103 hm ?_)
    rw [j19 I3 (tR_t t1 (tR_t t2 t3))]
    generalize hr1 : onum b n 0 N (.inr (nx b n s)) = r1 at k3 e ⊢
    refine sp_R_readNumber (lo := 0) (hi := N) rfl rfl (by omega) (by omega) hn6 hA k3 (fun I4 t4 k4 => wb_R_readStep_115 hm ?_)
    generalize hr2 : onum b n 0 N r1.2 = r2 at k4 e ⊢
    refine sp_R_readNumber (lo := 1) (hi := 100) rfl rfl (by omega) (by omega) hn6 hA k4 (fun I5 t5 k5 => wb_R_readStep_127 hm ?_)
    generalize hr3 : onum b n 1 100 r2.2 = r3 at k5 e ⊢
    have t15 := tR_t t1 (tR_t t2 (tR_t t3 (tR_t t4 t5)))
    refine sp_R_tellsStep (k := z.2) hn6 k5 (fun _ => ⟨j31 I5 t15, k50⟩) (fun q => wb_R_readStep_130 hm (end_ I5 A _ _ _ e (wqI_T t15) fr_r k5 (fun q' => by rw [q] at q'; cases q'))) (fun _ A4 f4 q1 q2 q3 q4 q5 => wb_R_readStep_130 hm (end_ _ A4 _ _ _ e (wqI_t (wqI_T t15) wqI_31) f4 (rS_I (by decide) k5) (fun _ => ⟨upI_s, rPw_push hcp q5 q1 (fun _ => q2) (fun _ => q3) (fun q => by omega) (fun _ => q4)⟩)))
theorem rd_all (hn : n ≤ 150) (hN8 : N ≤ 8) : ∀ g, g ≤ 6 → rdeedSp b n N (6 + g) (6 - g) (pstep b n N (wSub b n N g)) := by
  intro g
  induction g with
  | zero =>
    intro _
    exact rd_step (g := 0) (dd := 5) hn hN8 (fun F e => by cases e) (fun _ => rfl) (by omega) (by omega)
  | succ g ih =>
    intro hg
    have := rd_step (b := b) (n := n) (N := N) (S := wSub b n N (g + 1)) (g := g) (dd := 6 + g) (op := 6 - (g + 1)) hn hN8 (fun F e => ?_) (fun e => by cases e) (by omega) (by omega)
    · exact this
    · have hgl := wSub_good (g + 1) F e
      cases e
      refine ⟨by omega, _, g, rfl, ?_, pstep_good (fun F hF => wSub_good g F hF), hgl.2⟩
      rw [show 6 - (g + 1) + 1 = 6 - g by omega]
      exact ih (by omega)
end L2DR
