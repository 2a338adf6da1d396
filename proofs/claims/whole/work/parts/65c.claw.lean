/-! ===== L2: a law's text, the class: products and sums ===== -/
theorem op_43 {b : Nat → Int32} {n s : Nat} {a : Nat} (h : isPl b n s = some a) : tk b n s = 3 ∧ b s = nI (sgc a) := by
  unfold isPl at h
  by_cases h3 : tk b n s = 3
  · rw [if_pos h3] at h
    refine ⟨h3, ?_⟩
    by_cases h1 : b s = 43
    · rw [if_pos h1] at h; cases h; exact h1
    · rw [if_neg h1] at h
      by_cases h2 : b s = 45
      · rw [if_pos h2] at h; cases h; exact h2
      · rw [if_neg h2] at h; cases h
  · rw [if_neg h3] at h; cases h
theorem op_42 {b : Nat → Int32} {n s : Nat} {a : Nat} (h : isTi b n s = some a) : tk b n s = 3 ∧ b s = nI (sgc a) := by
  unfold isTi at h
  by_cases h3 : tk b n s = 3
  · rw [if_pos h3] at h
    refine ⟨h3, ?_⟩
    by_cases h1 : b s = 42
    · rw [if_pos h1] at h; cases h; exact h1
    · rw [if_neg h1] at h
      by_cases h2 : b s = 47
      · rw [if_pos h2] at h; cases h; exact h2
      · rw [if_neg h2] at h
        by_cases h4 : b s = 37
        · rw [if_pos h4] at h; cases h; exact h4
        · rw [if_neg h4] at h; cases h
  · rw [if_neg h3] at h; cases h
theorem isPl_s {b : Nat → Int32} {n s : Nat} : (isPl b n s).isSome = (decide (tk b n s = 3 ∧ b s = 43) || decide (tk b n s = 3 ∧ b s = 45)) := by
  unfold isPl
  by_cases h3 : tk b n s = 3
  · by_cases h1 : b s = 43
    · simp [h3, h1]
    · by_cases h2 : b s = 45
      · simp [h3, h2]
      · simp [h3, h1, h2]
  · simp [h3]
theorem isTi_s {b : Nat → Int32} {n s : Nat} : (isTi b n s).isSome = (decide (tk b n s = 3 ∧ b s = 42) || (decide (tk b n s = 3 ∧ b s = 47) || decide (tk b n s = 3 ∧ b s = 37))) := by
  unfold isTi
  by_cases h3 : tk b n s = 3
  · by_cases h1 : b s = 42
    · simp [h3, h1]
    · by_cases h2 : b s = 47
      · simp [h3, h2]
      · by_cases h4 : b s = 37
        · simp [h3, h4]
        · simp [h3, h1, h2, h4]
  · simp [h3]
theorem sgc_code {a : Nat} (h : 2 ≤ a) : ccode (a, 0) = nI (2000 + sgc a) := by
  unfold ccode
  rw [if_neg (by show ¬ a = 0; omega), if_neg (by show ¬ a = 1; omega)]
section L2LF
variable {n q : Nat} {b : Nat → Int32}
set_option maxHeartbeats 2000000 in
theorem lw_prod {S : Option (PO → CO × PO)} {dd op D : Nat} (hq : cck q = (4 + 2, 0)) (hn : n ≤ 150) (hU : lawSp q b n m_Law_readUnit dd op (pU b n S)) (hG : pGood n (pU b n S) D) (hdd : 6 ≤ dd) : lawSp q b n m_Law_readProduct (dd + 1) op (pP b n S) := by
  intro d0 hd0 Q X H x P I A o cs hA hc hu hpos h
  obtain ⟨d, rfl⟩ : ∃ d, d0 = d + 7 := ⟨d0 - 7, by omega⟩
  have hm := @mo_Law_readProduct (meth (d + 6)) (meth_smono (d + 6))
  have dQ := cck_Q hq
  have q1 : q ≠ 1 := by omega
  have hn6 : n ≤ 600 := by omega
  have loop : ∀ (f i : Nat) (r : CO × PO) (I1 A1 : Nat → Nat → Int32), i + f = 150 → A1 2 = b → cS b n r.2 I1 → codeUp q I1 → (∀ s, r.2 = .inr s → s ≤ n ∧ (cs ++ r.1).length ≤ s ∧ codeAt q (cs ++ r.1) I1 A1) → lqI q I I1 → lqA q A A1 → ploop b n (pU b n S) (isTi b n) f r = pP b n S o → gWp (gTab (tb_Law_readProduct (meth (d + 6)))) Q X 8 [some (.ref (x + q)), some (.ref (x + 1)), some (.int (nI op)), some (.int (nI i)), none] [] (gset H x cck P I1 A1) := by
    intro f
    induction f with
    | zero =>
      intro i r I1 A1 hi a1 c1 u1 p1 f1 f2 e
      rw [← e] at h
      refine wb_Law_readProduct_8 hm ⟨fun _ => wb_Law_readProduct_82 hm (h I1 A1 f1 f2 c1 u1 (fun ho => ?_)), fun c => absurd (nI_le (a := 150) (by omega) (by omega)) c⟩
      have ho : osnd r.2 = true := ho
      cases hr : r.2 with
      | inl e => rw [hr] at ho; cases ho
      | inr s => exact (p1 s hr).2.2
    | succ f ih =>
      intro i r I1 A1 hi a1 c1 u1 p1 f1 f2 e
      refine wb_Law_readProduct_8 hm ⟨fun c => absurd c (nI_ge (b := 150) (by omega) (by omega)), fun _ => sp_Tape_sound c1 (wb_Law_readProduct_19 hm ?_)⟩
      rcases r with ⟨ds, ro⟩
      cases ro with
      | inl er =>
        rw [ploop_inl] at e
        rw [← e] at h
        exact ⟨fun _ => wb_Law_readProduct_82 hm (h I1 A1 f1 f2 c1 u1 (fun q => by cases q)), fun c => absurd rfl c⟩
      | inr s =>
        obtain ⟨ps, pl, pc⟩ := p1 s rfl
        have pl : (cs ++ ds).length ≤ s := pl
        have hct : ct b n s I1 := c1
        -- the loop goes on
        have go : ∀ a, isTi b n s = some a → gWp (gTab (tb_Law_readProduct (meth (d + 6)))) Q X 50 [some (.ref (x + q)), some (.ref (x + 1)), some (.int (nI op)), some (.int (nI i)), none] [] (gset H x cck P I1 A1) := by
          intro a ha
          obtain ⟨t3, bs⟩ := op_42 ha
          obtain ⟨sn, a2, a8⟩ := isTi_ok ha
          have i6 : I1 1 6 = nI (sgc a) := (hct.2.2.2.2.2.1 t3).trans bs
          have hp := nx_P (b := b) ps
          have hlt := hp.2.2 sn
          unfold ploop at e
          dsimp only at e
          rw [ha] at e
          dsimp only at e
          refine wb_Law_readProduct_50 hm (sp_Tape_advance hn6 a1 c1 (fun I2 t2 k2 => wb_Law_readProduct_60 hm hq ?_))
          rw [i6]
          refine hU (d + 6) (by omega) _ _ _ _ _ _ _ (.inr (nx b n s)) (cs ++ ds) a1 k2 (codeUp_T q1 t2 u1) (fun s1 e1 => by cases e1; exact ⟨hp.1.1, by omega, codeAt_T q1 t2 pc⟩) (fun I3 A3 g1 g2 k3 u3 c3 => wb_Law_readProduct_66 hm hq ?_)
          have hg := hG.2 (nx b n s)
          generalize hr : pU b n S (.inr (nx b n s)) = r1 at k3 c3 e hg
          rw [show (2000 : Int32) + nI (sgc a) = nI (2000 + sgc a) from nI_add 2000 _]
          refine sp_Law_emit2 (c := (a, 0)) (cs := cs ++ ds ++ r1.1) hq k3 u3 (fun _ => (sgc_code a2).symm) (fun ho => ⟨c3 ho, ?_⟩) (fun I4 A4 g3 g4 k4 u4 c4 => wb_Law_readProduct_76 hm ?_)
          · cases hr1 : r1.2 with
            | inl e' => rw [hr1] at ho; cases ho
            | inr s' =>
              have := hg s' hp.1.1 hr1
              rw [List.length_append]
              omega
          · rw [nI_1]
            refine ih (i + 1) (ds ++ (r1.1 ++ [(a, 0)]), r1.2) I4 A4 (by omega) (by rw [g4 2 (by simp; omega), g2 2 (by simp; omega)]; exact a1) k4 u4 (fun s' e' => ?_) (lqI_t f1 (lqI_t (lqI_T t2) (lqI_t g1 g3))) (fr_t f2 (fr_t g2 g4)) e
            have e' : r1.2 = .inr s' := e'
            have hh := hg s' hp.1.1 e'
            have c4' := c4 (by rw [e']; rfl)
            rw [List.append_assoc, List.append_assoc] at c4'
            refine ⟨hh.2.1, ?_, c4'⟩
            show (cs ++ (ds ++ (r1.1 ++ [(a, 0)]))).length ≤ s'
            rw [List.length_append] at pl
            rw [List.length_append, List.length_append, List.length_append]
            show _ + (_ + (_ + 1)) ≤ _
            omega
        have stop : isTi b n s = none → Q none (gset H x cck P I1 A1) := by
          intro hno
          unfold ploop at e
          dsimp only at e
          rw [hno] at e
          dsimp only at e
          rw [← e] at h
          exact h I1 A1 f1 f2 c1 u1 (fun _ => pc)
        have some_of : (isTi b n s).isSome = true → ∃ a, isTi b n s = some a := fun q => Option.isSome_iff_exists.mp q
        have d42 : decide (I1 1 5 = 3 ∧ I1 1 6 = 42) = decide (tk b n s = 3 ∧ b s = 42) := decide_eq_decide.mpr (ct_sign hct)
        have d47 : decide (I1 1 5 = 3 ∧ I1 1 6 = 47) = decide (tk b n s = 3 ∧ b s = 47) := decide_eq_decide.mpr (ct_sign hct)
        have d37 : decide (I1 1 5 = 3 ∧ I1 1 6 = 37) = decide (tk b n s = 3 ∧ b s = 37) := decide_eq_decide.mpr (ct_sign hct)
        refine ⟨fun c => absurd c i01_1, fun _ => sp_Tape_atSign (wb_Law_readProduct_28 hm ⟨fun c => ?_, fun c => sp_Tape_atSign (wb_Law_readProduct_37 hm ⟨fun c2 => ?_, fun c2 => sp_Tape_atSign (wb_Law_readProduct_46 hm ⟨fun c3 => ?_, fun c3 => stop ?_⟩)⟩)⟩)⟩
        · obtain ⟨a, ha⟩ := some_of (by rw [isTi_s, ← d42, b_i01 c]; rfl)
          exact go a ha
        · obtain ⟨a, ha⟩ := some_of (by rw [isTi_s, ← d47, b_i01 c2]; simp)
          exact go a ha
        · obtain ⟨a, ha⟩ := some_of (by rw [isTi_s, ← d37, b_i01 c3]; simp)
          exact go a ha
        · have e1 := b_i00 (Classical.not_not.mp c)
          have e2 := b_i00 (Classical.not_not.mp c2)
          have e3 := b_i00 (Classical.not_not.mp c3)
          rw [← Option.isNone_iff_eq_none, ← Option.not_isSome, isTi_s, ← d42, ← d47, ← d37, e1, e2, e3]
          rfl
  refine me_Law_readProduct (wb_Law_readProduct_0 hm hq (hU (d + 6) (by omega) _ _ _ _ _ _ _ o cs hA hc hu hpos (fun I1 A1 f1 f2 k1 u1 c1 => wb_Law_readProduct_6 hm (loop 150 0 (pU b n S o) I1 A1 rfl (by rw [f2 2 (by simp; omega)]; exact hA) k1 u1 (fun s e => ?_) f1 f2 rfl))))
  refine ⟨?_, ?_, c1 (by rw [e]; rfl)⟩
  · cases o with
    | inl e' => rw [hG.1] at e; cases e
    | inr s0 => exact (hG.2 s0 s (hpos s0 rfl).1 e).2.1
  · cases o with
    | inl e' => rw [hG.1] at e; cases e
    | inr s0 =>
      have := hG.2 s0 s (hpos s0 rfl).1 e
      have := (hpos s0 rfl).2.1
      rw [List.length_append]
      omega
set_option maxHeartbeats 2000000 in
theorem lw_sum {S : Option (PO → CO × PO)} {dd op D : Nat} (hq : cck q = (4 + 2, 0)) (hn : n ≤ 150) (hU : lawSp q b n m_Law_readProduct dd op (pP b n S)) (hG : pGood n (pP b n S) D) (hdd : 6 ≤ dd) : lawSp q b n m_Law_readSum (dd + 1) op (pS b n S) := by
  intro d0 hd0 Q X H x P I A o cs hA hc hu hpos h
  obtain ⟨d, rfl⟩ : ∃ d, d0 = d + 7 := ⟨d0 - 7, by omega⟩
  have hm := @mo_Law_readSum (meth (d + 6)) (meth_smono (d + 6))
  have dQ := cck_Q hq
  have q1 : q ≠ 1 := by omega
  have hn6 : n ≤ 600 := by omega
  have loop : ∀ (f i : Nat) (r : CO × PO) (I1 A1 : Nat → Nat → Int32), i + f = 150 → A1 2 = b → cS b n r.2 I1 → codeUp q I1 → (∀ s, r.2 = .inr s → s ≤ n ∧ (cs ++ r.1).length ≤ s ∧ codeAt q (cs ++ r.1) I1 A1) → lqI q I I1 → lqA q A A1 → ploop b n (pP b n S) (isPl b n) f r = pS b n S o → gWp (gTab (tb_Law_readSum (meth (d + 6)))) Q X 8 [some (.ref (x + q)), some (.ref (x + 1)), some (.int (nI op)), some (.int (nI i)), none] [] (gset H x cck P I1 A1) := by
    intro f
    induction f with
    | zero =>
      intro i r I1 A1 hi a1 c1 u1 p1 f1 f2 e
      rw [← e] at h
      refine wb_Law_readSum_8 hm ⟨fun _ => wb_Law_readSum_73 hm (h I1 A1 f1 f2 c1 u1 (fun ho => ?_)), fun c => absurd (nI_le (a := 150) (by omega) (by omega)) c⟩
      have ho : osnd r.2 = true := ho
      cases hr : r.2 with
      | inl e => rw [hr] at ho; cases ho
      | inr s => exact (p1 s hr).2.2
    | succ f ih =>
      intro i r I1 A1 hi a1 c1 u1 p1 f1 f2 e
      refine wb_Law_readSum_8 hm ⟨fun c => absurd c (nI_ge (b := 150) (by omega) (by omega)), fun _ => sp_Tape_sound c1 (wb_Law_readSum_19 hm ?_)⟩
      rcases r with ⟨ds, ro⟩
      cases ro with
      | inl er =>
        rw [ploop_inl] at e
        rw [← e] at h
        exact ⟨fun _ => wb_Law_readSum_73 hm (h I1 A1 f1 f2 c1 u1 (fun q => by cases q)), fun c => absurd rfl c⟩
      | inr s =>
        obtain ⟨ps, pl, pc⟩ := p1 s rfl
        have pl : (cs ++ ds).length ≤ s := pl
        have hct : ct b n s I1 := c1
        have go : ∀ a, isPl b n s = some a → gWp (gTab (tb_Law_readSum (meth (d + 6)))) Q X 41 [some (.ref (x + q)), some (.ref (x + 1)), some (.int (nI op)), some (.int (nI i)), none] [] (gset H x cck P I1 A1) := by
          intro a ha
          obtain ⟨t3, bs⟩ := op_43 ha
          obtain ⟨sn, a2, a8⟩ := isPl_ok ha
          have i6 : I1 1 6 = nI (sgc a) := (hct.2.2.2.2.2.1 t3).trans bs
          have hp := nx_P (b := b) ps
          have hlt := hp.2.2 sn
          unfold ploop at e
          dsimp only at e
          rw [ha] at e
          dsimp only at e
          refine wb_Law_readSum_41 hm (sp_Tape_advance hn6 a1 c1 (fun I2 t2 k2 => wb_Law_readSum_51 hm hq ?_))
          rw [i6]
          refine hU (d + 6) (by omega) _ _ _ _ _ _ _ (.inr (nx b n s)) (cs ++ ds) a1 k2 (codeUp_T q1 t2 u1) (fun s1 e1 => by cases e1; exact ⟨hp.1.1, by omega, codeAt_T q1 t2 pc⟩) (fun I3 A3 g1 g2 k3 u3 c3 => wb_Law_readSum_57 hm hq ?_)
          have hg := hG.2 (nx b n s)
          generalize hr : pP b n S (.inr (nx b n s)) = r1 at k3 c3 e hg
          rw [show (2000 : Int32) + nI (sgc a) = nI (2000 + sgc a) from nI_add 2000 _]
          refine sp_Law_emit2 (c := (a, 0)) (cs := cs ++ ds ++ r1.1) hq k3 u3 (fun _ => (sgc_code a2).symm) (fun ho => ⟨c3 ho, ?_⟩) (fun I4 A4 g3 g4 k4 u4 c4 => wb_Law_readSum_67 hm ?_)
          · cases hr1 : r1.2 with
            | inl e' => rw [hr1] at ho; cases ho
            | inr s' =>
              have := hg s' hp.1.1 hr1
              rw [List.length_append]
              omega
          · rw [nI_1]
            refine ih (i + 1) (ds ++ (r1.1 ++ [(a, 0)]), r1.2) I4 A4 (by omega) (by rw [g4 2 (by simp; omega), g2 2 (by simp; omega)]; exact a1) k4 u4 (fun s' e' => ?_) (lqI_t f1 (lqI_t (lqI_T t2) (lqI_t g1 g3))) (fr_t f2 (fr_t g2 g4)) e
            have e' : r1.2 = .inr s' := e'
            have hh := hg s' hp.1.1 e'
            have c4' := c4 (by rw [e']; rfl)
            rw [List.append_assoc, List.append_assoc] at c4'
            refine ⟨hh.2.1, ?_, c4'⟩
            show (cs ++ (ds ++ (r1.1 ++ [(a, 0)]))).length ≤ s'
            rw [List.length_append] at pl
            rw [List.length_append, List.length_append, List.length_append]
            show _ + (_ + (_ + 1)) ≤ _
            omega
        have stop : isPl b n s = none → Q none (gset H x cck P I1 A1) := by
          intro hno
          unfold ploop at e
          dsimp only at e
          rw [hno] at e
          dsimp only at e
          rw [← e] at h
          exact h I1 A1 f1 f2 c1 u1 (fun _ => pc)
        have some_of : (isPl b n s).isSome = true → ∃ a, isPl b n s = some a := fun q => Option.isSome_iff_exists.mp q
        have d43 : decide (I1 1 5 = 3 ∧ I1 1 6 = 43) = decide (tk b n s = 3 ∧ b s = 43) := decide_eq_decide.mpr (ct_sign hct)
        have d45 : decide (I1 1 5 = 3 ∧ I1 1 6 = 45) = decide (tk b n s = 3 ∧ b s = 45) := decide_eq_decide.mpr (ct_sign hct)
        refine ⟨fun c => absurd c i01_1, fun _ => sp_Tape_atSign (wb_Law_readSum_28 hm ⟨fun c => ?_, fun c => sp_Tape_atSign (wb_Law_readSum_37 hm ⟨fun c2 => ?_, fun c2 => stop ?_⟩)⟩)⟩
        · obtain ⟨a, ha⟩ := some_of (by rw [isPl_s, ← d43, b_i01 c]; rfl)
          exact go a ha
        · obtain ⟨a, ha⟩ := some_of (by rw [isPl_s, ← d45, b_i01 c2]; simp)
          exact go a ha
        · have e1 := b_i00 (Classical.not_not.mp c)
          have e2 := b_i00 (Classical.not_not.mp c2)
          rw [← Option.isNone_iff_eq_none, ← Option.not_isSome, isPl_s, ← d43, ← d45, e1, e2]
          rfl
  refine me_Law_readSum (wb_Law_readSum_0 hm hq (hU (d + 6) (by omega) _ _ _ _ _ _ _ o cs hA hc hu hpos (fun I1 A1 f1 f2 k1 u1 c1 => wb_Law_readSum_6 hm (loop 150 0 (pP b n S o) I1 A1 rfl (by rw [f2 2 (by simp; omega)]; exact hA) k1 u1 (fun s e => ?_) f1 f2 rfl))))
  refine ⟨?_, ?_, c1 (by rw [e]; rfl)⟩
  · cases o with
    | inl e' => rw [hG.1] at e; cases e
    | inr s0 => exact (hG.2 s0 s (hpos s0 rfl).1 e).2.1
  · cases o with
    | inl e' => rw [hG.1] at e; cases e
    | inr s0 =>
      have := hG.2 s0 s (hpos s0 rfl).1 e
      have := (hpos s0 rfl).2.1
      rw [List.length_append]
      omega
theorem lw_all (hq : cck q = (4 + 2, 0)) (hn : n ≤ 150) : ∀ g, g ≤ 6 → lawSp q b n m_Law_readSum (9 + 3 * g) (6 - g) (pS b n (pSub b n g)) := by
  have step : ∀ g, g ≤ 6 → (∀ F, pSub b n g = some F → 6 - g < 6 ∧ lawSp q b n m_Law_readSum (6 + 3 * g) (6 - g + 1) F ∧ pGood n F (3 * g)) → lawSp q b n m_Law_readSum (9 + 3 * g) (6 - g) (pS b n (pSub b n g)) := by
    intro g hg hS
    have h1 := lw_unit (q := q) (b := b) (n := n) (S := pSub b n g) (dd := 6 + 3 * g) (op := 6 - g) (D := 3 * g) hq hn hS (fun e => by cases g with
      | zero => rfl
      | succ g => cases e) (by omega) (by omega)
    have g1 := pU_good (b := b) (n := n) (S := pSub b n g) (D := 3 * g) (fun F hF => (hS F hF).2.2)
    have h2 := lw_prod hq hn h1 g1 (by omega)
    have h3 := lw_sum hq hn h2 (pP_good g1) (by omega)
    rw [show 9 + 3 * g = 6 + 3 * g + 1 + 1 + 1 by omega]
    exact h3
  intro g
  induction g with
  | zero => intro hg; exact step 0 hg (fun F e => by cases e)
  | succ g ih =>
    intro hg
    refine step (g + 1) hg (fun F e => ⟨by omega, ?_, pSub_good (g + 1) F e⟩)
    cases e
    have := ih (by omega)
    rw [show 6 + 3 * (g + 1) = 9 + 3 * g by omega, show 6 - (g + 1) + 1 = 6 - g by omega]
    exact this
/-- the law's text whole -/
def plaw (b : Nat → Int32) (n : Nat) (o : PO) : CO × PO := ((pS b n (pSub b n 6) o).1, match (pS b n (pSub b n 6) o).2 with
  | .inl e => .inl e
  | .inr s => if n ≤ s then .inr s else .inl (1, s))
theorem sp_Law_read {d : Nat} {Q : gQ} {X : gX} {H : gH} {x : Nat} {P : Nat → Nat} {I A : Nat → Nat → Int32} {o : PO} (hq : cck q = (4 + 2, 0)) (hn : n ≤ 150) (hA : A 2 = b) (hc : cS b n o I) (ho : ∀ s, o = .inr s → s ≤ n)
    (h : ∀ I' A', lqI q I I' → lqA q A A' → cS b n (plaw b n o).2 I' → (osnd (plaw b n o).2 = true → codeAt q (plaw b n o).1 I' A') → Q none (gset H x cck P I' A')) : meth (d + 28) m_Law_read [.ref (x + q), .ref (x + 1)] (gset H x cck P I A) Q X := by
  have hm := @mo_Law_read (meth (d + 27)) (meth_smono (d + 27))
  have dQ := cck_Q hq
  have q1 : q ≠ 1 := by omega
  refine me_Law_read (wb_Law_read_0 hm hq (lw_all hq hn 6 (by omega) (d + 27) (by omega) _ _ _ _ _ _ _ o [] hA (cS_ne q1 hc) ⟨0, by omega, upI_s⟩ (fun s e => ⟨ho s e, Nat.zero_le _, upI_s, fun i hi => absurd hi (Nat.not_lt_zero i)⟩) (fun I1 A1 f1 f2 k1 u1 c1 => wb_Law_read_11 hm ?_)))
  have fr : lqI q I I1 := lqI_t ⟨fr_I fr_r (by simp), by rw [upI_n (Ne.symm q1)]⟩ f1
  unfold plaw at h
  have c1 : osnd (pS b n (pSub b n 6) o).2 = true → codeAt q (pS b n (pSub b n 6) o).1 I1 A1 := c1
  cases hr : (pS b n (pSub b n 6) o).2 with
  | inl e =>
    rw [hr] at k1 h
    exact ⟨fun _ => wb_Law_read_23 hm (h I1 A1 fr f2 k1 (fun q => by cases q)), fun _ => sp_Tape_fail (k := 1) (by omega) (by omega) k1 (fun I2 t2 k2 => wb_Law_read_23 hm (h I2 A1 (lqI_t fr (lqI_T t2)) f2 k2 (fun q => by cases q)))⟩
  | inr s =>
    rw [hr] at k1 h c1
    dsimp only at h
    refine ⟨fun c => wb_Law_read_23 hm ?_, fun c => ?_⟩
    · rw [if_pos ((ct_end k1).mp c)] at h
      exact h I1 A1 fr f2 k1 (fun _ => c1 rfl)
    · rw [if_neg (fun q => c ((ct_end k1).mpr q))] at h
      exact sp_Tape_fail (k := 1) (by omega) (by omega) k1 (fun I2 t2 k2 => wb_Law_read_23 hm (h I2 A1 (lqI_t fr (lqI_T t2)) f2 k2 (fun q => by cases q)))
end L2LF
