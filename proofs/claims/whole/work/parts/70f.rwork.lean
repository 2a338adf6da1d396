/-! ===== calls: work, the reference ===== -/
section CA14
variable {s : ST}
/-- the reference's loop of steps -/
theorem rw_68 {b : Nat → Int32} {n N d : Nat} {Q : gQ} {X : gX} {H : gH} {x : Nat} {P : Nat → Nat} {o : PO} {v1 : Int32} (hd : 12 ≤ d) (hn : n ≤ 150) (hN8 : N ≤ 8) : ∀ (f i : Nat) (r : PZ × PO) (I A : Nat → Nat → Int32), i + f = 150 → A 2 = b → I 0 7 = 0 → I 0 19 = nI N → rS b n r.2 I → wloop (stopE n) (pstep b n N (wSub b n N 6)) f r = pwork b n N o → (∀ s, r.2 = .inr s → 4 * i ≤ s ∧ s ≤ n ∧ 4 * r.1.2 ≤ s ∧ I 0 31 = nI (4 * r.1.2) ∧ ∀ i, i < r.1.2 → rPw (fun _ => False) A r.1.1 i) →
    (∀ I' A', wqI I I' → Fr [15] A A' → rS b n (pwork b n N o).2 I' → (osnd (pwork b n N o).2 = true → I' 0 31 = nI (4 * (pwork b n N o).1.2) ∧ ∀ i, i < (pwork b n N o).1.2 → rPw (fun _ => False) A' (pwork b n N o).1.1 i) → gWp (gTab (tb_R_work (meth d))) Q X 89 [some (.ref (x + 0)), some (.int v1), none, none] [] (gset H x mck P I' A')) →
    gWp (gTab (tb_R_work (meth d))) Q X 68 [some (.ref (x + 0)), some (.int v1), none, none] [] (gset H x mck P I A) := by
  obtain ⟨d, rfl⟩ : ∃ d', d = d' + 12 := ⟨d - 12, by omega⟩
  have hm := @mo_R_work (meth (d + 12)) (meth_smono (d + 12))
  have hn6 : n ≤ 600 := by omega
  have hSt := rd_all (b := b) hn hN8 6 (by omega)
  have hG := pstep_good (b := b) (n := n) (N := N) (S := wSub b n N 6) (g := 6) (fun F hF => wSub_good 6 F hF)
  intro f
  induction f with
  | zero =>
    intro i r I A hi hA h7 h19 hc e p1 h
    have e : r = pwork b n N o := e
    rw [← e] at h
    rcases r with ⟨z1, ro⟩
    cases ro with
    | inl er => exact wb_R_work_68 hm (sp_R_fine hn6 hc (wb_R_work_72 hm ⟨fun _ => h I A wqI_r fr_r hc (fun q => by cases q), fun c => absurd rfl c⟩))
    | inr s => have := p1 s rfl; omega
  | succ f ih =>
    intro i r I A hi hA h7 h19 hc e p1 h
    refine wb_R_work_68 hm (sp_R_fine hn6 hc (wb_R_work_72 hm ?_))
    rcases r with ⟨z1, ro⟩
    cases ro with
    | inl er =>
      rw [wloop_inl] at e
      rw [← e] at h
      exact ⟨fun _ => h I A wqI_r fr_r hc (fun q => by cases q), fun c => absurd rfl c⟩
    | inr s =>
      obtain ⟨p0, ps, p4, p5, p6⟩ := p1 s rfl
      rw [wloop_r] at e
      refine ⟨fun q => absurd q i01_1, fun _ => sp_R_isMore hn6 hA hc (fun I1 t1 k1 => wb_R_work_79 hm ⟨fun c => ?_, fun c => ?_⟩)⟩
      · have hs := b_i00 c
        rw [decide_eq_false_iff_not] at hs
        rw [if_pos (show stopE n s = true from decide_eq_true (by omega))] at e
        rw [← e] at h
        exact h I1 A (wqI_T t1) fr_r (rX_S k1) (fun _ => ⟨by rw [t1 31 (by decide) (by decide) (by decide)]; exact p5, p6⟩)
      · have hs := b_i01 c
        rw [decide_eq_true_eq] at hs
        rw [if_neg (by unfold stopE; rw [decide_eq_false (by omega)]; decide)] at e
        refine hSt (d + 12) (by omega) _ _ _ _ _ _ _ s z1 (fun _ => False) hA (rX_S k1) ps p4 (by rw [t1 7 (by decide) (by decide) (by decide)]; exact h7) (by rw [t1 19 (by decide) (by decide) (by decide)]; exact h19) (by rw [t1 31 (by decide) (by decide) (by decide)]; exact p5) p6 (fun _ q => q.elim) (fun I2 A2 g1 g2 k2 p2 => wb_R_work_86 hm ?_)
        have w2 := wqI_t (wqI_T t1) g1
        refine ih (i + 1) _ I2 A2 (by omega) (by rw [g2 2 (by decide)]; exact hA) (by rw [w2 7 (by decide) (by decide) (by decide) (by decide)]; exact h7) (by rw [w2 19 (by decide) (by decide) (by decide) (by decide)]; exact h19) k2 e (fun s' e' => ?_) (fun I3 A3 g3 g4 k3 p3 => h I3 A3 (wqI_t w2 g3) (fr_t g2 g4) k3 p3)
        obtain ⟨b1, b2, b3, b4, b5, _⟩ := hG z1 s s' ps p4 e'
        have := p2 (by rw [e']; rfl)
        exact ⟨by omega, b2, b3, this.1, this.2⟩
theorem rSp_15 : rSpA [15] := fun j hj q => by simp at q; omega
set_option maxHeartbeats 1000000 in
theorem R_work (hs : sOk s) {n : Int32} : rCall m_R_work [.int n] kA (.int 0) (qN (okN s 150 n) s (f_work n.toNatClampNeg s)) s := by
  intro d Q X H x P I A hr h
  have hm := @mo_R_work (meth (d + 59)) (meth_smono (d + 59))
  have hA := hr.1.2.2
  have hN8 : sN s ≤ 8 := hs.2.1.1
  have h16 := hs.2.2.2.2.2.1.1
  obtain ⟨o1, o2, o3, o4⟩ := rOk_n (n := n) (lim := 150) hs (by omega) hr
  have no : okN s 150 n = false → gWp (gTab (tb_R_work (meth (d + 59)))) Q X 29 [some (.ref (x + 0)), some (.int n), none, none] [.ref (x + 0)] (gset H x mck P (upI I 0 0 0) A) := fun hf => by
    rw [qN_f hf] at h
    exact wb_R_work_29 hm (wb_R_work_30 hm (sp_R_may (c := false) (kind := 1) (code := 1) upI_s (by omega) (by omega) (rRep_0 hr) (fun q => by cases q) (fun _ I' A' r' e => wb_R_work_35 hm ⟨fun q => absurd rfl q, fun _ => h I' A' _ r' ⟨e, rfl⟩⟩)))
  refine me_R_work (wb_R_work_0 hm ⟨fun c => no (o1 c), fun c1 => ⟨fun c => no (o2 c), fun c2 => ⟨fun c => no (o3 c), fun c3 => wb_R_work_30 hm (sp_R_may (c := true) (kind := 1) (code := 1) upI_s (by omega) (by omega) (rRep_0 hr) (fun _ => wb_R_work_35 hm ⟨fun _ => ?_, fun q => absurd (by decide) q⟩) (fun q => by cases q))⟩⟩⟩)
  have c := o4 c1 c2 c3
  rw [qN_t c] at h
  obtain ⟨k, k1, k2, rfl⟩ := okN_n hs c
  rw [nI_clamp (by omega)] at h
  unfold f_work at h
  refine rs_begin (b := sB s) (n := k) hA (fun I1 f1 a2 a8 a7 c1' => wb_R_work_45 hm ?_)
  have g1 : ∀ f, f ≠ 0 → f ≠ 2 → f ≠ 3 → f ≠ 4 → f ≠ 5 → f ≠ 7 → f ≠ 8 → I1 0 f = I 0 f := fun f z0 z2 z3 z4 z5 z7 z8 => by rw [f1 f z2 z3 z4 z5 z7 z8, upI_f z0]
  have i0 : I1 0 0 = 0 := by rw [f1 0 (by decide) (by decide) (by decide) (by decide) (by decide) (by decide), upI_s]
  have eU : I1 0 32 = nI (sU s).1 := by rw [g1 32 (by decide) (by decide) (by decide) (by decide) (by decide) (by decide) (by decide)]; exact hr.2.2.2.2.2.1.1
  have e16 : I1 0 32 = 16 ↔ (sU s).1 = 16 := by rw [eU]; exact nI_eq (b := 16) (by omega) (by omega)
  refine ⟨fun q => ?_, fun q => ?_⟩
  · have u16 : (sU s).1 ≠ 16 := fun z => q (e16.mpr z)
    rw [if_neg u16] at h
    refine rw_68 (o := .inr (sk (sB s) k 0)) (by omega) k1 hN8 150 0 ((((fun _ => 0), (fun _ => 0), (fun _ => 0), fun _ => 0), 0), .inr (sk (sB s) k 0)) _ A rfl hA (by rw [upI_f (by decide)]; exact a7) (by rw [upI_f (by decide), g1 19 (by decide) (by decide) (by decide) (by decide) (by decide) (by decide) (by decide)]; exact hr.2.1.1) (rS_I (by decide) c1') rfl (fun t e => ⟨Nat.zero_le _, by cases e; exact (sk_P (Nat.zero_le _)).1.1, Nat.zero_le _, upI_s, fun i hi => absurd hi (Nat.not_lt_zero i)⟩) (fun I2 A2 t2 g2 c2' k3 => wb_R_work_89 hm ?_)
    refine sp_R_result (by omega) c2' (fun I4 u e4 eo => wb_R_work_94 hm ?_)
    have j45 : I4 0 5 = I2 0 5 := e4 5 (by decide)
    have j2 : ∀ f, f ≠ 4 → f ≠ 5 → f ≠ 6 → f ≠ 31 → f ≠ 8 → I4 0 f = I1 0 f := fun f z4 z5 z6 z31 z8 => by rw [e4 f z8, t2 f z4 z5 z6 z31, upI_f z31]
    have p2 : I4 0 2 = 0 := by rw [j2 2 (by decide) (by decide) (by decide) (by decide) (by decide)]; exact a2
    have p0 : I4 0 0 = 0 := by rw [j2 0 (by decide) (by decide) (by decide) (by decide) (by decide)]; exact i0
    have pI : ∀ f, f = 19 ∨ f = 20 ∨ f = 27 ∨ f = 32 ∨ f = 33 ∨ f = 43 ∨ f = 53 → I4 0 f = I 0 f := fun f hf => by rw [j2 f (by omega) (by omega) (by omega) (by omega) (by omega), g1 f (by omega) (by omega) (by omega) (by omega) (by omega) (by omega) (by omega)]
    have j31 : I4 0 31 = I2 0 31 := e4 31 (by decide)
    have wok := fun t => pwork_ok (b := sB s) (k := k) (N := sN s) (t := t)
    unfold fTxt at h
    generalize pwork (sB s) k (sN s) (.inr (sk (sB s) k 0)) = pr at c2' eo h k3 wok
    obtain ⟨z, ro⟩ := pr
    cases ro with
    | inl e =>
      dsimp only [rRes] at h eo
      obtain ⟨_, _, _, _, ho⟩ := c2'
      rw [eo.2]
      exact ⟨fun q => absurd q (by rw [j45, ho.1]; exact nI_nm1 (by have := ho.2.2.1; omega)), fun _ => h I4 A2 _ (rRep_txt hr pI g2 rSp_15 p2 eo.1) ⟨p0, rfl⟩⟩
    | inr t =>
      dsimp only [rRes] at h eo
      obtain ⟨_, _, _, _, ho⟩ := c2'
      obtain ⟨k5, k6⟩ := k3 rfl
      obtain ⟨z4, zwf⟩ := wok t rfl
      dsimp only at z4 zwf k5 k6
      refine ⟨fun _ => ?_, fun q => absurd (by rw [j45]; exact ho.1) q⟩
      rw [j31, k5]
      refine sp_R_copies (a := 15) (b := 16) (n1 := 200) (n2 := 200) (k := 4 * z.2) rfl rfl (by omega) (by omega) (by omega) (by omega) (by decide) (fun A3 f3 e3 _ => wb_R_work_121 hm ?_)
      have r3 : rRep (sFlt s (-1)) I4 A3 := rRep_txt hr pI (fr_t (fr_m (S' := [15, 16]) g2 (by simp)) (fr_m f3 (by simp))) (fun j hj q => by simp at q; omega) p2 eo.1
      have hg3 : ∀ i, i < z.2 → rPg A3 z.1 i := fun i hi => by
        obtain ⟨b0, b1, b2, b3, b4⟩ := k6 i hi
        unfold rPg
        rw [e3 (4 * i) (by omega), e3 (4 * i + 1) (by omega), e3 (4 * i + 2) (by omega), e3 (4 * i + 3) (by omega)]
        exact ⟨b0, b1, b2, fun q => b3 ⟨q, id⟩, b4⟩
      have u32 : I4 0 32 = nI (sU s).1 := by rw [j2 32 (by decide) (by decide) (by decide) (by decide) (by decide)]; exact eU
      -- the row is kept
      have key : ∀ i, i ≤ 28 → ∀ A4, Fr [19] A3 A4 → (∀ t, t < i → A4 19 (28 * (sU s).1 + t) = A3 17 t) → (∀ j, j < 28 * (sU s).1 → A4 19 j = A3 19 j) → gWp (gTab (tb_R_work (meth (d + 59)))) Q X 123 [some (.ref (x + 0)), some (.int (nI k)), some (.int u), some (.int (nI i))] [] (gset H x mck P I4 A4) := by
        refine gdown ?_ ?_
        · intro A4 g4 e19 o19
          refine wb_R_work_123 hm ⟨fun _ => ?_, fun c => absurd (nI_le (a := 28) (by omega) (by omega)) c⟩
          rw [u32, nI_1]
          refine sp_R_take (fun A5 f5 e5 => wb_R_work_169 hm ?_)
          generalize hI6 : upI (upI (upI (upI I4 0 32 (nI ((sU s).1 + 1))) 0 34 0) 0 35 0) 0 36 0 = I6
          have n6 : ∀ f, f ≠ 32 → f ≠ 34 → f ≠ 35 → f ≠ 36 → I6 0 f = I4 0 f := fun f z1 z2 z3 z4 => by rw [← hI6, upI_f z4, upI_f z3, upI_f z2, upI_f z1]
          have i632 : I6 0 32 = nI ((sU s).1 + 1) := by rw [← hI6, upI_f (by decide), upI_f (by decide), upI_f (by decide), upI_s]
          have m5 : ∀ j, j ≠ 18 → j ≠ 19 → A5 j = A3 j := fun j z1 z2 => by rw [f5 j (by simp; exact z1), g4 j (by simp; exact z2)]
          rw [upI_f (show (31 : Nat) ≠ 32 by decide), j31, k5]
          have hok2 : sOk (sFlt s (-1)) := ⟨Nat.zero_le _, hs.2⟩
          have hla : RLandOk I6 A5 (sN s) (zM (sZ s)) (sC s) (sNr s) := by
            have := rRep_land hok2 r3
            unfold RLandOk at this ⊢
            rw [n6 19 (by decide) (by decide) (by decide) (by decide), n6 20 (by decide) (by decide) (by decide) (by decide), m5 7 (by decide) (by decide), m5 8 (by decide) (by decide)]
            exact this
          have hL6 : RLawAt I6 A5 (sE s) := r3.2.2.2.1.mv (n6 27 (by decide) (by decide) (by decide) (by decide)) (m5 11 (by decide) (by decide)) (m5 12 (by decide) (by decide))
          have hg : ∀ i, i < z.2 → rPg A5 z.1 i := fun i hi => by
            have := hg3 i hi
            unfold rPg at this ⊢
            rw [m5 16 (by decide) (by decide)]
            exact this
          have w6 : rW (sN s) (A5 18) = sW s := by
            rw [rW_c hN8 (s' := A3 17) (fun j hj => by rw [e5 j hj, g4 17 (by decide)])]
            exact r3.2.2.1
          have hmg := @mo_R_goesSteps (meth (d + 45 + 6 + 7)) (meth_smono (d + 45 + 6 + 7))
          refine me_R_goesSteps (wb_R_goesSteps_0 hmg ?_)
          refine gs_loop hla hL6 hs.2.2.2.1 (sz := z.2) (by omega) hg (wfu (sN s) z.1 z.2) 6 0 z.2 (wfu_ok zwf) (Nat.le_refl _) (d + 45) 0 (sW s, 0, 0, 0) I6 A5 _ _ ⟨fun _ _ _ _ => rfl, fr_r, w6, by rw [← hI6, upI_f (by decide), upI_f (by decide), upI_s]; rfl, by rw [← hI6, upI_f (by decide), upI_s], by rw [← hI6, upI_s], hs.2.2.1.1, hs.2.2.1.2, Nat.zero_le _⟩ (fun I7 A7 e7 => wb_R_work_193 hm ?_)
          have e7 : sRep (sN s) I6 A5 (wRes s z) I7 A7 := e7
          obtain ⟨fI7, fA7, w7, _, d7, r7, _⟩ := e7
          refine sp_R_copies (a := 18) (b := 17) (n1 := 28) (n2 := 28) (k := 28) rfl rfl (by omega) (by omega) (by omega) (by omega) (by decide) (fun A8 f8 e8 _ => wb_R_work_207 hm ?_)
          rw [d7, r7]
          obtain ⟨ht, hl, hw, hLw, hb, hU, hM, h1, h2, h3⟩ := r3
          have nI' : ∀ f, f ≠ 32 → f ≠ 33 → f ≠ 34 → f ≠ 35 → f ≠ 36 → upI I7 0 33 (wRes s z).2.2.2 0 f = I4 0 f := fun f z0 z1 z2 z3 z4 => by rw [upI_f z1, fI7 f z2 z3 z4, n6 f z0 z2 z3 z4]
          have mA : ∀ j, j ≠ 13 → j ≠ 14 → j ≠ 17 → j ≠ 18 → j ≠ 19 → j ≠ 20 → A8 j = A3 j := fun j z1 z2 z3 z4 z5 z6 => by rw [f8 j (by simp; exact z3), fA7 j (by simp; exact ⟨z1, z2, z4, z6⟩), m5 j z4 z5]
          have m19 : A8 19 = A4 19 := by rw [f8 19 (by decide), fA7 19 (by decide), f5 19 (by decide)]
          refine h _ A8 _ ⟨⟨by rw [nI' 2 (by decide) (by decide) (by decide) (by decide) (by decide)]; exact ht.1, by rw [nI' 8 (by decide) (by decide) (by decide) (by decide) (by decide)]; exact ht.2.1, by rw [mA 2 (by decide) (by decide) (by decide) (by decide) (by decide) (by decide)]; exact ht.2.2⟩, ?_, ?_, hLw.mv (nI' 27 (by decide) (by decide) (by decide) (by decide) (by decide)) (mA 11 (by decide) (by decide) (by decide) (by decide) (by decide) (by decide)) (mA 12 (by decide) (by decide) (by decide) (by decide) (by decide) (by decide)), ?_, ?_, ?_, by rw [upI_s]; rfl, by rw [mA 1 (by decide) (by decide) (by decide) (by decide) (by decide) (by decide)]; exact h2, by rw [mA 1 (by decide) (by decide) (by decide) (by decide) (by decide) (by decide)]; exact h3⟩ ⟨by rw [nI' 0 (by decide) (by decide) (by decide) (by decide) (by decide)]; exact p0, rfl⟩
          · show rLand (sZ s) _ _
            unfold rLand
            rw [nI' 19 (by decide) (by decide) (by decide) (by decide) (by decide), nI' 20 (by decide) (by decide) (by decide) (by decide) (by decide), mA 7 (by decide) (by decide) (by decide) (by decide) (by decide) (by decide), mA 8 (by decide) (by decide) (by decide) (by decide) (by decide) (by decide)]
            exact hl
          · show rW (sN s) (A8 17) = (wRes s z).1
            rw [rW_c hN8 (s' := A7 18) e8]; exact w7
          · rw [nI' 43 (by decide) (by decide) (by decide) (by decide) (by decide), mA 22 (by decide) (by decide) (by decide) (by decide) (by decide) (by decide)]; exact hb
          · refine ⟨?_, fun i hi => ?_⟩
            · rw [upI_f (by decide), fI7 32 (by decide) (by decide) (by decide)]; exact i632
            · have hi : i < (sU s).1 + 1 := hi
              show rW (sN s) (fun k => A8 19 (28 * i + k)) = if i = (sU s).1 then sW s else (sU s).2 i
              rw [m19]
              by_cases he : i = (sU s).1
              · rw [if_pos he, he, rW_c hN8 (s := fun k => A4 19 (28 * (sU s).1 + k)) (s' := A3 17) e19]; exact hw
              · rw [if_neg he, rW_c hN8 (s := fun k => A4 19 (28 * i + k)) (s' := fun k => A3 19 (28 * i + k)) (fun j hj => o19 _ (by omega))]
                exact hU.2 i (by show i < (sU s).1; omega)
          · show rImgs (sFlt s (-1)) _ _
            unfold rImgs
            rw [nI' 53 (by decide) (by decide) (by decide) (by decide) (by decide), mA 28 (by decide) (by decide) (by decide) (by decide) (by decide) (by decide)]; exact hM
        · intro i hi ih A4 g4 e19 o19
          refine wb_R_work_123 hm ⟨fun q => absurd q (nI_ge (b := 28) hi (by omega)), fun _ => ?_⟩
          have e1 : (28 : Int32) * nI (sU s).1 + nI i = nI (28 * (sU s).1 + i) := by rw [show (28 : Int32) * nI (sU s).1 = nI (28 * (sU s).1) from pk_mul 28 _, nI_add]
          rw [u32, e1, nI_clamp (by omega), nI_clamp (by omega), nI_1, g4 17 (by decide)]
          refine ⟨vp_in_nI (by omega) (by omega), vp_in_nI (by omega) (by omega), ih _ (fr_A g4 (by simp)) (fun t ht => ?_) (fun j hj => ?_)⟩
          · rw [upA_s]
            by_cases he : t = i
            · rw [he, upd_at]
            · rw [upd_ne (by omega)]; exact e19 t (by omega)
          · rw [upA_s, upd_ne (by omega)]; exact o19 j hj
      exact key 0 (Nat.zero_le _) A3 fr_r (fun t ht => absurd ht (Nat.not_lt_zero t)) (fun _ _ => rfl)
  · rw [if_pos (e16.mp (Classical.not_not.mp q))] at h
    refine sp_R_result (by omega) c1' (fun I4 u e4 eo => wb_R_work_59 hm ?_)
    dsimp only [rRes] at eo
    refine h I4 A _ (rRep_txt (L' := []) hr (fun f hf => by rw [e4 f (by omega), g1 f (by omega) (by omega) (by omega) (by omega) (by omega) (by omega) (by omega)]) fr_r (fun j _ q => by simp at q) (by rw [e4 2 (by decide)]; exact a2) eo.1) ⟨by rw [e4 0 (by decide)]; exact i0, rfl⟩
end CA14
