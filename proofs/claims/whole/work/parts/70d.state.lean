/-! ===== calls: state ===== -/
section CA12
variable {s : ST}
def sNew (t : (Nat → Int32) × Nat × Int32) (z : LZ) (x0 x1 : Int32) : ST := (t, z, wNew z, lev plainC, (0, fun _ => -1), (0, fun _ => wNew z), (0, fun _ => (wNew z, 0, fun _ => wNew z)), 0, x0, x1)
def f_state (k : Nat) (s : ST) : (Value ⊕ String) × ST := fTxt (pland (sB s) k 61 0 zNil (.inr (sk (sB s) k 0))).2 s (.inl (.int (nI (zN (pland (sB s) k 61 0 zNil (.inr (sk (sB s) k 0))).1))), sNew (sB s, 0, -1) (pland (sB s) k 61 0 zNil (.inr (sk (sB s) k 0))).1 (sX0 s) (sX1 s))
theorem zNil_ok : zOk zNil := ⟨Nat.zero_le _, Nat.zero_le _, Nat.le_refl _, fun t ht => absurd ht (Nat.not_lt_zero t), fun e he => absurd he (Nat.not_lt_zero e)⟩
theorem cS_fr {b : Nat → Int32} {n : Nat} {o : PO} {I I' : Nat → Nat → Int32} (h : cS b n o I) (e : I' 1 = I 1) : cS b n o I' := by
  cases o with
  | inl x => unfold cS at h ⊢; rw [e]; exact h
  | inr s => unfold cS ct at h ⊢; rw [e]; exact h
set_option maxHeartbeats 1000000 in
theorem C_state (hs : sOk s) {n : Int32} : cCall m_S_state [.int n] (qN (okN s 600 n) s (f_state n.toNatClampNeg s)) s := by
  intro d Q X H x P I A hr h
  have hm := @mo_S_state (meth (d + 59)) (meth_smono (d + 59))
  have hp := hr.1
  have hA := hr.2.1.2.2
  have pf := pP_frames hp
  have q2 : P 2 = 3 ∨ P 2 = 8 := by rcases hp.1 with ⟨_, e⟩ | ⟨_, e⟩ <;> omega
  have q5 : P 5 = 21 ∨ P 5 = 25 := by rcases hp.2.1 with ⟨e, _⟩ | ⟨e, _⟩ <;> omega
  have q7 : P 7 = 29 ∨ P 7 = 32 := by rcases hp.2.2 with ⟨e, _⟩ | ⟨e, _⟩ <;> omega
  refine me_S_state (wb_S_state_0 hm (sp_S_needText (lim := 600) hs (by omega) hr (fun c => wb_S_state_8 hm ?_) (fun c I' r' => ?_)))
  · rw [qN_t c] at h
    obtain ⟨k, k1, k2, rfl⟩ := okN_n hs c
    rw [nI_clamp (by omega)] at h
    refine sp_Tape_open (b := sB s) (n := k) k1 hA (fun I0 f0 e0 c0 => wb_S_state_16 hm (sp_World_clear rfl (fun I1 f1 w3 w4 w5 w6 w7 => wb_S_state_23 hm (pOk_2 hp) ?_)))
    have e1 : I1 1 1 = 0 := by rw [f1 1 (by decide)]; exact e0
    refine sp_Land_read (d := d + 52) (b := sB s) (n := k) (o := .inr (sk (sB s) k 0)) (pOk_2 hp) k1 hA (cS_fr c0 (f1 1 (by decide))) w4 (fun I2 A2 f2 g2 c2 k3 => wb_S_state_38 hm (sp_Tape_sound c2 (wb_S_state_45 hm ?_)))
    have fI : Fr [1, P 2, 17] I I2 := fr_t (fr_t (fr_m f0 (by simp)) (fr_m f1 (by simp))) f2.1
    have i11 : I2 1 1 = 0 := by rw [f2.2.1]; exact e1
    unfold f_state fTxt at h
    have zok := pland_ok (b := sB s) (n := k) 61 0 zNil (.inr (sk (sB s) k 0)) zNil_ok
    generalize pland (sB s) k 61 0 zNil (.inr (sk (sB s) k 0)) = pr at c2 h k3 zok ⊢
    obtain ⟨z, ro⟩ := pr
    cases ro with
    | inl e =>
      dsimp only at h
      refine ⟨fun q => absurd rfl q, fun _ => sp_Tape_answer c2 (wb_S_state_55 hm ?_)⟩
      exact h P I2 A2 (cRep_txt hr fI g2 pf.2.2.2.2.2.2.1 pf.2.2.2.2.2.2.2 i11 c2.2.2.2.1)
    | inr t =>
      dsimp only at h
      refine ⟨fun _ => ?_, fun q => absurd i01_1 q⟩
      have hz : zOk z := zok rfl
      have lc : lCl (P 2) z I2 A2 := k3 rfl
      have hw := cW_new lc (by rw [f2.2.2 3 (by decide)]; exact w3) (by rw [f2.2.2 5 (by decide)]; exact w5) (by rw [f2.2.2 6 (by decide)]; exact w6) (by rw [f2.2.2 7 (by decide)]; exact w7)
      have pp : pOkP (upP (upP P 1 (P 2)) 2 (P 1)) := by
        refine ⟨?_, hp.2.1, hp.2.2⟩
        show (P 2 = 3 ∧ P 1 = 8) ∨ (P 2 = 8 ∧ P 1 = 3)
        rcases hp.1 with ⟨e5, e6⟩ | ⟨e5, e6⟩ <;> omega
      generalize hP : upP (upP P 1 (P 2)) 2 (P 1) = P' at pp ⊢
      have p1 : P' 1 = P 2 := by rw [← hP]; rfl
      have p5 : P' 5 = P 5 := by rw [← hP]; rfl
      have p7 : P' 7 = P 7 := by rw [← hP]; rfl
      refine sp_World_copy (o := 13) (p := 17) (n := zN z) rfl rfl (by decide) hz.1 (fun I3 A3 f3 _ g3 e3 _ => wc_S_state_85 hm (pOk_5 pp) (sp_Law_setPlain (pOk_5 pp) (wc_S_state_92 hm (pOk_7 pp) (sp_Book_clear (pOk_7 pp) (wc_S_state_99 hm (sp_Past_clear (wc_S_state_106 hm (pOk_1 pp) ?_)))))))
      generalize hI4 : upI (upI (upI (upI (upI (upI I3 (P' 5) 3 (nI 5)) (P' 7) 2 0) (P' 7) 3 0) 40 2 0) 40 3 0) 0 13 0 = I4
      have fI4 : ∀ j, j ≠ 0 → j ≠ 40 → j ≠ P 7 → j ≠ P 5 → I4 j = I3 j := fun j a b c' e => by rw [← hI4, upI_n a, upI_n b, upI_n b, p7, upI_n c', upI_n c', p5, upI_n e]
      have i2 : ∀ j, j ≠ 0 → j ≠ 40 → j ≠ P 7 → j ≠ P 5 → j ≠ 13 → I4 j = I2 j := fun j a b c' e g => by rw [fI4 j a b c' e, f3 j (by simp; exact g)]
      have a2 : ∀ j, j ≠ P 5 + 1 → j ≠ 14 → j ≠ 15 → plainA A3 (P' 5) j = A2 j := fun j a b c' => by rw [plainA_fr j (by simp; rw [p5]; exact a), g3 j (by simp; exact ⟨b, c'⟩)]
      have i0 : ∀ f, f ≠ 13 → I4 0 f = I 0 f := fun f hf => by
        rw [← hI4, upI_f hf, upI_n (by decide), upI_n (by decide), upI_n (by omega), upI_n (by omega), upI_n (by omega), f3 0 (by decide), fI 0 (by simp; omega)]
      have iP1 : I4 (P' 1) 0 = nI (zN z) := by rw [p1, i2 (P 2) (by omega) (by omega) (by omega) (by omega) (by omega)]; exact lc.1
      rw [iP1]
      refine h P' I4 _ ⟨pp, ⟨?_, ?_, ?_⟩, ?_, ?_, ?_, ?_, ?_, ?_, ?_, ?_, ?_⟩
      · rw [i2 1 (by omega) (by omega) (by omega) (by omega) (by omega)]; exact i11
      · rw [i2 1 (by omega) (by omega) (by omega) (by omega) (by omega)]; exact c2.2.2.2.2.2.2.2.1
      · rw [a2 2 (by omega) (by omega) (by omega), g2 2 (by simp; omega)]; exact hA
      · show cLand z _ _ _
        unfold cLand
        rw [p1, i2 (P 2) (by omega) (by omega) (by omega) (by omega) (by omega), a2 (P 2 + 1) (by omega) (by omega) (by omega), a2 (P 2 + 2) (by omega) (by omega) (by omega), a2 (P 2 + 3) (by omega) (by omega) (by omega), a2 (P 2 + 4) (by omega) (by omega) (by omega)]
        exact ⟨lc.1, lc.2.1, fun t ht => (lc.2.2.2.1 t ht).2.2, lc.2.2.2.2⟩
      · show cW (zN z) _ _ 13 = wNew z
        rw [cW_c (o := 13) (I := I3) (A := A3) (fI4 13 (by decide) (by decide) (by omega) (by omega)) (plainA_fr 14 (by simp; omega)) (plainA_fr 15 (by simp; omega)), e3]
        exact hw
      · refine LawAt_of (pOk_5 pp) (plain_code ?_ plainA_at) (by decide) plain_chk
        rw [← hI4, upI_n (by omega), upI_n (by omega), upI_n (by omega), upI_n (by omega), upI_n (by omega), upI_s]
      · have e72 : I4 (P' 7) 2 = 0 := by rw [← hI4, upI_n (by omega), upI_n (by omega), upI_n (by omega), upI_f (by decide), upI_s]
        have e73 : I4 (P' 7) 3 = 0 := by rw [← hI4, upI_n (by omega), upI_n (by omega), upI_n (by omega), upI_s]
        refine ⟨e72, fun t ht => ?_, fun t _ hne => absurd rfl hne⟩
        rw [e73, b_0]
        exact ⟨fun q => (by cases q), fun q => absurd rfl q⟩
      · exact ⟨by rw [← hI4, upI_n (by decide), upI_f (by decide), upI_s]; rfl, fun i hi => absurd hi (Nat.not_lt_zero i)⟩
      · exact ⟨by rw [← hI4, upI_n (by decide), upI_s]; rfl, fun i hi => absurd hi (Nat.not_lt_zero i)⟩
      · rw [← hI4, upI_s]; rfl
      · rw [i0 14 (by decide)]; exact hr.2.2.2.2.2.2.2.2.2.1
      · rw [i0 15 (by decide)]; exact hr.2.2.2.2.2.2.2.2.2.2
  · rw [qN_f c] at h; exact h P I' A r'
set_option maxHeartbeats 1000000 in
theorem R_state (hs : sOk s) {n : Int32} : rCall m_R_state [.int n] kA (.int 0) (qN (okN s 600 n) s (f_state n.toNatClampNeg s)) s := by
  intro d Q X H x P I A hr h
  have hm := @mo_R_state (meth (d + 59)) (meth_smono (d + 59))
  have hA := hr.1.2.2
  have h6 := hs.1
  obtain ⟨o1, o2, o3, o4⟩ := rOk_n (n := n) (lim := 600) hs (by omega) hr
  have no : okN s 600 n = false → gWp (gTab (tb_R_state (meth (d + 59)))) Q X 22 [some (.ref (x + 0)), some (.int n), none, none] [.ref (x + 0)] (gset H x mck P (upI I 0 0 0) A) := fun hf => by
    rw [qN_f hf] at h
    exact wb_R_state_22 hm (wb_R_state_23 hm (sp_R_may (c := false) (kind := 1) (code := 1) upI_s (by omega) (by omega) (rRep_0 hr) (fun q => by cases q) (fun _ I' A' r' e => wb_R_state_28 hm ⟨fun q => absurd rfl q, fun _ => h I' A' _ r' ⟨e, rfl⟩⟩)))
  refine me_R_state (wb_R_state_0 hm ⟨fun c => no (o1 c), fun c1 => ⟨fun c => no (o2 c), fun c2 => wb_R_state_23 hm (sp_R_may (c := true) (kind := 1) (code := 1) upI_s (by omega) (by omega) (rRep_0 hr) (fun _ => wb_R_state_28 hm ⟨fun _ => ?_, fun q => absurd (by decide) q⟩) (fun q => by cases q))⟩⟩)
  have c3 : ¬ nI 600 < n := by
    rw [show I 0 2 = nI (sL s) from hr.1.1, Int32.lt_iff_toInt_lt, nI_toInt (by omega)] at c2
    rw [Int32.lt_iff_toInt_lt, nI_toInt (by omega)]
    omega
  have c := o4 c1 c2 c3
  rw [qN_t c] at h
  obtain ⟨k, k1, k2, rfl⟩ := okN_n hs c
  rw [nI_clamp (by omega)] at h
  have hmc := @mo_R_clears (meth (d + 58)) (meth_smono (d + 58))
  refine rs_begin (b := sB s) (n := k) hA (fun I0 f0 b2 b8 b7 c0' => wb_R_state_38 hm (me_R_clears (wb_R_clears_0 hmc (wb_R_state_42 hm ?_))))
  generalize hI1 : upI (upI (upI I0 0 16 0) 0 17 0) 0 18 1 = I1
  have f1 : ∀ f, f ≠ 16 → f ≠ 17 → f ≠ 18 → I1 0 f = I0 0 f := fun f h1 h2 h3 => by rw [← hI1, upI_f h3, upI_f h2, upI_f h1]
  have lr : lRl zNil I1 A := ⟨by rw [← hI1, upI_f (by decide), upI_f (by decide), upI_s]; rfl, by rw [← hI1, upI_f (by decide), upI_s]; rfl, by rw [← hI1, upI_s]; rfl, fun t ht => absurd ht (Nat.not_lt_zero t), fun e he => absurd he (Nat.not_lt_zero e)⟩
  have c1' : rS (sB s) k (.inr (sk (sB s) k 0)) I1 := by rw [← hI1]; exact rS_I (by decide) (rS_I (by decide) (rS_I (by decide) c0'))
  refine st_44 (d := d + 53) (b := sB s) (n := k) k1 (nI k) 61 0 zNil (.inr (sk (sB s) k 0)) I1 A rfl (fun q => by cases q) hA c1' (fun _ => ⟨lr, zNil_ok⟩) (fun I2 A2 v t2 g2 c2' k3 => wb_R_state_164 hm ?_)
  refine sp_R_result (by omega) c2' (fun I4 u e4 eo => wb_R_state_172 hm ?_)
  have j45 : I4 0 5 = I2 0 5 := e4 5 (by decide)
  have pf : ∀ f, f ≠ 2 → f ≠ 3 → f ≠ 4 → f ≠ 5 → f ≠ 6 → f ≠ 7 → f ≠ 8 → f ≠ 16 → f ≠ 17 → f ≠ 18 → f ≠ 0 → I4 0 f = I 0 f := fun f z2 z3 z4 z5 z6 z7 z8 z16 z17 z18 z0 => by
    rw [e4 f z8, t2 f z4 z5 z6 z16 z17 z18, f1 f z16 z17 z18, f0 f z2 z3 z4 z5 z7 z8, upI_f z0]
  have p2 : I4 0 2 = 0 := by rw [e4 2 (by decide), t2 2 (by decide) (by decide) (by decide) (by decide) (by decide) (by decide), f1 2 (by decide) (by decide) (by decide)]; exact b2
  have p0 : I4 0 0 = 0 := by rw [e4 0 (by decide), t2 0 (by decide) (by decide) (by decide) (by decide) (by decide) (by decide), f1 0 (by decide) (by decide) (by decide), f0 0 (by decide) (by decide) (by decide) (by decide) (by decide) (by decide), upI_s]
  have pI : ∀ f, f = 19 ∨ f = 20 ∨ f = 27 ∨ f = 32 ∨ f = 33 ∨ f = 43 ∨ f = 53 → I4 0 f = I 0 f := fun f hf => pf f (by omega) (by omega) (by omega) (by omega) (by omega) (by omega) (by omega) (by omega) (by omega) (by omega) (by omega)
  have sp3 : rSpA [3, 4, 5, 6] := fun j hj q => by simp at q; omega
  unfold f_state fTxt at h
  have zok := pland_ok (b := sB s) (n := k) 61 0 zNil (.inr (sk (sB s) k 0)) zNil_ok
  generalize pland (sB s) k 61 0 zNil (.inr (sk (sB s) k 0)) = pr at c2' eo h k3 zok
  obtain ⟨z, ro⟩ := pr
  cases ro with
  | inl e =>
    dsimp only [rRes] at h eo
    obtain ⟨_, _, _, _, ho⟩ := c2'
    rw [eo.2]
    exact ⟨fun _ => wb_R_state_185 hm (h I4 A2 _ (rRep_txt hr pI g2 sp3 p2 eo.1) ⟨p0, rfl⟩), fun q => absurd (by rw [j45, ho.1]; exact nI_nm1 (by have := ho.2.2.1; omega)) q⟩
  | inr t =>
    dsimp only [rRes] at h eo
    obtain ⟨_, _, _, _, ho⟩ := c2'
    have lz : lRl z I2 A2 := k3 rfl
    have hz : zOk z := zok rfl
    have lz4 : lRl z I4 A2 := ⟨by rw [e4 16 (by decide)]; exact lz.1, by rw [e4 17 (by decide)]; exact lz.2.1, by rw [e4 18 (by decide)]; exact lz.2.2.1, lz.2.2.2⟩
    refine ⟨fun q => absurd (by rw [j45]; exact ho.1) q, fun _ => sp_R_sets hz lz4 (fun I5 A5 st => wb_R_state_185 hm ?_)⟩
    obtain ⟨m5, n5, s1, s2, s27, s32, s33, s43, s53, s22⟩ := st
    have m : ∀ f, f = 0 ∨ f = 2 ∨ f = 8 → I5 0 f = I4 0 f := fun f hf => m5 f (by omega) (by omega) (by omega) (by omega) (by omega) (by omega) (by omega)
    rw [eo.2, show I2 0 16 = nI (zN z) from lz.1]
    have a1 : A5 1 = A 1 := by rw [n5 1 (by decide), g2 1 (by decide)]
    exact h I5 A5 _ ⟨⟨by rw [m 2 (by omega)]; exact p2, by rw [m 8 (by omega)]; exact eo.1, by rw [n5 2 (by decide), g2 2 (by decide)]; exact hA⟩, s1, s2, RLawAt_plain s27, ⟨s43, s22⟩, ⟨s32, fun i hi => absurd hi (Nat.not_lt_zero i)⟩, ⟨s53, fun i hi => absurd hi (Nat.not_lt_zero i)⟩, s33, by rw [a1]; exact hr.2.2.2.2.2.2.2.2.1, by rw [a1]; exact hr.2.2.2.2.2.2.2.2.2⟩ ⟨by rw [m 0 (by omega)]; exact p0, rfl⟩
end CA12
