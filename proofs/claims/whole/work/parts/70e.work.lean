/-! ===== calls: work ===== -/
noncomputable def wfu (N : Nat) (g : PG) (to : Nat) : Nat := Classical.epsilon (fun f => pwf N g f 6 0 to)
theorem wfu_ok {N : Nat} {g : PG} {to : Nat} (h : pwfE N g 6 0 to) : pwf N g (wfu N g to) 6 0 to := Classical.epsilon_spec h
section CA13
variable {s : ST}
noncomputable def wRes (s : ST) (z : PZ) : PS := prun (sE s) (sC s) (sNr s) (sN s) z.1 (wfu (sN s) z.1 z.2) 0 z.2 (sW s, 0, 0, 0)
noncomputable def sWork (s : ST) (z : PZ) : ST := ((sB s, 0, -1), sZ s, (wRes s z).1, sE s, sK s, ((sU s).1 + 1, fun i => if i = (sU s).1 then sW s else (sU s).2 i), sM s, (wRes s z).2.2.2, sX0 s, sX1 s)
noncomputable def f_work (k : Nat) (s : ST) : (Value ⊕ String) × ST := if (sU s).1 = 16 then (.inl (.int (-20)), sFlt s (-1)) else fTxt (pwork (sB s) k (sN s) (.inr (sk (sB s) k 0))).2 s (.inl (.int (wRes s (pwork (sB s) k (sN s) (.inr (sk (sB s) k 0))).1).2.2.1), sWork s (pwork (sB s) k (sN s) (.inr (sk (sB s) k 0))).1)
theorem pwork_ok {b : Nat → Int32} {k N t : Nat} (h : (pwork b k N (.inr (sk b k 0))).2 = .inr t) : 4 * (pwork b k N (.inr (sk b k 0))).1.2 ≤ k ∧ pwfE N (pwork b k N (.inr (sk b k 0))).1.1 6 0 (pwork b k N (.inr (sk b k 0))).1.2 := by
  have hG := pstep_good (b := b) (n := k) (N := N) (S := wSub b k N 6) (g := 6) (fun F hF => wSub_good 6 F hF)
  have hL := (wloop_good (stop := stopE k) hG 150).2 (((fun _ => 0), (fun _ => 0), (fun _ => 0), fun _ => 0), 0) (sk b k 0) t (sk_P (Nat.zero_le _)).1.1 (Nat.zero_le _) h
  obtain ⟨_, a2, a3, _, _, a6⟩ := hL
  exact ⟨Nat.le_trans a3 a2, a6⟩
theorem wRes_ok (hs : sOk s) {z : PZ} (h : pwfE (sN s) z.1 6 0 z.2) : pOk (sN s) (wRes s z) := prun_ok _ _ _ _ (wfu_ok h) _ ⟨hs.2.2.1.1, hs.2.2.1.2, Nat.zero_le _⟩
set_option maxHeartbeats 1000000 in
theorem C_work (hs : sOk s) {n : Int32} : cCall m_S_work [.int n] (qN (okN s 150 n) s (f_work n.toNatClampNeg s)) s := by
  intro d Q X H x P I A hr h
  have hm := @mo_S_work (meth (d + 59)) (meth_smono (d + 59))
  have hp := hr.1
  have hA := hr.2.1.2.2
  have hN8 : sN s ≤ 8 := hs.2.1.1
  have h16 := hs.2.2.2.2.2.1.1
  have pf := pP_frames hp
  have q1 : P 1 = 3 ∨ P 1 = 8 := by rcases hp.1 with ⟨e, _⟩ | ⟨e, _⟩ <;> omega
  have q5 : P 5 = 21 ∨ P 5 = 25 := by rcases hp.2.1 with ⟨e, _⟩ | ⟨e, _⟩ <;> omega
  have q7 : P 7 = 29 ∨ P 7 = 32 := by rcases hp.2.2 with ⟨e, _⟩ | ⟨e, _⟩ <;> omega
  have eU : I 40 2 = nI (sU s).1 := hr.2.2.2.2.2.2.1.1
  have e16 : I 40 2 < 16 ↔ (sU s).1 < 16 := by rw [eU]; exact nI_ltI (b := 16) (by omega) (by omega)
  refine me_S_work (wb_S_work_0 hm (sp_S_needText (lim := 150) hs (by omega) hr (fun c => wb_S_work_8 hm ?_) (fun c I' r' => ?_)))
  · rw [qN_t c] at h
    obtain ⟨k, k1, k2, rfl⟩ := okN_n hs c
    rw [nI_clamp (by omega)] at h
    unfold f_work at h
    refine ⟨fun q => ?_, fun q => ?_⟩
    · have u16 := e16.mp q
      rw [if_neg (by omega)] at h
      refine sp_Tape_open (b := sB s) (n := k) (by omega) hA (fun I1 f1 e1 c1 => wb_S_work_38 hm (pOk_1 hp) ?_)
      rw [f1 (P 1) (by simp; omega), show I (P 1) 0 = nI (sN s) from hr.2.2.1.1]
      refine sp_Deeds_read (d := d + 38) k1 hN8 hA c1 (fun t e => by cases e; exact (sk_P (Nat.zero_le _)).1.1) (fun I2 A2 f2 g2 c2 k3 => wb_S_work_56 hm (sp_Tape_sound c2 (wb_S_work_63 hm ?_)))
      have fI : Fr [1, 35] I I2 := fr_t (fr_m f1 (by simp)) f2.1
      have i11 : I2 1 1 = 0 := by rw [f2.2.1]; exact e1
      have wok := fun t => pwork_ok (b := sB s) (k := k) (N := sN s) (t := t)
      unfold fTxt at h
      generalize pwork (sB s) k (sN s) (.inr (sk (sB s) k 0)) = pr at c2 h k3 wok ⊢
      obtain ⟨z, ro⟩ := pr
      cases ro with
      | inl e =>
        dsimp only at h
        refine ⟨fun q => absurd rfl q, fun _ => sp_Tape_answer c2 (wb_S_work_73 hm ?_)⟩
        exact h P I2 A2 (cRep_txt hr fI g2 pf.2.2.2.2.1 pf.2.2.2.2.2.1 i11 c2.2.2.2.1)
      | inr t =>
        dsimp only at h
        obtain ⟨z4, zwf⟩ := wok t rfl
        dsimp only at z4 zwf
        have r2 := cRep_txt (p := -1) hr fI g2 pf.2.2.2.2.1 pf.2.2.2.2.2.1 i11 c2.2.2.2.2.2.2.2.1
        obtain ⟨k5, k6⟩ := k3 rfl
        have hok2 : sOk (sFlt s (-1)) := ⟨Nat.zero_le _, hs.2⟩
        refine ⟨fun _ => ?_, fun q => absurd i01_1 q⟩
        have hm2 := @mo_Past_keepWork (meth (d + 58)) (meth_smono (d + 58))
        have eU2 : I2 40 2 = nI (sU s).1 := r2.2.2.2.2.2.2.1.1
        refine me_Past_keepWork (wb_Past_keepWork_0 hm2 (o1 := 13) rfl ⟨fun z => absurd (by rw [eU2] at z; exact z) (nI_ge (b := 16) (by omega) (by omega)), fun _ => ?_⟩)
        rw [eU2, nI_m21]
        refine sp_World_save (o := 13) (a := 41) rfl rfl (by omega) (by omega) (by decide) (fun A3 fA e1 e2 => wb_Past_keepWork_24 hm2 (wb_Past_keepWork_34 hm2 (wb_S_work_85 hm ?_)))
        have hmf := @mo_Deeds_forget (meth (d + 58)) (meth_smono (d + 58))
        refine me_Deeds_forget (wb_Deeds_forget_0 hmf (wb_S_work_92 hm ?_))
        generalize hI4 : upI (upI (upI (upI I2 40 2 (I2 40 2 + 1)) 35 5 0) 35 6 0) 35 7 0 = I4
        have i4 : ∀ j, j ≠ 35 → j ≠ 40 → I4 j = I2 j := fun j a b => by rw [← hI4, upI_n a, upI_n a, upI_n a, upI_n b]
        have a3 : ∀ j, j ≠ 41 → A3 j = A2 j := fun j a => fA j (by simp; exact a)
        have i354 : I4 35 4 = nI z.2 := by rw [← hI4, upI_f (by decide), upI_f (by decide), upI_f (by decide), upI_n (by decide)]; exact k5
        rw [i354]
        have hla : LandOk I4 A3 (P 1) (sN s) := by
          have := cRep_land hok2 r2
          unfold LandOk at this ⊢
          rw [i4 (P 1) (by omega) (by omega), a3 (P 1 + 1) (by omega), a3 (P 1 + 2) (by omega)]
          exact this
        have hL4 : LawAt I4 A3 (P 5) (sE s) := r2.2.2.2.2.1.mv (by rw [i4 (P 5) (by omega) (by omega)]) (a3 (P 5 + 1) (by omega))
        have hg : ∀ i, i < z.2 → cPg A3 z.1 i := fun i hi => by
          have := k6 i hi
          unfold cPg at this ⊢
          rw [a3 36 (by decide), a3 37 (by decide), a3 38 (by decide), a3 39 (by decide)]
          exact this
        have w4 : cW (sN s) I4 A3 13 = sW s := by rw [cW_c (o := 13) (i4 13 (by decide) (by decide)) (a3 14 (by decide)) (a3 15 (by decide))]; exact r2.2.2.2.1
        have hme := @mo_Deeds_enact (meth (d + 46 + 6 + 6)) (meth_smono (d + 46 + 6 + 6))
        refine me_Deeds_enact (wb_Deeds_enact_0 hme ?_)
        refine en_loop hla (pOk_5 hp) hL4 hs.2.2.2.1 (sz := z.2) (by omega) hg (wfu (sN s) z.1 z.2) 6 0 z.2 (wfu_ok zwf) (Nat.le_refl _) (Nat.le_refl _) (d + 46) 0 0 (sW s, 0, 0, 0) I4 A3 _ _ (Nat.zero_le _) ⟨fr_r, fr_r, w4, by rw [← hI4, upI_f (by decide), upI_f (by decide), upI_s]; rfl, by rw [← hI4, upI_f (by decide), upI_s], by rw [← hI4, upI_s], rfl, hs.2.2.1.1, hs.2.2.1.2, Nat.zero_le _⟩ (fun I5 A5 e5 => wb_S_work_120 hm ?_)
        have hl2 := r2.2.2.1.2.2.1
        rw [prun_c (C' := sC s) (N' := sNr s) (fun t ht => by rw [a3 (P 1 + 1) (by omega)]; exact (hl2 t ht).1) (fun t ht => by rw [a3 (P 1 + 2) (by omega)]; exact (hl2 t ht).2)] at e5
        have e5 : eRep (sN s) (P 5) I4 A3 (wRes s z) I5 A5 := e5
        obtain ⟨fI5, fA5, w5, _, d5, r5, _, _⟩ := e5
        rw [d5, r5]
        have n : ∀ j, j ≠ 0 → j ≠ 13 → j ≠ 35 → j ≠ 40 → upI I5 0 13 (wRes s z).2.2.2 j = I2 j := fun j a b c' e => by rw [upI_n a, fI5 j (by simp; exact ⟨b, c'⟩), i4 j c' e]
        have m : ∀ j, j ≠ 14 → j ≠ 15 → j ≠ 16 → j ≠ P 5 + 2 → j ≠ P 5 + 3 → j ≠ 41 → A5 j = A2 j := fun j a b c' e f g => by rw [fA5 j (by simp; exact ⟨a, b, c', e, f⟩), a3 j g]
        have m41 : A5 41 = A3 41 := fA5 41 (by simp; omega)
        have i0 : ∀ f, f ≠ 13 → upI I5 0 13 (wRes s z).2.2.2 0 f = I2 0 f := fun f hf => by rw [upI_f hf, fI5 0 (by simp), i4 0 (by decide) (by decide)]
        have i40 : ∀ f, f ≠ 2 → upI I5 0 13 (wRes s z).2.2.2 40 f = I2 40 f := fun f hf => by rw [upI_n (by decide), fI5 40 (by simp), ← hI4, upI_n (by decide), upI_n (by decide), upI_n (by decide), upI_f hf]
        obtain ⟨rp, rt, rl, rw_, rla, rb, rU, rM, r1, r2', r3⟩ := r2
        refine h P _ A5 ⟨rp, ?_, ?_, ?_, rla.mv (by rw [n (P 5) (by omega) (by omega) (by omega) (by omega)]) (m _ (by omega) (by omega) (by omega) (by omega) (by omega) (by omega)), ?_, ?_, ?_, ?_, ?_, ?_⟩
        · rw [n 1 (by decide) (by decide) (by decide) (by decide), m 2 (by decide) (by decide) (by decide) (by omega) (by omega) (by decide)]; exact rt
        · show cLand (sZ s) (P 1) _ _
          unfold cLand
          rw [n (P 1) (by omega) (by omega) (by omega) (by omega), m (P 1 + 1) (by omega) (by omega) (by omega) (by omega) (by omega) (by omega), m (P 1 + 2) (by omega) (by omega) (by omega) (by omega) (by omega) (by omega), m (P 1 + 3) (by omega) (by omega) (by omega) (by omega) (by omega) (by omega), m (P 1 + 4) (by omega) (by omega) (by omega) (by omega) (by omega) (by omega)]
          exact rl
        · show cW (sN s) _ _ 13 = (wRes s z).1
          rw [cW_c (o := 13) (I := I5) (A := A5) (upI_n (by decide)) rfl rfl]; exact w5
        · show bC (P 7) (sK s) _ _
          unfold bC
          rw [n (P 7) (by omega) (by omega) (by omega) (by omega), m (P 7 + 1) (by omega) (by omega) (by omega) (by omega) (by omega) (by omega)]
          exact rb
        · refine ⟨?_, fun i hi => ?_⟩
          · rw [upI_n (by decide), fI5 40 (by simp), ← hI4, upI_n (by decide), upI_n (by decide), upI_n (by decide), upI_s, eU2, nI_1]; rfl
          · have hi : i < (sU s).1 + 1 := hi
            show cRow (sN s) (A5 41) (21 * i) = if i = (sU s).1 then sW s else (sU s).2 i
            rw [m41]
            by_cases he : i = (sU s).1
            · rw [if_pos he, he, e1 (sN s) hN8]; exact rw_
            · rw [if_neg he, cRow_c hN8 (g := A2 41) (fun j h1 h2 => e2 j (Or.inl (by omega)))]
              exact rU.2 i (by show i < (sU s).1; omega)
        · show cImgs (sFlt s (-1)) _ _
          unfold cImgs
          rw [i40 3 (by decide), m 42 (by decide) (by decide) (by decide) (by omega) (by omega) (by decide)]; exact rM
        · rw [upI_s]; rfl
        · rw [i0 14 (by decide)]; exact r2'
        · rw [i0 15 (by decide)]; exact r3
    · have u16 : (sU s).1 = 16 := by have : ¬ (sU s).1 < 16 := fun z => q (e16.mpr z); omega
      rw [if_pos u16] at h
      have hmt := @mo_Tape_drop (meth (d + 58)) (meth_smono (d + 58))
      refine me_Tape_drop (wb_Tape_drop_0 hmt (wb_S_work_27 hm ?_))
      exact h P _ A (cRep_txt (L' := []) hr (fr_I (fr_I (fr_I fr_r (by simp)) (by simp)) (by simp)) fr_r pf.2.2.2.2.1 (by unfold cSpA; simp) (by rw [upI_f (by decide), upI_f (by decide), upI_s]) (by rw [upI_s]))
  · rw [qN_f c] at h; exact h P I' A r'
end CA13
