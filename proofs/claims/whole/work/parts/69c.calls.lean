/-! ===== calls: town, would, can, most, ahead, till, term, span ===== -/
theorem and_tt {a b : Bool} (h : (a && b) = true) : a = true ∧ b = true := by cases a <;> cases b <;> simp_all
theorem b_01 {c : Bool} (h : c = true) : ¬ i01 c = 0 := by rw [h]; decide
theorem b_00 {c : Bool} (h : c = false) : i01 c = 0 := by rw [h]; rfl
section CA3
variable {s : ST}
def f_town (t k : Nat) (s : ST) : Int32 := match k with
  | 0 => wV (sW s) t
  | 1 => wB (sW s) t
  | 2 => sC s t
  | 3 => wside (sW s) t
  | 4 => sNr s t
  | 5 => (sW s).2.2.1 t
  | _ => wsway (sE s) (sC s) (sNr s) (sN s) (sW s) t
section IN2
variable {d : Nat} {Q : gQ} {X : gX} {H : gH} {x : Nat} {P : Nat → Nat} {I A : Nat → Nat → Int32}
theorem cs_sway (hs : sOk s) (hr : cRep s P I A) {t : Nat} (ht : t < sN s) (h : ∀ A', cRep s P I A' → Q (some (.int (wsway (sE s) (sC s) (sNr s) (sN s) (sW s) t))) (gset H x cck P I A')) : meth (d + 4) m_World_sway [.ref (x + 13), .int (nI t), .ref (x + P 1), .ref (x + P 5)] (gset H x cck P I A) Q X := by
  have hm := @mo_World_sway (meth (d + 3)) (meth_smono (d + 3))
  have hl := cRep_land hs hr
  have h8 := hl.2.2.1
  have hp := hr.1
  have hw := hr.2.2.2.1
  refine me_World_sway (wb_World_sway_0 hm rfl (sp_World_sideBits (o := 13) rfl hl.1 hl.2.1 hl.2.2.1 (wb_World_sway_7 hm rfl (sp_World_swayBy (o := 13) rfl hl.1 (pOk_5 hp) hr.2.2.2.2.1 hs.2.2.2.1 (vp_in_nI (by omega) (by omega)) (fun F K => wb_World_sway_13 hm ?_)))))
  have h := h _ (cRep_fr hr fr_r (fr_C (fr_C fr_r (by simp)) (by simp)) spI_n (spA_q hp) : cRep s P I (upC (upC A (P 5 + 2) F) (P 5 + 3) K))
  rw [nI_clamp (by omega), fbc_near h8 (hl.2.2.2.2 t ht)]
  have e : wsway (sE s) (sC s) (sNr s) (sN s) (sW s) t = sE s (fct (A (13 + 1) t) (A (13 + 2) t) (A (P 1 + 1) t) (I 13 4) ((I 13 3 >>> (nI t &&& 31)) &&& 1) (fsum (fun o => if bt (A (P 1 + 2) t) o = true ∧ fside (A (13 + 2) o) (A (13 + 1) o) = 0 then 1 else 0) (sN s)) (I 13 5) (I 13 6) (nI t) (I 13 7)) := by
    have e1 : wnear (sNr s) (sN s) (sW s) t = fsum (fun o => if bt (A (P 1 + 2) t) o = true ∧ fside (A (13 + 2) o) (A (13 + 1) o) = 0 then 1 else 0) (sN s) := fsum_c (fun o ho => by
      unfold wside
      rw [cw_V hr ho, cw_B hr ho, cl_N hr ht])
    unfold wsway
    rw [e1, cw_V hr ht, cw_B hr ht, ← cl_C hr ht]
    have e2 : (sW s).2.2.1 t = (I 13 3 >>> (nI t &&& 31)) &&& 1 := by rw [← hw]; exact rs_at (f := fun t => (I 13 3 >>> (nI t &&& 31)) &&& 1) ht
    have e3 : (sW s).2.2.2.1 = I 13 4 := by rw [← hw]; rfl
    have e4 : (sW s).2.2.2.2.1 = I 13 5 := by rw [← hw]; rfl
    have e5 : (sW s).2.2.2.2.2.1 = I 13 6 := by rw [← hw]; rfl
    have e6 : (sW s).2.2.2.2.2.2 = I 13 7 := by rw [← hw]; rfl
    rw [e2, e3, e4, e5, e6]
  rw [e] at h
  exact h
theorem rs_sway (hs : sOk s) (hr : rRep s I A) (h18 : rW (sN s) (A 18) = sW s) {t : Nat} (ht : t < sN s) (h : ∀ A', rRep s I A' → Q (some (.int (wsway (sE s) (sC s) (sNr s) (sN s) (sW s) t))) (gset H x mck P I A')) : meth (d + 5) m_R_swayBy [.ref (x + 0), .int (nI t)] (gset H x mck P I A) Q X := by
  have hl := rRep_land hs hr
  have h8 : sN s ≤ 8 := hl.2.1
  refine sp_R_swayBy (n := sN s) (m := zM (sZ s)) hr.2.2.2.1 hs.2.2.2.1 hl.1 h8 hl.2.2.1 hl.2.2.2.1 (by omega) (fun F K => ?_)
  have h := h _ (rRep_fr hr (fun _ _ => rfl) (fr_C (fr_C fr_r (by simp)) (by simp)) rSp_u : rRep s I (upC (upC A 14 F) 13 K))
  have e : wsway (sE s) (sC s) (sNr s) (sN s) (sW s) t = sE s (fct (A 18 t) (A 18 (8 + t)) (A 7 t) (A 18 24) (A 18 (16 + t)) (fsum (fun o => if bt (froads (A 8) (nI t) (zM (sZ s))) o = true ∧ fside (A 18 (8 + o)) (A 18 o) = 0 then 1 else 0) (sN s)) (A 18 26) (A 18 25) (nI t) (A 18 27)) := by
    have e1 : wnear (sNr s) (sN s) (sW s) t = fsum (fun o => if bt (froads (A 8) (nI t) (zM (sZ s))) o = true ∧ fside (A 18 (8 + o)) (A 18 o) = 0 then 1 else 0) (sN s) := fsum_c (fun o ho => by
      unfold wside
      rw [rw_V h18 ho, rw_B h18 ho, hl.2.2.2.2.2 t ht])
    unfold wsway
    rw [e1, rw_V h18 ht, rw_B h18 ht, ← hl.2.2.2.2.1 t ht]
    have e2 : (sW s).2.2.1 t = A 18 (16 + t) := by rw [← h18]; exact rs_at (f := fun t => A 18 (16 + t)) ht
    have e3 : (sW s).2.2.2.1 = A 18 24 := by rw [← h18]; rfl
    have e4 : (sW s).2.2.2.2.1 = A 18 26 := by rw [← h18]; rfl
    have e5 : (sW s).2.2.2.2.2.1 = A 18 25 := by rw [← h18]; rfl
    have e6 : (sW s).2.2.2.2.2.2 = A 18 27 := by rw [← h18]; rfl
    rw [e2, e3, e4, e5, e6]
  rw [e] at h
  exact h
end IN2
theorem C_town (hs : sOk s) {t a : Int32} : cCall m_S_town [.int t, .int a] (qT (isT s t) s (q1 (inR a 0 6) s (f_town t.toNatClampNeg a.toNatClampNeg s))) s := by
  intro d Q X H x P I A hr h
  have hm := @mo_S_town (meth (d + 59)) (meth_smono (d + 59))
  refine me_S_town (wb_S_town_0 hm (sp_S_needTown hr (fun c => wb_S_town_5 hm (sp_S_within (wb_S_town_13 hm (sp_S_need hr (fun c2 => wb_S_town_16 hm ?_) (fun c2 I' r' => ?_))))) (fun c I' r' => ?_)))
  · rw [qT_t c, q1_t c2] at h
    obtain ⟨j, hj, h8, rfl⟩ := isT_n hs c
    obtain ⟨k, hk, rfl⟩ := inR_n (m := 6) (by omega) c2
    rw [nI_clamp (by omega), nI_clamp (by omega)] at h
    have h0 := h P I A hr
    have iv : vp_in (nI j) 8 := vp_in_nI (by omega) (by omega)
    have ec : (nI j).toNatClampNeg = j := nI_clamp (by omega)
    rw [tsw_at (by omega)]
    rcases (show k = 0 ∨ k = 1 ∨ k = 2 ∨ k = 3 ∨ k = 4 ∨ k = 5 ∨ k = 6 by omega) with rfl | rfl | rfl | rfl | rfl | rfl | rfl
    · rw [show f_town j 0 s = A 14 (nI j).toNatClampNeg by rw [ec]; exact cw_V hr hj] at h0; exact wb_S_town_56 hm ⟨iv, h0⟩
    · rw [show f_town j 1 s = A 15 (nI j).toNatClampNeg by rw [ec]; exact cw_B hr hj] at h0; exact wb_S_town_66 hm ⟨iv, h0⟩
    · rw [show f_town j 2 s = A (P 1 + 1) (nI j).toNatClampNeg by rw [ec]; exact (cl_C hr hj).symm] at h0; exact wb_S_town_76 hm (pOk_1 hr.1) ⟨iv, h0⟩
    · rw [show f_town j 3 s = fside (A (13 + 2) (nI j).toNatClampNeg) (A (13 + 1) (nI j).toNatClampNeg) by rw [ec]; show fside _ _ = _; rw [cw_V hr hj, cw_B hr hj]] at h0
      exact wb_S_town_86 hm (sp_World_side (o := 13) rfl iv (wb_S_town_94 hm h0))
    · rw [show f_town j 4 s = A (P 1 + 2) (nI j).toNatClampNeg by rw [ec]; exact (cl_N hr hj).symm] at h0; exact wb_S_town_95 hm (pOk_1 hr.1) ⟨iv, h0⟩
    · rw [show f_town j 5 s = (I 13 3 >>> (nI j &&& 31)) &&& 1 by show (sW s).2.2.1 j = _; rw [← hr.2.2.2.1]; exact rs_at (f := fun t => (I 13 3 >>> (nI t &&& 31)) &&& 1) hj] at h0
      exact wb_S_town_105 hm (sp_World_parted (o := 13) rfl (wb_S_town_113 hm h0))
    · exact wb_S_town_114 hm (cs_sway hs hr hj (fun A' r' => wb_S_town_130 hm (h P I A' r')))
  · rw [qT_t c, q1_f c2] at h; exact h P I' A r'
  · rw [qT_f c] at h; exact h P I' A r'
theorem R_town (hs : sOk s) {t a : Int32} : rCall m_R_town [.int t, .int a] kB (.int 0) (qT (isT s t) s (q1 (inR a 0 6) s (f_town t.toNatClampNeg a.toNatClampNeg s))) s := by
  intro d Q X H x P I A hr h
  have hm := @mo_R_town (meth (d + 59)) (meth_smono (d + 59))
  have hn8 : sN s ≤ 8 := hs.2.1.1
  refine me_R_town (wb_R_town_0 hm (sp_R_isTown (code := 1) upI_s (by omega) (rRep_0 hr) (fun c => wb_R_town_11 hm ⟨fun q => absurd q (by decide), fun _ => sp_R_within (wb_R_town_22 hm (sp_R_may (kind := 1) (code := 2) upI_s (by omega) (by omega) (rRep_0 hr) (fun c2 => wb_R_town_27 hm ⟨fun _ => rs_take (rRep_0 hr) hn8 (fun A' f r' e => wb_R_town_36 hm ?_), fun q => absurd (by decide) q⟩) (fun c2 I' A' r' e => wb_R_town_27 hm ⟨fun q => absurd rfl q, fun _ => wb_R_town_30 hm ?_⟩)))⟩) (fun c I' A' r' e => wb_R_town_11 hm ⟨fun _ => wb_R_town_30 hm ?_, fun q => absurd rfl q⟩)))
  · rw [qT_t c, q1_t c2] at h
    obtain ⟨j, hj, h8, rfl⟩ := isT_n hs c
    obtain ⟨k, hk, rfl⟩ := inR_n (m := 6) (by omega) c2
    rw [nI_clamp (by omega), nI_clamp (by omega)] at h
    have h0 := fun v hv => h _ A' (.int v) r' ⟨upI_s, congrArg Value.int hv⟩
    have iv : vp_in (nI j) 8 := vp_in_nI (by omega) (by omega)
    rw [n_z, n_8, n_16, nI_clamp (by omega), nI_clamp (by omega), nI_clamp (by omega)]
    have i0 : vp_in (nI j) 28 := vp_in_nI (by omega) (by omega)
    have i8 : vp_in (nI (8 + j)) 28 := vp_in_nI (by omega) (by omega)
    have i16 : vp_in (nI (16 + j)) 28 := vp_in_nI (by omega) (by omega)
    rcases (show k = 0 ∨ k = 1 ∨ k = 2 ∨ k = 3 ∨ k = 4 ∨ k = 5 ∨ k = 6 by omega) with rfl | rfl | rfl | rfl | rfl | rfl | rfl
    · exact ⟨fun q => absurd q (by decide), fun _ => ⟨fun q => absurd rfl q, fun _ => ⟨i0, wb_R_town_79 hm (h0 _ (rw_V e hj).symm)⟩⟩⟩
    · exact ⟨fun q => absurd q (by decide), fun _ => ⟨fun _ => ⟨fun q => absurd rfl q, fun _ => ⟨i8, wb_R_town_79 hm (h0 _ (rw_B e hj).symm)⟩⟩, fun q => absurd (by decide) q⟩⟩
    · exact ⟨fun q => absurd q (by decide), fun _ => ⟨fun _ => ⟨fun _ => ⟨iv, wb_R_town_79 hm (h0 _ (r'.2.1.2.2.1 j hj))⟩, fun q => absurd (by decide) q⟩, fun q => absurd (by decide) q⟩⟩
    · refine ⟨fun _ => ⟨fun q => absurd rfl q, fun _ => sp_R_partyOf (by omega) (wb_R_town_90 hm (wb_R_town_128 hm (h0 _ ?_)))⟩, fun q => absurd (by decide) q⟩
      show _ = fside _ _
      rw [rw_V e hj, rw_B e hj]
    · refine ⟨fun _ => ⟨fun _ => ⟨fun q => absurd rfl q, fun _ => sp_R_roadsOf (rRep_land hs r').2.2.1 (rRep_land hs r').2.2.2.1 (wb_R_town_103 hm (wb_R_town_128 hm (h0 _ ?_)))⟩, fun q => absurd (by decide) q⟩, fun q => absurd (by decide) q⟩
      exact (rRep_land hs r').2.2.2.2.2 j hj
    · refine ⟨fun _ => ⟨fun _ => ⟨fun _ => ⟨fun q => absurd rfl q, fun _ => ⟨i16, wb_R_town_128 hm (h0 _ ?_)⟩⟩, fun q => absurd (by decide) q⟩, fun q => absurd (by decide) q⟩, fun q => absurd (by decide) q⟩
      show _ = (sW s).2.2.1 j
      rw [← e]
      exact (rs_at (f := fun t => A' 18 (16 + t)) hj).symm
    · exact ⟨fun _ => ⟨fun _ => ⟨fun _ => ⟨fun _ => rs_sway hs r' e hj (fun A2 r2 => wb_R_town_128 hm (h _ A2 _ r2 ⟨upI_s, rfl⟩)), fun q => absurd (by decide) q⟩, fun q => absurd (by decide) q⟩, fun q => absurd (by decide) q⟩, fun q => absurd (by decide) q⟩
  · rw [qT_t c, q1_f c2] at h; exact h I' A' _ r' ⟨e, rfl⟩
  · rw [qT_f c] at h; exact h I' A' _ r' ⟨e, rfl⟩
-- can, most
theorem cs_wOk (hs : sOk s) {P : Nat → Nat} {I A : Nat → Nat → Int32} (hr : cRep s P I A) : wOk (sN s) (cW (sN s) I A 13) := by rw [hr.2.2.2.1]; exact hs.2.2.1.1
theorem C_can (hs : sOk s) {a c n : Int32} : cCall m_S_can [.int a, .int c, .int n] (qT (isT s a && isT s c) s (.inl (.int (wcanI (sW s) a.toNatClampNeg c.toNatClampNeg n)), s)) s := by
  intro d Q X H x P I A hr h
  have hm := @mo_S_can (meth (d + 59)) (meth_smono (d + 59))
  refine me_S_can (wb_S_can_0 hm (sp_S_needTown hr (fun c1 => wb_S_can_5 hm (sp_S_needTown hr (fun c2 => wb_S_can_10 hm ?_) (fun c2 I' r' => ?_))) (fun c1 I' r' => ?_)))
  · rw [qT_t (by rw [c1, c2]; rfl)] at h
    obtain ⟨j, hj, h8, rfl⟩ := isT_n hs c1
    obtain ⟨k, hk, _, rfl⟩ := isT_n hs c2
    have h := h P I A hr
    rw [nI_clamp (by omega), nI_clamp (by omega), ← hr.2.2.2.1] at h
    refine sp_World_movable (o := 13) rfl h8 (cs_wOk hs hr) hj hk (wb_S_can_20 hm ⟨?_, h⟩)
    unfold wcanI
    by_cases hh : 1 ≤ n ∧ n ≤ nI (wmost (cW (sN s) I A 13) j k)
    · rw [if_pos hh]; rfl
    · rw [if_neg hh]; rfl
  · rw [qT_f (by rw [c1, c2]; rfl)] at h; exact h P I' A r'
  · rw [qT_f (by rw [c1]; rfl)] at h; exact h P I' A r'
theorem rs_wOk (hs : sOk s) {f : Nat → Int32} (e : rW (sN s) f = sW s) : wOk (sN s) (rW (sN s) f) := by rw [e]; exact hs.2.2.1.1
theorem wcan_z (w : WS) (a c : Nat) (n : Int32) : narrow .boolean (.int (wcanI w a c n)) = .int (wcanI w a c n) := by
  unfold wcanI
  by_cases hh : 1 ≤ n ∧ n ≤ nI (wmost w a c)
  · rw [if_pos hh]; rfl
  · rw [if_neg hh]; rfl
theorem R_can (hs : sOk s) {a c n : Int32} : rCall m_R_can [.int a, .int c, .int n] kA (.int 0) (qT (isT s a && isT s c) s (.inl (.int (wcanI (sW s) a.toNatClampNeg c.toNatClampNeg n)), s)) s := by
  intro d Q X H x P I A hr h
  have hm := @mo_R_can (meth (d + 59)) (meth_smono (d + 59))
  have hn8 : sN s ≤ 8 := hs.2.1.1
  refine me_R_can (wb_R_can_0 hm (sp_R_isTown (code := 1) upI_s (by omega) (rRep_0 hr) (fun c1 => wb_R_can_11 hm ⟨fun q => absurd q (by decide), fun _ => sp_R_isTown (code := 1) upI_s (by omega) (rRep_0 hr) (fun c2 => wb_R_can_20 hm ⟨fun _ => rs_take (rRep_0 hr) hn8 (fun A' f r' e => wb_R_can_29 hm ?_), fun q => absurd (by decide) q⟩) (fun c2 I' A' r' e => wb_R_can_20 hm ⟨fun q => absurd rfl q, fun _ => wb_R_can_23 hm ⟨rfl, ?_⟩⟩)⟩) (fun c1 I' A' r' e => wb_R_can_11 hm ⟨fun _ => wb_R_can_23 hm ⟨rfl, ?_⟩, fun q => absurd rfl q⟩)))
  · rw [qT_t (by rw [c1, c2]; rfl)] at h
    obtain ⟨j, hj, h8, rfl⟩ := isT_n hs c1
    obtain ⟨k, hk, _, rfl⟩ := isT_n hs c2
    rw [nI_clamp (by omega), nI_clamp (by omega), ← e] at h
    exact sp_R_canMove h8 (rs_wOk hs e) hj hk (wb_R_can_36 hm ⟨wcan_z _ _ _ _, h _ A' _ r' ⟨upI_s, rfl⟩⟩)
  · rw [qT_f (by rw [c1, c2]; rfl)] at h; exact h I' A' _ r' ⟨e, rfl⟩
  · rw [qT_f (by rw [c1]; rfl)] at h; exact h I' A' _ r' ⟨e, rfl⟩
theorem C_most (hs : sOk s) {a c : Int32} : cCall m_S_most [.int a, .int c] (qT (isT s a && isT s c) s (.inl (.int (nI (wmost (sW s) a.toNatClampNeg c.toNatClampNeg))), s)) s := by
  intro d Q X H x P I A hr h
  have hm := @mo_S_most (meth (d + 59)) (meth_smono (d + 59))
  refine me_S_most (wb_S_most_0 hm (sp_S_needTown hr (fun c1 => wb_S_most_5 hm (sp_S_needTown hr (fun c2 => wb_S_most_10 hm ?_) (fun c2 I' r' => ?_))) (fun c1 I' r' => ?_)))
  · rw [qT_t (by rw [c1, c2]; rfl)] at h
    obtain ⟨j, hj, h8, rfl⟩ := isT_n hs c1
    obtain ⟨k, hk, _, rfl⟩ := isT_n hs c2
    have h := h P I A hr
    rw [nI_clamp (by omega), nI_clamp (by omega), ← hr.2.2.2.1] at h
    exact sp_World_mostMovable (o := 13) rfl h8 (cs_wOk hs hr) hj hk (wb_S_most_19 hm h)
  · rw [qT_f (by rw [c1, c2]; rfl)] at h; exact h P I' A r'
  · rw [qT_f (by rw [c1]; rfl)] at h; exact h P I' A r'
theorem R_most (hs : sOk s) {a c : Int32} : rCall m_R_most [.int a, .int c] kA (.int 0) (qT (isT s a && isT s c) s (.inl (.int (nI (wmost (sW s) a.toNatClampNeg c.toNatClampNeg))), s)) s := by
  intro d Q X H x P I A hr h
  have hm := @mo_R_most (meth (d + 59)) (meth_smono (d + 59))
  have hn8 : sN s ≤ 8 := hs.2.1.1
  refine me_R_most (wb_R_most_0 hm (sp_R_isTown (code := 1) upI_s (by omega) (rRep_0 hr) (fun c1 => wb_R_most_11 hm ⟨fun q => absurd q (by decide), fun _ => sp_R_isTown (code := 1) upI_s (by omega) (rRep_0 hr) (fun c2 => wb_R_most_20 hm ⟨fun _ => rs_take (rRep_0 hr) hn8 (fun A' f r' e => wb_R_most_29 hm ?_), fun q => absurd (by decide) q⟩) (fun c2 I' A' r' e => wb_R_most_20 hm ⟨fun q => absurd rfl q, fun _ => wb_R_most_23 hm ?_⟩)⟩) (fun c1 I' A' r' e => wb_R_most_11 hm ⟨fun _ => wb_R_most_23 hm ?_, fun q => absurd rfl q⟩)))
  · rw [qT_t (by rw [c1, c2]; rfl)] at h
    obtain ⟨j, hj, h8, rfl⟩ := isT_n hs c1
    obtain ⟨k, hk, _, rfl⟩ := isT_n hs c2
    rw [nI_clamp (by omega), nI_clamp (by omega), ← e] at h
    have h99 := wmost_99 (rW (sN s) (A' 18)) j k
    have key : ∀ u, u ≤ 99 → wmost (rW (sN s) (A' 18)) j k ≤ u → gWp (gTab (tb_R_most (meth (d + 59)))) Q X 32 [some (.ref (x + 0)), some (.int (nI j)), some (.int (nI k)), some (.int (nI u))] [] (gset H x mck P (upI I 0 0 0) A') := by
      intro u
      induction u with
      | zero =>
        intro _ hu
        rw [show wmost (rW (sN s) (A' 18)) j k = 0 by omega] at h
        exact wb_R_most_32 hm ⟨fun _ => wb_R_most_52 hm (h _ A' _ r' ⟨upI_s, rfl⟩), fun q => absurd (by decide) q⟩
      | succ u ih =>
        intro hu9 hu
        refine wb_R_most_32 hm ⟨fun q => absurd q (by rw [show (0 : Int32) = nI 0 from rfl, nI_leI (by omega) (by omega)]; omega), fun _ => sp_R_canMove h8 (rs_wOk hs e) hj hk (wb_R_most_43 hm ⟨fun q => wb_R_most_52 hm ?_, fun q => ?_⟩)⟩
        · unfold wcanI at q
          by_cases hh : 1 ≤ nI (u + 1) ∧ nI (u + 1) ≤ nI (wmost (rW (sN s) (A' 18)) j k)
          · have := (nI_leI (by omega) (by omega)).mp hh.2
            rw [show wmost (rW (sN s) (A' 18)) j k = u + 1 by omega] at h
            exact h _ A' _ r' ⟨upI_s, rfl⟩
          · rw [if_neg hh] at q; exact absurd rfl q
        · have q := Classical.not_not.mp q
          unfold wcanI at q
          rw [nI_m (by omega), Nat.add_sub_cancel]
          refine ih (by omega) ?_
          by_cases hh : 1 ≤ nI (u + 1) ∧ nI (u + 1) ≤ nI (wmost (rW (sN s) (A' 18)) j k)
          · rw [if_pos hh] at q; exact absurd q (by decide)
          · have : ¬ u + 1 ≤ wmost (rW (sN s) (A' 18)) j k := fun z => hh ⟨nI_le (a := 1) (by omega) (by omega), nI_le z (by omega)⟩
            omega
    exact key 99 (Nat.le_refl _) h99
  · rw [qT_f (by rw [c1, c2]; rfl)] at h; exact h I' A' _ r' ⟨e, rfl⟩
  · rw [qT_f (by rw [c1]; rfl)] at h; exact h I' A' _ r' ⟨e, rfl⟩
end CA3
