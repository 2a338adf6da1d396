/-! ===== calls: would, ahead, till, term, span ===== -/
section CA4
variable {s : ST}
def okWould (a b c e f g i j k l : Int32) : Bool := inR a 0 999 && (inR b 0 999 && (inR c 1 9 && (inR e 0 1 && (inR f 0 1 && (inR g 0 7 && (inR i 0 999 && (inR j 0 1 && (inR k 0 7 && inR l 0 400))))))))
set_option maxHeartbeats 1000000 in
theorem C_would (hs : sOk s) {a b c e f g i j k l : Int32} : cCall m_S_would [.int a, .int b, .int c, .int e, .int f, .int g, .int i, .int j, .int k, .int l] (q1 (okWould a b c e f g i j k l) s (sE s (fct a b c e f g i j k l))) s := by
  intro d Q X H x P I A hr h
  have hm := @mo_S_would (meth (d + 59)) (meth_smono (d + 59))
  have hp := hr.1
  have hq := pOk_5 hp
  have bad : okWould a b c e f g i j k l = false → ∀ I', cRep (sBad s) P I' A → X IAE (gset H x cck P I' A) := by
    intro hf I' r'
    rw [q1_f hf] at h
    exact h P I' A r'
  have no : ∀ {Q' : gQ}, okWould a b c e f g i j k l = false → meth (d + 59) m_S_need [.ref (x + 0), .int (i01 false)] (gset H x cck P I A) Q' X := fun hf => sp_S_need (c := false) hr (fun q => by cases q) (fun _ I' r' => bad hf I' r')
  unfold okWould at bad no h
  refine me_S_would (wb_S_would_0 hm (sp_S_within (wb_S_would_9 hm ⟨fun c1 => wb_S_would_27 hm (wb_S_would_28 hm (no (by rw [b_i00 c1]; rfl))), fun c1 => sp_S_within (wb_S_would_20 hm ⟨fun c2 => wb_S_would_27 hm (wb_S_would_28 hm (no (by rw [b_i01 c1, b_i00 c2]; rfl))), fun c2 => wb_S_would_28 hm (sp_S_need (c := true) hr (fun _ => wb_S_would_31 hm ?_) (fun q => by cases q))⟩)⟩)))
  rw [b_i01 c1, b_i01 c2] at no h
  refine sp_S_within (wb_S_would_39 hm ⟨fun c3 => wb_S_would_66 hm (wb_S_would_67 hm (no (by rw [b_i00 c3]; rfl))), fun c3 => sp_S_within (wb_S_would_49 hm ⟨fun c4 => wb_S_would_66 hm (wb_S_would_67 hm (no (by rw [b_i01 c3, b_i00 c4]; rfl))), fun c4 => sp_S_within (wb_S_would_59 hm ⟨fun c5 => wb_S_would_66 hm (wb_S_would_67 hm (no (by rw [b_i01 c3, b_i01 c4, b_i00 c5]; rfl))), fun c5 => wb_S_would_67 hm (sp_S_need (c := true) hr (fun _ => wb_S_would_70 hm ?_) (fun q => by cases q))⟩)⟩)⟩)
  rw [b_i01 c3, b_i01 c4, b_i01 c5] at no h
  refine sp_S_within (wb_S_would_79 hm ⟨fun c6 => wb_S_would_108 hm (wb_S_would_109 hm (no (by rw [b_i00 c6]; rfl))), fun c6 => sp_S_within (wb_S_would_91 hm ⟨fun c7 => wb_S_would_108 hm (wb_S_would_109 hm (no (by rw [b_i01 c6, b_i00 c7]; rfl))), fun c7 => sp_S_within (wb_S_would_101 hm ⟨fun c8 => wb_S_would_108 hm (wb_S_would_109 hm (no (by rw [b_i01 c6, b_i01 c7, b_i00 c8]; rfl))), fun c8 => wb_S_would_109 hm (sp_S_need (c := true) hr (fun _ => wb_S_would_112 hm ?_) (fun q => by cases q))⟩)⟩)⟩)
  rw [b_i01 c6, b_i01 c7, b_i01 c8] at no h
  refine sp_S_within (wb_S_would_121 hm ⟨fun c9 => wb_S_would_140 hm (wb_S_would_141 hm (no (by rw [b_i00 c9]; rfl))), fun c9 => sp_S_within (wb_S_would_133 hm ⟨fun c10 => wb_S_would_140 hm (wb_S_would_141 hm (no (by rw [b_i01 c9, b_i00 c10]; rfl))), fun c10 => wb_S_would_141 hm (sp_S_need (c := true) hr (fun _ => wb_S_would_144 hm hq ?_) (fun q => by cases q))⟩)⟩)
  rw [b_i01 c9, b_i01 c10] at h
  simp only [Bool.and_self] at h
  rw [q1_t rfl] at h
  refine sp_Law_tellTown hq (wb_S_would_160 hm hq (sp_Law_tellAll hq (wb_S_would_175 hm hq (hr.2.2.2.2.1 _ _ _ _ _ _ _ _ rfl ?_ (fun K => wb_S_would_182 hm ?_)))))
  · rw [upC_C, upC_n (by omega)]
  · rw [upC_C, upC_s, upC_s]
    rw [hs.2.2.2.1 _ _ tell_fct]
    exact h P I _ (cRep_fr hr fr_r (fr_C (fr_C fr_r (by simp)) (by simp)) spI_n (spA_q hp))
set_option maxHeartbeats 1000000 in
theorem R_would (hs : sOk s) {a b c e f g i j k l : Int32} : rCall m_R_would [.int a, .int b, .int c, .int e, .int f, .int g, .int i, .int j, .int k, .int l] kA (.int 0) (q1 (okWould a b c e f g i j k l) s (sE s (fct a b c e f g i j k l))) s := by
  intro d Q X H x P I A hr h
  have hm := @mo_R_would (meth (d + 59)) (meth_smono (d + 59))
  have no : okWould a b c e f g i j k l = false → gWp (gTab (tb_R_would (meth (d + 59)))) Q X 118 [some (.ref (x + 0)), some (.int a), some (.int b), some (.int c), some (.int e), some (.int f), some (.int g), some (.int i), some (.int j), some (.int k), some (.int l)] [.ref (x + 0)] (gset H x mck P (upI I 0 0 0) A) := by
    intro hf
    rw [q1_f hf] at h
    exact wb_R_would_118 hm (wb_R_would_119 hm (sp_R_may (c := false) (kind := 1) (code := 1) upI_s (by omega) (by omega) (rRep_0 hr) (fun q => by cases q) (fun _ I' A' r' e => wb_R_would_124 hm ⟨fun q => absurd rfl q, fun _ => h I' A' _ r' ⟨e, rfl⟩⟩)))
  unfold okWould at no h
  refine me_R_would (wb_R_would_0 hm (sp_R_within (wb_R_would_14 hm ⟨fun c1 => no (by rw [b_i00 c1]; rfl), fun c1 => sp_R_within (wb_R_would_25 hm ⟨fun c2 => no (by rw [b_i01 c1, b_i00 c2]; rfl), fun c2 => sp_R_within (wb_R_would_35 hm ⟨fun c3 => no (by rw [b_i01 c1, b_i01 c2, b_i00 c3]; rfl), fun c3 => ?_⟩)⟩)⟩)))
  rw [b_i01 c1, b_i01 c2, b_i01 c3] at no h
  refine sp_R_within (wb_R_would_45 hm ⟨fun c4 => no (by rw [b_i00 c4]; rfl), fun c4 => sp_R_within (wb_R_would_55 hm ⟨fun c5 => no (by rw [b_i01 c4, b_i00 c5]; rfl), fun c5 => sp_R_within (wb_R_would_66 hm ⟨fun c6 => no (by rw [b_i01 c4, b_i01 c5, b_i00 c6]; rfl), fun c6 => ?_⟩)⟩)⟩)
  rw [b_i01 c4, b_i01 c5, b_i01 c6] at no h
  refine sp_R_within (wb_R_would_78 hm ⟨fun c7 => no (by rw [b_i00 c7]; rfl), fun c7 => sp_R_within (wb_R_would_88 hm ⟨fun c8 => no (by rw [b_i01 c7, b_i00 c8]; rfl), fun c8 => sp_R_within (wb_R_would_99 hm ⟨fun c9 => no (by rw [b_i01 c7, b_i01 c8, b_i00 c9]; rfl), fun c9 => sp_R_within (wb_R_would_111 hm ⟨fun c10 => no (by rw [b_i01 c7, b_i01 c8, b_i01 c9, b_i00 c10]; rfl), fun c10 => wb_R_would_119 hm ?_⟩)⟩)⟩)⟩)
  rw [b_i01 c7, b_i01 c8, b_i01 c9, b_i01 c10] at h
  simp only [Bool.and_self] at h
  rw [q1_t rfl] at h
  refine sp_R_may (c := true) (kind := 1) (code := 1) upI_s (by omega) (by omega) (rRep_0 hr) (fun _ => wb_R_would_124 hm ⟨fun _ => sp_R_swayOf (rRep_0 hr).2.2.2.1 hs.2.2.2.1 (fun F K => wb_R_would_150 hm ?_), fun q => absurd (by decide) q⟩) (fun q => by cases q)
  exact h _ _ _ (rRep_fr (rRep_0 hr) (fun _ _ => rfl) (fr_C (fr_C fr_r (by simp)) (by simp)) rSp_u) ⟨upI_s, rfl⟩
-- ahead
def f_ahead (a : Int32) (w : WS) (s : ST) : Int32 := if a = 0 then fsum (wB w) (sN s) else if a = 1 then wParty w else wseats (sC s) (sN s) w 0
def wAh (s : ST) (k : Nat) : WS := wvotes (sE s) (sC s) (sNr s) (sN s) (sW s) k
theorem wAh_c {P : Nat → Nat} {I A : Nat → Nat → Int32} (hr : cRep s P I A) (k : Nat) : wvotes (sE s) (A (P 1 + 1)) (A (P 1 + 2)) (sN s) (cW (sN s) I A 13) k = wAh s k := by
  unfold wAh
  rw [hr.2.2.2.1]
  exact wvotes_c (fun t ht => cl_C hr ht) (fun t ht => cl_N hr ht) _ k
theorem C_ahead (hs : sOk s) {n a : Int32} : cCall m_S_ahead [.int n, .int a] (q1 (inR n 0 99 && inR a 0 2) s (f_ahead a (wAh s n.toNatClampNeg) s)) s := by
  intro d Q X H x P I A hr h
  have hm := @mo_S_ahead (meth (d + 59)) (meth_smono (d + 59))
  have hp := hr.1
  have hl := cRep_land hs hr
  have no : (inR n 0 99 && inR a 0 2) = false → gWp (gTab (tb_S_ahead (meth (d + 59)))) Q X 24 [some (.ref (x + 0)), some (.int n), some (.int a)] [.ref (x + 0)] (gset H x cck P I A) := fun hf => by
    rw [q1_f hf] at h
    exact wb_S_ahead_24 hm (wb_S_ahead_25 hm (sp_S_need (c := false) hr (fun q => by cases q) (fun _ I' r' => h P I' A r')))
  refine me_S_ahead (wb_S_ahead_0 hm (sp_S_within (wb_S_ahead_8 hm ⟨fun c1 => no (by rw [b_i00 c1]; rfl), fun c1 => sp_S_within (wb_S_ahead_17 hm ⟨fun c2 => no (by rw [b_i01 c1, b_i00 c2]; rfl), fun c2 => wb_S_ahead_25 hm (sp_S_need (c := true) hr (fun _ => wb_S_ahead_28 hm ?_) (fun q => by cases q))⟩)⟩)))
  rw [q1_t (by rw [b_i01 c1, b_i01 c2]; rfl)] at h
  obtain ⟨k, hk, rfl⟩ := inR_n (m := 99) (by omega) (b_i01 c1)
  rw [nI_clamp (by omega)] at h
  refine sp_Fate_holdVotes hl (pOk_5 hp) hr.2.2.2.2.1 hs.2.2.2.1 hk (fun I' A' f1 f2 e => wb_S_ahead_48 hm ?_)
  rw [wAh_c hr] at e
  have r' : cRep s P I' A' := cRep_fr hr f1 f2 (spI_48 hp) (spA_f hp)
  have hl' := cRep_land hs r'
  have h := h P I' A' r'
  unfold f_ahead at h
  have eV : ∀ t, t < sN s → wV (wAh s k) t = A' (48 + 1) t := fun t ht => by rw [← e]; exact rs_at ht
  have eB : ∀ t, t < sN s → wB (wAh s k) t = A' (48 + 2) t := fun t ht => by rw [← e]; exact rs_at ht
  refine ⟨fun q0 => ⟨fun q1 => ?_, fun q1 => ?_⟩, fun q0 => ?_⟩
  · rw [if_neg q0, if_neg q1] at h
    refine sp_World_seatsOf (o := 48) rfl hl'.1 hl'.2.1 hl'.2.2.1 (wb_S_ahead_100 hm ?_)
    rw [seats_eq hl'.2.2.1]
    rw [show wseats (sC s) (sN s) (wAh s k) 0 = fsum (fun t => if fside (A' (48 + 2) t) (A' (48 + 1) t) = 0 then A' (P 1 + 1) t else 0) (sN s) from fsum_c (fun t ht => by rw [eV t ht, eB t ht, cl_C r' ht])] at h
    exact h
  · rw [if_neg q0, if_pos (Classical.not_not.mp q1)] at h
    rw [show wParty (wAh s k) = I' 48 6 by rw [← e]; rfl] at h
    exact wb_S_ahead_100 hm h
  · rw [if_pos (Classical.not_not.mp q0)] at h
    rw [fsum_c (g := A' (48 + 2)) eB] at h
    exact sp_World_allBreathe (o := 48) rfl hl'.1 hl'.2.1 hl'.2.2.1 (wb_S_ahead_66 hm h)
/-- one more vote, from any world that votes lead to -/
theorem rs_vote (hs : sOk s) {d k : Nat} {Q : gQ} {X : gX} {H : gH} {x : Nat} {P : Nat → Nat} {I A : Nat → Nat → Int32} (hr : rRep s I A) (e : rW (sN s) (A 18) = wAh s k) (h : ∀ A', rRep s I A' → rW (sN s) (A' 18) = wAh s (k + 1) → Q none (gset H x mck P I A')) : meth (d + 6) m_R_votes [.ref (x + 0)] (gset H x mck P I A) Q X := by
  have hl := rRep_land hs hr
  refine sp_R_votes (n := sN s) (m := zM (sZ s)) (C := sC s) (N := sNr s) hr.2.2.2.1 hs.2.2.2.1 hl.1 hl.2.1 hl.2.2.1 hl.2.2.2.1 hl.2.2.2.2.1 hl.2.2.2.2.2 (fun t ht => ?_) (fun A' f e' => h A' (rRep_fr hr (fun _ _ => rfl) f rSp_v) ?_)
  · obtain ⟨v, b, v1, v9, bv, e1, e2⟩ := sW_ok hs ht
    have : wV (wAh s k) t = A 18 t := by rw [← e]; exact rs_at ht
    rw [← this, show wV (wAh s k) = wV (sW s) from wvotes_V k, e1]
    exact nI_pos' (by omega)
  · rw [e', e]; rfl
theorem R_ahead (hs : sOk s) {n a : Int32} : rCall m_R_ahead [.int n, .int a] kA (.int 0) (q1 (inR n 0 99 && inR a 0 2) s (f_ahead a (wAh s n.toNatClampNeg) s)) s := by
  intro d Q X H x P I A hr h
  have hm := @mo_R_ahead (meth (d + 59)) (meth_smono (d + 59))
  have hn8 : sN s ≤ 8 := hs.2.1.1
  have no : (inR n 0 99 && inR a 0 2) = false → gWp (gTab (tb_R_ahead (meth (d + 59)))) Q X 29 [some (.ref (x + 0)), some (.int n), some (.int a), none] [.ref (x + 0)] (gset H x mck P (upI I 0 0 0) A) := fun hf => by
    rw [q1_f hf] at h
    exact wb_R_ahead_29 hm (wb_R_ahead_30 hm (sp_R_may (c := false) (kind := 1) (code := 1) upI_s (by omega) (by omega) (rRep_0 hr) (fun q => by cases q) (fun _ I' A' r' e => wb_R_ahead_35 hm ⟨fun q => absurd rfl q, fun _ => h I' A' _ r' ⟨e, rfl⟩⟩)))
  refine me_R_ahead (wb_R_ahead_0 hm (sp_R_within (wb_R_ahead_13 hm ⟨fun c1 => no (by rw [b_i00 c1]; rfl), fun c1 => sp_R_within (wb_R_ahead_22 hm ⟨fun c2 => no (by rw [b_i01 c1, b_i00 c2]; rfl), fun c2 => wb_R_ahead_30 hm (sp_R_may (c := true) (kind := 1) (code := 1) upI_s (by omega) (by omega) (rRep_0 hr) (fun _ => wb_R_ahead_35 hm ⟨fun _ => rs_take (rRep_0 hr) hn8 (fun A1 f1 r1 e1 => wb_R_ahead_44 hm ?_), fun q => absurd (by decide) q⟩) (fun q => by cases q))⟩)⟩)))
  rw [q1_t (by rw [b_i01 c1, b_i01 c2]; rfl)] at h
  obtain ⟨k, hk, rfl⟩ := inR_n (m := 99) (by omega) (b_i01 c1)
  rw [nI_clamp (by omega)] at h
  unfold f_ahead at h
  have key : ∀ j, j ≤ k → ∀ A2, rRep s (upI I 0 0 0) A2 → rW (sN s) (A2 18) = wAh s j → gWp (gTab (tb_R_ahead (meth (d + 59)))) Q X 46 [some (.ref (x + 0)), some (.int (nI k)), some (.int a), some (.int (nI j))] [] (gset H x mck P (upI I 0 0 0) A2) := by
    refine gdown ?_ ?_
    · intro A2 r2 e2
      have h := fun v hv => h _ A2 (.int v) r2 ⟨upI_s, congrArg Value.int hv⟩
      have eV : ∀ t, t < sN s → wV (wAh s k) t = A2 18 t := fun t ht => by rw [← e2]; exact rs_at ht
      have eB : ∀ t, t < sN s → wB (wAh s k) t = A2 18 (8 + t) := fun t ht => by rw [← e2]; exact rs_at (f := fun t => A2 18 (8 + t)) ht
      refine wb_R_ahead_46 hm ⟨fun _ => ⟨fun q0 => ⟨fun q1 => ?_, fun q1 => ⟨vpd (by decide), wb_R_ahead_94 hm (h _ ?_)⟩⟩, fun q0 => ?_⟩, fun c => absurd (nI_le (Nat.le_refl _) (by omega)) c⟩
      · refine sp_R_seatsOf (n := sN s) r2.2.1.1 hn8 (wb_R_ahead_94 hm (h _ ?_))
        rw [if_neg q0, if_neg q1]
        exact fsum_c (fun t ht => by rw [eV t ht, eB t ht, r2.2.1.2.2.1 t ht]; rfl)
      · rw [if_neg q0, if_pos (Classical.not_not.mp q1), ← e2]; rfl
      · refine sp_R_sumOf (n := sN s) (f := 8) r2.2.1.1 hn8 (by omega) (wb_R_ahead_71 hm (wb_R_ahead_94 hm (h _ ?_)))
        rw [if_pos (Classical.not_not.mp q0)]
        exact fsum_c (fun t ht => (eB t ht).symm)
    · intro j hj ih A2 r2 e2
      refine wb_R_ahead_46 hm ⟨fun c => absurd c (nI_ge hj (by omega)), fun _ => rs_vote hs r2 e2 (fun A3 r3 e3 => wb_R_ahead_55 hm ?_)⟩
      rw [nI_1]
      exact ih A3 r3 e3
  exact key 0 (Nat.zero_le _) A1 r1 e1
-- till
theorem C_till (hs : sOk s) {a : Int32} : cCall m_S_till [.int a] (q1 (inR a 0 1) s (ftill (fun k => wParty (wAh s k)) a 100 0)) s := by
  intro d Q X H x P I A hr h
  have hm := @mo_S_till (meth (d + 59)) (meth_smono (d + 59))
  have hp := hr.1
  have hl := cRep_land hs hr
  refine me_S_till (wb_S_till_0 hm (sp_S_within (wb_S_till_7 hm (sp_S_need hr (fun c => wb_S_till_10 hm (sp_Fate_votesTill hl (pOk_5 hp) hr.2.2.2.2.1 hs.2.2.2.1 (fun I' A' f1 f2 => wb_S_till_30 hm ?_))) (fun c I' r' => ?_)))))
  · rw [q1_t c] at h
    rw [show (fun k => wParty (wvotes (sE s) (A (P 1 + 1)) (A (P 1 + 2)) (sN s) (cW (sN s) I A 13) k)) = fun k => wParty (wAh s k) from funext (fun k => by rw [wAh_c hr])]
    exact h P I' A' (cRep_fr hr f1 f2 (spI_48 hp) (spA_f hp))
  · rw [q1_f c] at h; exact h P I' A r'
theorem R_till (hs : sOk s) {a : Int32} : rCall m_R_till [.int a] kA (.int 0) (q1 (inR a 0 1) s (ftill (fun k => wParty (wAh s k)) a 100 0)) s := by
  intro d Q X H x P I A hr h
  have hm := @mo_R_till (meth (d + 59)) (meth_smono (d + 59))
  have hn8 : sN s ≤ 8 := hs.2.1.1
  refine me_R_till (wb_R_till_0 hm (sp_R_within (wb_R_till_12 hm (sp_R_may (kind := 1) (code := 1) upI_s (by omega) (by omega) (rRep_0 hr) (fun c => wb_R_till_17 hm ⟨fun _ => rs_take (rRep_0 hr) hn8 (fun A1 f1 r1 e1 => wb_R_till_26 hm ?_), fun q => absurd (by decide) q⟩) (fun c I' A' r' e => wb_R_till_17 hm ⟨fun q => absurd rfl q, fun _ => ?_⟩)))))
  · rw [q1_t c] at h
    have key : ∀ u k, u + k = 100 → ∀ A2, rRep s (upI I 0 0 0) A2 → rW (sN s) (A2 18) = wAh s k → ftill (fun k => wParty (wAh s k)) a u k = ftill (fun k => wParty (wAh s k)) a 100 0 → gWp (gTab (tb_R_till (meth (d + 59)))) Q X 28 [some (.ref (x + 0)), some (.int a), some (.int (nI k))] [] (gset H x mck P (upI I 0 0 0) A2) := by
      intro u
      induction u with
      | zero =>
        intro k hk A2 r2 e2 ef
        rw [← ef] at h
        rw [show k = 100 by omega]
        exact wb_R_till_28 hm ⟨fun _ => h _ A2 _ r2 ⟨upI_s, rfl⟩, fun q => absurd (by decide) q⟩
      | succ u ih =>
        intro k hk A2 r2 e2 ef
        have ep : A2 18 25 = wParty (wAh s k) := by rw [← e2]; rfl
        refine wb_R_till_28 hm ⟨fun q => absurd q (by rw [show (99 : Int32) = nI 99 from rfl, nI_ltI (by omega) (by omega)]; omega), fun _ => ⟨vpd (by decide), ?_⟩⟩
        rw [show ((25 : Int32)).toNatClampNeg = 25 from rfl, ep]
        unfold ftill at ef
        refine ⟨fun q => rs_vote hs r2 e2 (fun A3 r3 e3 => wb_R_till_51 hm ?_), fun q => ?_⟩
        · rw [if_neg q] at ef
          rw [nI_1]
          refine ih (k + 1) (by omega) A3 r3 e3 ?_
          rw [ef]; rfl
        · rw [if_pos (Classical.not_not.mp q)] at ef
          have : nI k = ftill (fun k => wParty (wAh s k)) a 100 0 := by rw [ef]; rfl
          rw [← this] at h
          exact h _ A2 _ r2 ⟨upI_s, rfl⟩
    exact key 100 0 rfl A1 r1 e1 rfl
  · rw [q1_f c] at h; exact h I' A' _ r' ⟨e, rfl⟩
end CA4
