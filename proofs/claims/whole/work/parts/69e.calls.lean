/-! ===== calls: term, span, closest, safest, lightest, given ===== -/
section CA5
variable {s : ST}
def zTm (s : ST) (sd qq : Int32) (k : Nat) : TS := if sN s = 0 then (sW s, sd, 0, 0) else wterm (sE s) (sC s) (sNr s) (sN s) qq (sW s, sd, 0, 0) k
theorem zTm_ok (hs : sOk s) (sd qq : Int32) (k : Nat) : wOk (sN s) (zTm s sd qq k).1 := by
  unfold zTm
  by_cases h0 : sN s = 0
  · rw [if_pos h0]; exact hs.2.2.1.1
  · rw [if_neg h0]; exact wterm_ok (n := sN s) (z := (sW s, sd, 0, 0)) (by omega) hs.2.1.1 hs.2.2.1.1 k
section IN3
variable {d : Nat} {Q : gQ} {X : gX} {H : gH} {x : Nat} {P : Nat → Nat} {I A : Nat → Nat → Int32}
theorem cs_term (hs : sOk s) (hr : cRep s P I A) {sd qq : Int32} {k : Nat} (hk : k ≤ 96) (h : ∀ I' A', cRep s P I' A' → cW (sN s) I' A' 48 = (zTm s sd qq k).1 → I' 47 2 = (zTm s sd qq k).2.2.1 → I' 47 3 = (zTm s sd qq k).2.2.2 → Q none (gset H x cck P I' A')) : meth (d + 6) m_Fate_serveTerm [.ref (x + 47), .int sd, .int qq, .int (nI k), .ref (x + 13), .ref (x + P 1), .ref (x + P 5)] (gset H x cck P I A) Q X := by
  have hp := hr.1
  refine sp_Fate_serveTerm (cRep_land hs hr) (pOk_5 hp) hr.2.2.2.2.1 hs.2.2.2.1 hk (fun I' A' z f1 f2 ez e1 e2 e3 => ?_)
  have e : z = zTm s sd qq k := by
    rw [ez, hr.2.2.2.1]
    unfold zTm
    rw [wterm_c (fun t ht => cl_C hr ht) (fun t ht => cl_N hr ht)]
  rw [e] at e1 e2 e3
  exact h I' A' (cRep_fr hr f1 f2 (spI_47 hp) (spA_f hp)) e1 e2 e3
theorem rs_term (hs : sOk s) (hr : rRep s I A) {sd qq : Int32} {k : Nat} (hk : k ≤ 96) (h : ∀ I' A', rRep s I' A' → I' 0 0 = I 0 0 → rW (sN s) (A' 18) = (zTm s sd qq k).1 → I' 0 51 = (zTm s sd qq k).2.2.1 → I' 0 50 = (zTm s sd qq k).2.2.2 → Q none (gset H x mck P I' A')) : meth (d + 7) m_R_termGoes [.ref (x + 0), .int sd, .int qq, .int (nI k)] (gset H x mck P I A) Q X := by
  refine sp_R_termGoes (rRep_land hs hr) hr.2.2.2.1 hs.2.2.2.1 (fun t ht => ?_) hk (fun I' A' z f1 f2 ez e1 e2 e3 => ?_)
  · obtain ⟨v, b, v1, v9, bv, e1, e2⟩ := sW_ok hs ht
    rw [← rw_V hr.2.2.1 ht, e1]
    exact nI_pos' (by omega)
  · have e : z = zTm s sd qq k := by
      rw [ez, hr.2.2.1]
      rfl
    rw [e] at e1 e2 e3
    exact h I' A' (rRep_fr hr (fun f hf => f1 f (by omega) (by omega) (by omega)) f2 rSp_v) (f1 0 (by decide) (by decide) (by decide)) e1 e2 e3
end IN3
def f_term (a : Int32) (z : TS) (s : ST) : Int32 := if a = 0 then fsum (wB z.1) (sN s) else if a = 1 then wParty z.1 else if a = 2 then z.2.2.1 else z.2.2.2
theorem C_term (hs : sOk s) {sd q n a : Int32} : cCall m_S_term [.int sd, .int q, .int n, .int a] (q1 (inR q 0 16 && (inR n 1 96 && inR a 0 3)) s (f_term a (zTm s sd q n.toNatClampNeg) s)) s := by
  intro d Q X H x P I A hr h
  have hm := @mo_S_term (meth (d + 59)) (meth_smono (d + 59))
  have no : (inR q 0 16 && (inR n 1 96 && inR a 0 3)) = false → gWp (gTab (tb_S_term (meth (d + 59)))) Q X 35 [some (.ref (x + 0)), some (.int sd), some (.int q), some (.int n), some (.int a)] [.ref (x + 0)] (gset H x cck P I A) := fun hf => by
    rw [q1_f hf] at h
    exact wb_S_term_35 hm (wb_S_term_36 hm (sp_S_need (c := false) hr (fun q => by cases q) (fun _ I' r' => h P I' A r')))
  refine me_S_term (wb_S_term_0 hm (sp_S_within (wb_S_term_8 hm ⟨fun c1 => no (by rw [b_i00 c1]; rfl), fun c1 => sp_S_within (wb_S_term_18 hm ⟨fun c2 => no (by rw [b_i01 c1, b_i00 c2]; rfl), fun c2 => sp_S_within (wb_S_term_28 hm ⟨fun c3 => no (by rw [b_i01 c1, b_i01 c2, b_i00 c3]; rfl), fun c3 => wb_S_term_36 hm (sp_S_need (c := true) hr (fun _ => wb_S_term_39 hm ?_) (fun q => by cases q))⟩)⟩)⟩)))
  rw [q1_t (by rw [b_i01 c1, b_i01 c2, b_i01 c3]; rfl)] at h
  obtain ⟨k, k1, hk, rfl⟩ := inR_1 (m := 96) (by omega) (b_i01 c2)
  rw [nI_clamp (by omega)] at h
  refine cs_term hs hr hk (fun I' A' r' e1 e2 e3 => wb_S_term_61 hm ?_)
  have hl' := cRep_land hs r'
  have h := h P I' A' r'
  unfold f_term at h
  rw [tsw_3]
  by_cases h0 : a = 0
  · rw [if_pos h0] at h ⊢
    rw [fsum_c (g := A' (48 + 2)) (fun t ht => by rw [← e1]; exact rs_at ht)] at h
    exact wb_S_term_88 hm (sp_World_allBreathe (o := 48) rfl hl'.1 hl'.2.1 hl'.2.2.1 (wb_S_term_102 hm h))
  · rw [if_neg h0] at h ⊢
    by_cases h1 : a = 1
    · rw [if_pos h1] at h ⊢
      rw [show wParty (zTm s sd q k).1 = I' 48 6 by rw [← e1]; rfl] at h
      exact wb_S_term_103 hm h
    · rw [if_neg h1] at h ⊢
      by_cases h2 : a = 2
      · rw [if_pos h2] at h ⊢
        rw [← e2] at h
        exact wb_S_term_114 hm h
      · rw [if_neg h2] at h ⊢
        rw [← e3] at h
        exact wb_S_term_122 hm h
theorem sp_R_isTerm {d : Nat} {Q : gQ} {X : gX} {H : gH} {x : Nat} {P : Nat → Nat} {I A : Nat → Nat → Int32} {q n : Int32} (h : Q (some (.int (i01 (inR q 0 16 && inR n 1 96)))) (gset H x mck P I A)) : meth (d + 1) m_R_isTerm [.int q, .int n] (gset H x mck P I A) Q X := by
  have hm := @mo_R_isTerm (meth d) (meth_smono d)
  have no : (inR q 0 16 && inR n 1 96) = false → gWp (gTab (tb_R_isTerm (meth d))) Q X 25 [some (.int q), some (.int n)] [] (gset H x mck P I A) := fun hf => by
    rw [hf] at h
    exact wb_R_isTerm_25 hm (wb_R_isTerm_26 hm ⟨rfl, h⟩)
  refine me_R_isTerm (wb_R_isTerm_0 hm ⟨fun c => no ?_, fun c1 => ⟨fun c => no ?_, fun c2 => ⟨fun c => no ?_, fun c3 => ⟨fun c => no ?_, fun c4 => wb_R_isTerm_26 hm ⟨rfl, ?_⟩⟩⟩⟩⟩)
  · rw [show inR q 0 16 = false from decide_eq_false (fun z => z.1 c)]; rfl
  · rw [show inR q 0 16 = false from decide_eq_false (fun z => z.2 c)]; rfl
  · rw [show inR n 1 96 = false from decide_eq_false (fun z => z.1 c), Bool.and_false]
  · rw [show inR n 1 96 = false from decide_eq_false (fun z => z.2 c), Bool.and_false]
  · rw [show inR q 0 16 = true from decide_eq_true ⟨c1, c2⟩, show inR n 1 96 = true from decide_eq_true ⟨c3, c4⟩] at h; exact h
theorem R_term (hs : sOk s) {sd q n a : Int32} : rCall m_R_term [.int sd, .int q, .int n, .int a] kA (.int 0) (q1 (inR q 0 16 && (inR n 1 96 && inR a 0 3)) s (f_term a (zTm s sd q n.toNatClampNeg) s)) s := by
  intro d Q X H x P I A hr h
  have hm := @mo_R_term (meth (d + 59)) (meth_smono (d + 59))
  have hn8 : sN s ≤ 8 := hs.2.1.1
  have no : (inR q 0 16 && (inR n 1 96 && inR a 0 3)) = false → gWp (gTab (tb_R_term (meth (d + 59)))) Q X 28 [some (.ref (x + 0)), some (.int sd), some (.int q), some (.int n), some (.int a)] [.ref (x + 0)] (gset H x mck P (upI I 0 0 0) A) := fun hf => by
    rw [q1_f hf] at h
    exact wb_R_term_28 hm (wb_R_term_29 hm (sp_R_may (c := false) (kind := 1) (code := 1) upI_s (by omega) (by omega) (rRep_0 hr) (fun q => by cases q) (fun _ I' A' r' e => wb_R_term_34 hm ⟨fun q => absurd rfl q, fun _ => h I' A' _ r' ⟨e, rfl⟩⟩)))
  refine me_R_term (wb_R_term_0 hm (sp_R_isTerm (wb_R_term_11 hm ⟨fun c1 => no (by rw [← Bool.and_assoc, b_i00 c1]; rfl), fun c1 => sp_R_within (wb_R_term_21 hm ⟨fun c2 => no (by rw [← Bool.and_assoc, b_i01 c1, b_i00 c2]; rfl), fun c2 => wb_R_term_29 hm (sp_R_may (c := true) (kind := 1) (code := 1) upI_s (by omega) (by omega) (rRep_0 hr) (fun _ => wb_R_term_34 hm ⟨fun _ => ?_, fun q => absurd (by decide) q⟩) (fun q => by cases q))⟩)⟩)))
  have hc := and_tt (b_i01 c1)
  rw [q1_t (by rw [← Bool.and_assoc, b_i01 c1, b_i01 c2]; rfl)] at h
  obtain ⟨k, k1, hk, rfl⟩ := inR_1 (m := 96) (by omega) hc.2
  rw [nI_clamp (by omega)] at h
  refine rs_term hs (rRep_0 hr) hk (fun I' A' r' e0 e1 e2 e3 => wb_R_term_46 hm ?_)
  rw [upI_s] at e0
  have h := fun v hv => h I' A' (.int v) r' ⟨e0, congrArg Value.int hv⟩
  unfold f_term at h
  refine ⟨fun q0 => ⟨fun q1 => ⟨fun q2 => wb_R_term_93 hm (h _ ?_), fun q2 => wb_R_term_93 hm (h _ ?_)⟩, fun q1 => ⟨vpd (by decide), wb_R_term_93 hm (h _ ?_)⟩⟩, fun q0 => sp_R_sumOf (n := sN s) (f := 8) r'.2.1.1 hn8 (by omega) (wb_R_term_57 hm (wb_R_term_93 hm (h _ ?_)))⟩
  · rw [if_neg q0, if_neg q1, if_neg q2, e3]
  · rw [if_neg q0, if_neg q1, if_pos (Classical.not_not.mp q2), e2]
  · rw [if_neg q0, if_pos (Classical.not_not.mp q1), ← e1]; rfl
  · rw [if_pos (Classical.not_not.mp q0)]
    exact fsum_c (fun t ht => by rw [← e1]; exact (rs_at (f := fun t => A' 18 (8 + t)) ht).symm)
-- span
def spB (s : ST) (sd q : Int32) (k i : Nat) : Int32 := fsum (wB (zTm s (sd + nI i) q k).1) (sN s)
def spMin (s : ST) (sd q : Int32) (k : Nat) : Nat → Int32
  | 0 => 0
  | i + 1 => if i = 0 then spB s sd q k i else gmin (spMin s sd q k i) (spB s sd q k i)
theorem spMin_0 {s : ST} {sd q : Int32} {k j : Nat} (h : j = 0) : spMin s sd q k (j + 1) = spB s sd q k j := by rw [spMin, if_pos h]
theorem spMin_s {s : ST} {sd q : Int32} {k j : Nat} (h : ¬ j = 0) : spMin s sd q k (j + 1) = gmin (spMin s sd q k j) (spB s sd q k j) := by rw [spMin, if_neg h]
def spMax (s : ST) (sd q : Int32) (k : Nat) : Nat → Int32
  | 0 => 0
  | i + 1 => gmax (spMax s sd q k i) (spB s sd q k i)
def spIn (s : ST) (sd q : Int32) (k : Nat) : Nat → Int32
  | 0 => 0
  | i + 1 => spIn s sd q k i + (if wParty (zTm s (sd + nI i) q k).1 = 0 then 1 else 0)
def f_span (a sd q : Int32) (k m : Nat) (s : ST) : Int32 := if a = 0 then spMin s sd q k m else if a = 1 then spMax s sd q k m else spIn s sd q k m
theorem C_span (hs : sOk s) {sd m q n a : Int32} : cCall m_S_span [.int sd, .int m, .int q, .int n, .int a] (q1 (inR m 1 20 && (inR q 0 16 && (inR n 1 96 && inR a 0 2))) s (f_span a sd q n.toNatClampNeg m.toNatClampNeg s)) s := by
  intro d Q X H x P I A hr h
  have hm := @mo_S_span (meth (d + 59)) (meth_smono (d + 59))
  have no : ∀ {Q' : gQ}, (inR m 1 20 && (inR q 0 16 && (inR n 1 96 && inR a 0 2))) = false → meth (d + 59) m_S_need [.ref (x + 0), .int (i01 false)] (gset H x cck P I A) Q' X := fun hf => by
    rw [q1_f hf] at h
    exact sp_S_need (c := false) hr (fun q => by cases q) (fun _ I' r' => h P I' A r')
  refine me_S_span (wb_S_span_0 hm (sp_S_within (wb_S_span_8 hm ⟨fun c1 => wb_S_span_25 hm (wb_S_span_26 hm (no (by rw [b_i00 c1]; rfl))), fun c1 => sp_S_within (wb_S_span_18 hm ⟨fun c2 => wb_S_span_25 hm (wb_S_span_26 hm (no (by rw [b_i01 c1, b_i00 c2]; rfl))), fun c2 => wb_S_span_26 hm (sp_S_need (c := true) hr (fun _ => wb_S_span_29 hm (sp_S_within (wb_S_span_38 hm ⟨fun c3 => wb_S_span_55 hm (wb_S_span_56 hm (no (by rw [b_i01 c1, b_i01 c2, b_i00 c3]; rfl))), fun c3 => sp_S_within (wb_S_span_48 hm ⟨fun c4 => wb_S_span_55 hm (wb_S_span_56 hm (no (by rw [b_i01 c1, b_i01 c2, b_i01 c3, b_i00 c4]; rfl))), fun c4 => wb_S_span_56 hm (sp_S_need (c := true) hr (fun _ => wb_S_span_59 hm ?_) (fun q => by cases q))⟩)⟩))) (fun q => by cases q))⟩)⟩)))
  rw [q1_t (by rw [b_i01 c1, b_i01 c2, b_i01 c3, b_i01 c4]; rfl)] at h
  obtain ⟨k, k1, hk, rfl⟩ := inR_1 (m := 96) (by omega) (b_i01 c3)
  obtain ⟨u, u1, hu, rfl⟩ := inR_1 (m := 20) (by omega) (b_i01 c1)
  rw [nI_clamp (by omega), nI_clamp (by omega)] at h
  have key : ∀ j, j ≤ u → ∀ I2 A2, cRep s P I2 A2 → gWp (gTab (tb_S_span (meth (d + 59)))) Q X 71 [some (.ref (x + 0)), some (.int sd), some (.int (nI u)), some (.int q), some (.int (nI k)), some (.int a), some (.int (spMin s sd q k j)), some (.int (spMax s sd q k j)), some (.int (spIn s sd q k j)), some (.int (nI j)), none] [] (gset H x cck P I2 A2) := by
    refine gdown ?_ ?_
    · intro I2 A2 r2
      have h := h P I2 A2 r2
      unfold f_span at h
      refine wb_S_span_71 hm ⟨fun _ => ⟨fun q0 => ⟨fun q1 => wb_S_span_197 hm ?_, fun q1 => wb_S_span_197 hm ?_⟩, fun q0 => ?_⟩, fun c => absurd (nI_le (Nat.le_refl _) (by omega)) c⟩
      · rw [if_neg q0, if_neg q1] at h; exact h
      · rw [if_neg q0, if_pos (Classical.not_not.mp q1)] at h; exact h
      · rw [if_pos (Classical.not_not.mp q0)] at h; exact h
    · intro j hj ih I2 A2 r2
      refine wb_S_span_71 hm ⟨fun c => absurd c (nI_ge hj (by omega)), fun _ => cs_term hs r2 hk (fun I' A' r' e1 e2 e3 => wb_S_span_103 hm ?_)⟩
      have hl' := cRep_land hs r'
      refine sp_World_allBreathe (o := 48) rfl hl'.1 hl'.2.1 hl'.2.2.1 (wb_S_span_117 hm ?_)
      have eb : fsum (A' (48 + 2)) (sN s) = spB s sd q k j := fsum_c (fun t ht => by rw [← e1]; exact (rs_at ht).symm)
      have ep : I' 48 6 = wParty (zTm s (sd + nI j) q k).1 := by rw [← e1]; rfl
      rw [eb]
      have ih := ih I' A' r'
      rw [spMax, spIn, ← nI_1] at ih
      have go : ∀ w, w = spMin s sd q k (j + 1) → gWp (gTab (tb_S_span (meth (d + 59)))) Q X 136 [some (.ref (x + 0)), some (.int sd), some (.int (nI u)), some (.int q), some (.int (nI k)), some (.int a), some (.int (spMin s sd q k j)), some (.int (spMax s sd q k j)), some (.int (spIn s sd q k j)), some (.int (nI j)), some (.int (spB s sd q k j))] [.int w] (gset H x cck P I' A') := by
        intro w hw
        subst hw
        refine wb_S_span_136 hm ?_
        rw [ep]
        refine ⟨fun q => wb_S_span_167 hm ?_, fun q => wb_S_span_167 hm ?_⟩
        · rw [if_neg q] at ih; exact ih
        · rw [if_pos (Classical.not_not.mp q)] at ih; exact ih
      refine ⟨fun c => go _ (spMin_s (fun z => c ((congrArg nI z).trans nI_0))).symm, fun c => go _ (spMin_0 ?_).symm⟩
      exact Classical.byContradiction (fun z => c (nI_ne0 (by omega) (by omega)))
  exact key 0 (Nat.zero_le _) I A hr
theorem R_span (hs : sOk s) {sd m q n a : Int32} : rCall m_R_span [.int sd, .int m, .int q, .int n, .int a] kA (.int 0) (q1 (inR m 1 20 && (inR q 0 16 && (inR n 1 96 && inR a 0 2))) s (f_span a sd q n.toNatClampNeg m.toNatClampNeg s)) s := by
  intro d Q X H x P I A hr h
  have hm := @mo_R_span (meth (d + 59)) (meth_smono (d + 59))
  have hn8 : sN s ≤ 8 := hs.2.1.1
  have no : (inR m 1 20 && (inR q 0 16 && (inR n 1 96 && inR a 0 2))) = false → gWp (gTab (tb_R_span (meth (d + 59)))) Q X 39 [some (.ref (x + 0)), some (.int sd), some (.int m), some (.int q), some (.int n), some (.int a), none, none, none, none, none] [.ref (x + 0)] (gset H x mck P (upI I 0 0 0) A) := fun hf => by
    rw [q1_f hf] at h
    exact wb_R_span_39 hm (wb_R_span_40 hm (sp_R_may (c := false) (kind := 1) (code := 1) upI_s (by omega) (by omega) (rRep_0 hr) (fun q => by cases q) (fun _ I' A' r' e => wb_R_span_45 hm ⟨fun q => absurd rfl q, fun _ => h I' A' _ r' ⟨e, rfl⟩⟩)))
  refine me_R_span (wb_R_span_0 hm (sp_R_within (wb_R_span_13 hm ⟨fun c1 => no (by rw [b_i00 c1]; rfl), fun c1 => sp_R_isTerm (wb_R_span_22 hm ⟨fun c2 => no (by rw [b_i01 c1, ← Bool.and_assoc (inR q 0 16), b_i00 c2]; rfl), fun c2 => sp_R_within (wb_R_span_32 hm ⟨fun c3 => no (by rw [b_i01 c1, ← Bool.and_assoc (inR q 0 16), b_i01 c2, b_i00 c3]; rfl), fun c3 => wb_R_span_40 hm (sp_R_may (c := true) (kind := 1) (code := 1) upI_s (by omega) (by omega) (rRep_0 hr) (fun _ => wb_R_span_45 hm ⟨fun _ => ?_, fun q => absurd (by decide) q⟩) (fun q => by cases q))⟩)⟩)⟩)))
  have hc := and_tt (b_i01 c2)
  rw [q1_t (by rw [b_i01 c1, ← Bool.and_assoc (inR q 0 16), b_i01 c2, b_i01 c3]; rfl)] at h
  obtain ⟨k, k1, hk, rfl⟩ := inR_1 (m := 96) (by omega) hc.2
  obtain ⟨u, u1, hu, rfl⟩ := inR_1 (m := 20) (by omega) (b_i01 c1)
  rw [nI_clamp (by omega), nI_clamp (by omega)] at h
  have hB : ∀ i, ∃ k', k' ≤ 7992 ∧ spB s sd q k i = nI k' := fun i => fsum_wB hn8 (zTm_ok hs _ _ _)
  have key : ∀ j, j ≤ u → ∀ I2 A2 v, rRep s I2 A2 → I2 0 0 = 0 → (j = 0 → v = -1) → (1 ≤ j → v = spMin s sd q k j ∧ ∃ k', k' ≤ 7992 ∧ v = nI k') → gWp (gTab (tb_R_span (meth (d + 59)))) Q X 62 [some (.ref (x + 0)), some (.int sd), some (.int (nI u)), some (.int q), some (.int (nI k)), some (.int a), some (.int v), some (.int (spMax s sd q k j)), some (.int (spIn s sd q k j)), some (.int (nI j)), none] [] (gset H x mck P I2 A2) := by
    refine gdown ?_ ?_
    · intro I2 A2 v r2 i0 v0 v1
      have h := fun w hw => h I2 A2 (.int w) r2 ⟨i0, congrArg Value.int hw⟩
      unfold f_span at h
      refine wb_R_span_62 hm ⟨fun _ => ⟨fun q0 => ⟨fun q1 => wb_R_span_174 hm (h _ ?_), fun q1 => wb_R_span_174 hm (h _ ?_)⟩, fun q0 => wb_R_span_174 hm (h _ ?_)⟩, fun c => absurd (nI_le (Nat.le_refl _) (by omega)) c⟩
      · rw [if_neg q0, if_neg q1]
      · rw [if_neg q0, if_pos (Classical.not_not.mp q1)]
      · rw [if_pos (Classical.not_not.mp q0)]; exact (v1 u1).1
    · intro j hj ih I2 A2 v r2 i0 v0 v1
      refine wb_R_span_62 hm ⟨fun c => absurd c (nI_ge hj (by omega)), fun _ => rs_term hs r2 hk (fun I' A' r' e0 e1 e2 e3 => wb_R_span_79 hm ?_)⟩
      rw [i0] at e0
      refine sp_R_sumOf (n := sN s) (f := 8) r'.2.1.1 hn8 (by omega) (wb_R_span_85 hm ?_)
      have eb : fsum (fun t => A' 18 (8 + t)) (sN s) = spB s sd q k j := fsum_c (fun t ht => by rw [← e1]; exact (rs_at (f := fun t => A' 18 (8 + t)) ht).symm)
      rw [eb]
      obtain ⟨b, hb, eB⟩ := hB j
      have ep : A' 18 25 = wParty (zTm s (sd + nI j) q k).1 := by rw [← e1]; rfl
      have go : ∀ w, w = spMin s sd q k (j + 1) → (∃ k', k' ≤ 7992 ∧ w = nI k') → gWp (gTab (tb_R_span (meth (d + 59)))) Q X 107 [some (.ref (x + 0)), some (.int sd), some (.int (nI u)), some (.int q), some (.int (nI k)), some (.int a), some (.int v), some (.int (spMax s sd q k j)), some (.int (spIn s sd q k j)), some (.int (nI j)), some (.int (spB s sd q k j))] [.int w] (gset H x mck P I' A') := by
        intro w hw hw2
        have ih := ih I' A' w r' e0 (fun q => by omega) (fun _ => ⟨hw, hw2⟩)
        rw [spMax, spIn, ← nI_1] at ih
        have g123 : ∀ y, y = gmax (spMax s sd q k j) (spB s sd q k j) → gWp (gTab (tb_R_span (meth (d + 59)))) Q X 123 [some (.ref (x + 0)), some (.int sd), some (.int (nI u)), some (.int q), some (.int (nI k)), some (.int a), some (.int w), some (.int (spMax s sd q k j)), some (.int (spIn s sd q k j)), some (.int (nI j)), some (.int (spB s sd q k j))] [.int y] (gset H x mck P I' A') := by
          intro y hy
          refine wb_R_span_123 hm ⟨vpd (by decide), ?_⟩
          rw [show ((25 : Int32)).toNatClampNeg = 25 from rfl, ep, hy]
          refine ⟨fun q => wb_R_span_142 hm ?_, fun q => wb_R_span_142 hm ?_⟩
          · rw [if_neg q] at ih; exact ih
          · rw [if_pos (Classical.not_not.mp q)] at ih; exact ih
        refine wb_R_span_107 hm ⟨fun c => g123 _ ?_, fun c => g123 _ ?_⟩
        · unfold gmax; rw [if_neg (Int32.not_lt.mpr c)]
        · unfold gmax; rw [if_pos (Int32.not_le.mp c)]
      by_cases hj0 : j = 0
      · have ev := v0 hj0
        have em : spMin s sd q k (j + 1) = spB s sd q k j := spMin_0 hj0
        refine ⟨fun _ => wb_R_span_100 hm (go _ em.symm ⟨b, hb, eB⟩), fun c => absurd ev c⟩
      · obtain ⟨e1', k', hk', ek⟩ := v1 (by omega)
        refine ⟨fun c => absurd c (by rw [ek]; exact nI_nm1 (by omega)), fun _ => ⟨fun c => go _ ?_ ⟨k', hk', ek⟩, fun c => wb_R_span_100 hm (go _ ?_ ⟨b, hb, eB⟩)⟩⟩
        · rw [spMin_s hj0, ← e1']; unfold gmin; rw [if_neg (Int32.not_lt.mpr c)]
        · rw [spMin_s hj0, ← e1']; unfold gmin; rw [if_pos (Int32.not_le.mp c)]
  exact key 0 (Nat.zero_le _) _ A _ (rRep_0 hr) upI_s (fun _ => rfl) (fun q => absurd q (by omega))
end CA5
