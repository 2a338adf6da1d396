/-! ===== calls: law, book ===== -/
def okN (s : ST) (lim : Nat) (n : Int32) : Bool := inR n 0 (nI (min lim (sL s)))
theorem okN_n {s : ST} {lim : Nat} {n : Int32} (hs : sOk s) (h : okN s lim n = true) : ∃ k, k ≤ lim ∧ k ≤ sL s ∧ n = nI k := by
  have h6 := hs.1
  obtain ⟨k, hk, e⟩ := inR_n (m := min lim (sL s)) (by omega) h
  exact ⟨k, by omega, by omega, e⟩
def sFlt (s : ST) (p : Int32) : ST := ((sB s, 0, p), sZ s, sW s, sE s, sK s, sU s, sM s, sR s, sX0 s, sX1 s)
def fTxt (r : PO) (s : ST) (good : (Value ⊕ String) × ST) : (Value ⊕ String) × ST := match r with
  | .inl e => (.inl (.int (nI e.1 - 10)), sFlt s (nI e.2))
  | .inr _ => good
def qN (c : Bool) (s : ST) (r : (Value ⊕ String) × ST) : (Value ⊕ String) × ST := if c = true then r else (.inr IAE, sBad s)
theorem qN_t {c : Bool} {s : ST} {r : (Value ⊕ String) × ST} (h : c = true) : qN c s r = r := if_pos h
theorem qN_f {c : Bool} {s : ST} {r : (Value ⊕ String) × ST} (h : c = false) : qN c s r = (.inr IAE, sBad s) := if_neg (by rw [h]; decide)
def cSp1 (P : Nat → Nat) (L : List Nat) : Prop := 0 ∉ L ∧ P 1 ∉ L ∧ 13 ∉ L ∧ 40 ∉ L ∧ P 5 ∉ L ∧ P 7 ∉ L
theorem cRep_txt {s : ST} {P : Nat → Nat} {I A I' A' : Nat → Nat → Int32} {L L' : List Nat} {p : Int32} (hr : cRep s P I A) (fI : Fr L I I') (fA : Fr L' A A') (hL : cSp1 P L) (hL' : cSpA P L') (e1 : I' 1 1 = 0) (e8 : I' 1 8 = p) : cRep (sFlt s p) P I' A' := by
  obtain ⟨hp, ht, hl, hw, hLw, hb, hU, hM, h1, h2, h3⟩ := hr
  obtain ⟨a0, a2, a3, a4, a5, a6⟩ := hL
  obtain ⟨b0, b1, b2, b3, b4, b5, b6, b7, b8, b9, b10⟩ := hL'
  refine ⟨hp, ⟨e1, e8, by rw [fA _ b0]; exact ht.2.2⟩, ?_, ?_, hLw.mv (by rw [fI _ a5]) (fA _ b7), ?_, ?_, ?_, by rw [fI _ a0]; exact h1, by rw [fI _ a0]; exact h2, by rw [fI _ a0]; exact h3⟩
  · show cLand (sZ s) (P 1) _ _
    unfold cLand; rw [fI _ a2, fA _ b1, fA _ b2, fA _ b3, fA _ b4]; exact hl
  · show cW (sN s) _ _ 13 = sW s
    rw [cW_c (o := 13) (fI _ a3) (fA _ b5) (fA _ b6)]; exact hw
  · show bC (P 7) (sK s) _ _
    unfold bC; rw [fI _ a6, fA _ b8]; exact hb
  · show cWorks s _ _
    unfold cWorks; rw [fI _ a4, fA _ b9]; exact hU
  · show cImgs s _ _
    unfold cImgs; rw [fI _ a4, fA _ b10]; exact hM
theorem rRep_txt {s : ST} {I A I' A' : Nat → Nat → Int32} {L' : List Nat} {p : Int32} (hr : rRep s I A) (hI : ∀ f, f = 19 ∨ f = 20 ∨ f = 27 ∨ f = 32 ∨ f = 33 ∨ f = 43 ∨ f = 53 → I' 0 f = I 0 f) (fA : Fr L' A A') (hL : rSpA L') (e2 : I' 0 2 = 0) (e8 : I' 0 8 = p) : rRep (sFlt s p) I' A' := by
  obtain ⟨ht, hl, hw, hLw, hb, hU, hM, h1, h2, h3⟩ := hr
  have hA : ∀ j, j = 1 ∨ j = 2 ∨ j = 7 ∨ j = 8 ∨ j = 11 ∨ j = 12 ∨ j = 17 ∨ j = 19 ∨ j = 22 ∨ j = 28 → A' j = A j := fun j hj => fA j (hL j hj)
  refine ⟨⟨e2, e8, by rw [hA 2 (by omega)]; exact ht.2.2⟩, ?_, ?_, hLw.mv (hI 27 (by omega)) (hA 11 (by omega)) (hA 12 (by omega)), ?_, ?_, ?_, by rw [hI 33 (by omega)]; exact h1, by rw [hA 1 (by omega)]; exact h2, by rw [hA 1 (by omega)]; exact h3⟩
  · show rLand (sZ s) _ _
    unfold rLand; rw [hI 19 (by omega), hI 20 (by omega), hA 7 (by omega), hA 8 (by omega)]; exact hl
  · rw [hA 17 (by omega)]; exact hw
  · rw [hI 43 (by omega), hA 22 (by omega)]; exact hb
  · show rWorks s _ _
    unfold rWorks; rw [hI 32 (by omega), hA 19 (by omega)]; exact hU
  · show rImgs s _ _
    unfold rImgs; rw [hI 53 (by omega), hA 28 (by omega)]; exact hM
section TX
variable {s : ST} {d : Nat} {Q : gQ} {X : gX} {H : gH} {x : Nat} {P : Nat → Nat} {I A : Nat → Nat → Int32}
theorem sp_S_needText {n : Int32} {lim : Nat} (hs : sOk s) (hlim : lim ≤ 600) (hr : cRep s P I A) (h1 : okN s lim n = true → Q none (gset H x cck P I A)) (h0 : okN s lim n = false → ∀ I', cRep (sBad s) P I' A → X IAE (gset H x cck P I' A)) : meth (d + 2) m_S_needText [.ref (x + 0), .int n, .int (nI lim)] (gset H x cck P I A) Q X := by
  have hm := @mo_S_needText (meth (d + 1)) (meth_smono (d + 1))
  have h6 := hs.1
  refine me_S_needText (wb_S_needText_0 hm ?_)
  rw [hr.2.1.1, gmin_n (by omega) (by omega)]
  exact sp_S_within (wb_S_needText_17 hm (sp_S_need hr (fun q => wb_S_needText_20 hm (h1 q)) h0))
theorem sp_Tape_answer {e : Nat × Nat} {b : Nat → Int32} {n : Nat} (hc : cS b n (.inl e) I) (h : Q (some (.int (nI e.1 - 10))) (gset H x cck P I A)) : meth (d + 1) m_Tape_answer [.ref (x + 1)] (gset H x cck P I A) Q X := by
  have hm := @mo_Tape_answer (meth d) (meth_smono d)
  refine me_Tape_answer (wb_Tape_answer_0 hm ?_)
  rw [hc.2.2.1]
  exact h
def rRes (o : PO) (v p u : Int32) : Prop := match o with
  | .inl e => p = nI e.2 ∧ u = nI e.1 - 10
  | .inr _ => p = -1 ∧ u = v
theorem sp_R_result {o : PO} {b : Nat → Int32} {n : Nat} {v : Int32} (hn : n ≤ 600) (hc : rS b n o I) (h : ∀ I' u, (∀ f, f ≠ 8 → I' 0 f = I 0 f) → rRes o v (I' 0 8) u → Q (some (.int u)) (gset H x mck P I' A)) : meth (d + 2) m_R_result [.ref (x + 0), .int v] (gset H x mck P I A) Q X := by
  have hm := @mo_R_result (meth (d + 1)) (meth_smono (d + 1))
  refine me_R_result (wb_R_result_0 hm (sp_R_fine hn (rS_I (by decide) hc) (wb_R_result_12 hm ?_)))
  obtain ⟨h3, p, hp, h4, ho⟩ := hc
  cases o with
  | inl e =>
    refine ⟨fun _ => wb_R_result_26 hm (h _ _ (fun f hf => upI_f hf) ⟨by rw [upI_s]; exact ho.1, ?_⟩), fun q => absurd rfl q⟩
    rw [upI_f (by decide), ho.2.1]
  | inr t => exact ⟨fun q => absurd q i01_1, fun _ => wb_R_result_26 hm (h _ _ (fun f hf => upI_f hf) ⟨by rw [upI_s]; exact ho.1, rfl⟩)⟩
/-- the reference begins a text -/
theorem rs_begin {n : Nat} {b : Nat → Int32} (hA : A 2 = b) (h : ∀ I', (∀ f, f ≠ 2 → f ≠ 3 → f ≠ 4 → f ≠ 5 → f ≠ 7 → f ≠ 8 → I' 0 f = I 0 f) → I' 0 2 = 0 → I' 0 8 = -1 → I' 0 7 = 0 → rS b n (.inr (sk b n 0)) I' → Q none (gset H x mck P I' A)) : meth (d + 1) m_R_begins [.ref (x + 0), .int (nI n)] (gset H x mck P I A) Q X := by
  have hm := @mo_R_begins (meth d) (meth_smono d)
  refine me_R_begins (wb_R_begins_0 hm (h _ (fun f h2 h3 h4 h5 h7 h8 => ?_) ?_ ?_ ?_ ⟨?_, 0, Nat.zero_le _, ?_, ?_, rfl⟩))
  · rw [upI_f h7, upI_f h5, upI_f h4, upI_f h3, upI_f h8, upI_f h2]
  · rw [upI_f (by decide), upI_f (by decide), upI_f (by decide), upI_f (by decide), upI_f (by decide), upI_s]
  · rw [upI_f (by decide), upI_f (by decide), upI_f (by decide), upI_f (by decide), upI_s]
  · rw [upI_s]
  · rw [upI_f (by decide), upI_f (by decide), upI_f (by decide), upI_s]
  · rw [upI_f (by decide), upI_f (by decide), upI_s]; rfl
  · rw [upI_f (by decide), upI_s]
end TX
section CA10
variable {s : ST}
theorem pP_frames {P : Nat → Nat} (hp : pOkP P) : cSp1 P [1, P 6] ∧ cSpA P [P 6 + 1] ∧ cSp1 P [1, P 8] ∧ cSpA P [P 8 + 1] ∧ cSp1 P [1, 35] ∧ cSpA P [36, 37, 38, 39] ∧ cSp1 P [1, P 2, 17] ∧ cSpA P [18, 19, P 2 + 1, P 2 + 2, P 2 + 3, P 2 + 4] := by
  obtain ⟨h1, h5, h7⟩ := hp
  rcases h1 with ⟨e1, e2⟩ | ⟨e1, e2⟩ <;> rcases h5 with ⟨e5, e6⟩ | ⟨e5, e6⟩ <;> rcases h7 with ⟨e7, e8⟩ | ⟨e7, e8⟩ <;> simp [cSp1, cSpA, e1, e2, e5, e6, e7, e8]
def sLaw (s : ST) (cs : CO) : ST := ((sB s, 0, -1), sZ s, sW s, lev cs, sK s, sU s, sM s, sR s, sX0 s, sX1 s)
def f_law (k : Nat) (s : ST) : (Value ⊕ String) × ST := fTxt (plaw (sB s) k (.inr (sk (sB s) k 0))).2 s (.inl (.int 1), sLaw s (plaw (sB s) k (.inr (sk (sB s) k 0))).1)
theorem plaw_ok {b : Nat → Int32} {k t : Nat} (hk : k ≤ 150) (h : (plaw b k (.inr (sk b k 0))).2 = .inr t) : (plaw b k (.inr (sk b k 0))).1.length ≤ 150 ∧ chk (plaw b k (.inr (sk b k 0))).1 0 1 := by
  have hg := pSub_good (b := b) (n := k) 7 (pS b k (pSub b k 6)) rfl
  have hs := (sk_P (b := b) (n := k) (i := 0) (Nat.zero_le _)).1.1
  unfold plaw at h ⊢
  dsimp only at h ⊢
  cases hr : (pS b k (pSub b k 6) (.inr (sk b k 0))).2 with
  | inl e => rw [hr] at h; cases h
  | inr t' =>
    obtain ⟨a1, a2, a3, a4⟩ := hg.2 _ t' hs hr
    exact ⟨by omega, a4 0 (by omega)⟩
theorem C_law (hs : sOk s) {n : Int32} : cCall m_S_law [.int n] (qN (okN s 150 n) s (f_law n.toNatClampNeg s)) s := by
  intro d Q X H x P I A hr h
  have hm := @mo_S_law (meth (d + 59)) (meth_smono (d + 59))
  have hp := hr.1
  have hA := hr.2.1.2.2
  have pf := pP_frames hp
  have q6 : P 6 = 21 ∨ P 6 = 25 := by rcases hp.2.1 with ⟨_, e⟩ | ⟨_, e⟩ <;> omega
  refine me_S_law (wb_S_law_0 hm (sp_S_needText (lim := 150) hs (by omega) hr (fun c => wb_S_law_8 hm ?_) (fun c I' r' => ?_)))
  · rw [qN_t c] at h
    obtain ⟨k, k1, k2, rfl⟩ := okN_n hs c
    rw [nI_clamp (by omega)] at h
    refine sp_Tape_open (b := sB s) (n := k) (by omega) hA (fun I1 f1 e1 c1 => wb_S_law_16 hm (pOk_6 hp) ?_)
    refine sp_Law_read (d := d + 31) (pOk_6 hp) k1 hA c1 (fun t e => by cases e; exact (sk_P (Nat.zero_le _)).1.1) (fun I2 A2 f2 g2 c2 k3 => wb_S_law_27 hm (sp_Tape_sound c2 (wb_S_law_34 hm ?_)))
    have fI : Fr [1, P 6] I I2 := fr_t (fr_m f1 (by simp)) f2.1
    have i11 : I2 1 1 = 0 := by rw [f2.2]; exact e1
    unfold f_law fTxt at h
    cases hr2 : (plaw (sB s) k (.inr (sk (sB s) k 0))).2 with
    | inl e =>
      rw [hr2] at c2 h
      dsimp only at h
      refine ⟨fun q => absurd rfl q, fun _ => sp_Tape_answer c2 (wb_S_law_44 hm ?_)⟩
      exact h P I2 A2 (cRep_txt hr fI g2 pf.1 pf.2.1 i11 c2.2.2.2.1)
    | inr t =>
      rw [hr2] at c2 h k3
      dsimp only at h
      obtain ⟨l150, lch⟩ := plaw_ok k1 hr2
      refine ⟨fun _ => ?_, fun q => absurd i01_1 q⟩
      have r2 := cRep_txt (p := -1) hr fI g2 pf.1 pf.2.1 i11 c2.2.2.2.2.2.2.2.1
      have hla := LawAt_of (pOk_6 hp) (k3 rfl) l150 lch
      obtain ⟨rp, rt, rl, rw_, _, rb, rU, rM, r1, r2', r3⟩ := r2
      have pp : pOkP (upP (upP P 5 (P 6)) 6 (P 5)) := by
        refine ⟨rp.1, ?_, rp.2.2⟩
        show (P 6 = 21 ∧ P 5 = 25) ∨ (P 6 = 25 ∧ P 5 = 21)
        rcases rp.2.1 with ⟨e5, e6⟩ | ⟨e5, e6⟩ <;> omega
      exact h _ I2 A2 ⟨pp, rt, rl, rw_, hla, rb, rU, rM, r1, r2', r3⟩
  · rw [qN_f c] at h; exact h P I' A r'
theorem rOk_n {n : Int32} {lim : Nat} (hs : sOk s) (hlim : lim ≤ 600) {I A : Nat → Nat → Int32} (hr : rRep s I A) : (n < 0 → okN s lim n = false) ∧ (I 0 2 < n → okN s lim n = false) ∧ (nI lim < n → okN s lim n = false) ∧ (¬ n < 0 → ¬ I 0 2 < n → ¬ nI lim < n → okN s lim n = true) := by
  have h6 := hs.1
  have e2 : I 0 2 = nI (sL s) := hr.1.1
  rw [e2]
  have hmin : ∀ z : Int32, nI (min lim (sL s)) < z ↔ nI lim < z ∨ nI (sL s) < z := by
    intro z
    rw [Int32.lt_iff_toInt_lt, Int32.lt_iff_toInt_lt, Int32.lt_iff_toInt_lt, nI_toInt (by omega), nI_toInt (by omega), nI_toInt (by omega)]
    omega
  unfold okN inR
  refine ⟨fun q => decide_eq_false (fun z => z.1 q), fun q => decide_eq_false (fun z => z.2 ((hmin n).mpr (Or.inr q))), fun q => decide_eq_false (fun z => z.2 ((hmin n).mpr (Or.inl q))), fun q1 q2 q3 => decide_eq_true ⟨q1, fun z => ((hmin n).mp z).elim q3 q2⟩⟩
theorem rSp_9 : rSpA [9, 10] := fun j hj q => by simp at q; omega
theorem rSp_21 : rSpA [21] := fun j hj q => by simp at q; omega
set_option maxHeartbeats 1000000 in
theorem R_law (hs : sOk s) {n : Int32} : rCall m_R_law [.int n] kA (.int 0) (qN (okN s 150 n) s (f_law n.toNatClampNeg s)) s := by
  intro d Q X H x P I A hr h
  have hm := @mo_R_law (meth (d + 59)) (meth_smono (d + 59))
  have hA := hr.1.2.2
  obtain ⟨o1, o2, o3, o4⟩ := rOk_n (n := n) (lim := 150) hs (by omega) hr
  have no : okN s 150 n = false → gWp (gTab (tb_R_law (meth (d + 59)))) Q X 29 [some (.ref (x + 0)), some (.int n), none] [.ref (x + 0)] (gset H x mck P (upI I 0 0 0) A) := fun hf => by
    rw [qN_f hf] at h
    exact wb_R_law_29 hm (wb_R_law_30 hm (sp_R_may (c := false) (kind := 1) (code := 1) upI_s (by omega) (by omega) (rRep_0 hr) (fun q => by cases q) (fun _ I' A' r' e => wb_R_law_35 hm ⟨fun q => absurd rfl q, fun _ => h I' A' _ r' ⟨e, rfl⟩⟩)))
  refine me_R_law (wb_R_law_0 hm ⟨fun c => no (o1 c), fun c1 => ⟨fun c => no (o2 c), fun c2 => ⟨fun c => no (o3 c), fun c3 => wb_R_law_30 hm (sp_R_may (c := true) (kind := 1) (code := 1) upI_s (by omega) (by omega) (rRep_0 hr) (fun _ => wb_R_law_35 hm ⟨fun _ => ?_, fun q => absurd (by decide) q⟩) (fun q => by cases q))⟩⟩⟩)
  have c := o4 c1 c2 c3
  rw [qN_t c] at h
  obtain ⟨k, k1, k2, rfl⟩ := okN_n hs c
  rw [nI_clamp (by omega)] at h
  refine rs_begin (b := sB s) (n := k) hA (fun I1 f1 a2 a8 a7 c1' => wb_R_law_45 hm ?_)
  have i0 : I1 0 0 = 0 := by rw [f1 0 (by decide) (by decide) (by decide) (by decide) (by decide) (by decide), upI_s]
  refine rl_all k1 6 (by omega) (d + 59) (by omega) _ _ _ _ _ _ _ (.inr (sk (sB s) k 0)) [] hA (rS_I (by decide) c1') (by rw [upI_f (by decide)]; exact a7) (fun t e => by cases e; exact ⟨(sk_P (Nat.zero_le _)).1.1, Nat.zero_le _, upI_s, fun i hi => absurd hi (Nat.not_lt_zero i)⟩) (fun I2 A2 f2 g2 c2' k3 => wb_R_law_54 hm ?_)
  have hA2 : A2 2 = sB s := by rw [g2 2 (by decide)]; exact hA
  have k3 : osnd (pS (sB s) k (pSub (sB s) k 6) (.inr (sk (sB s) k 0))).2 = true → rcodeAt (pS (sB s) k (pSub (sB s) k 6) (.inr (sk (sB s) k 0))).1 I2 A2 := k3
  have fr2 : ∀ f, f ≠ 2 → f ≠ 3 → f ≠ 4 → f ≠ 5 → f ≠ 6 → f ≠ 7 → f ≠ 8 → f ≠ 26 → f ≠ 0 → I2 0 f = I 0 f := fun f b2 b3 b4 b5 b6 b7 b8 b26 b0 => by rw [f2 f b4 b5 b6 b26, upI_f b26, f1 f b2 b3 b4 b5 b7 b8, upI_f b0]
  have j2 : I2 0 2 = 0 := by rw [f2 2 (by decide) (by decide) (by decide) (by decide), upI_f (by decide)]; exact a2
  have j0 : I2 0 0 = 0 := by rw [f2 0 (by decide) (by decide) (by decide) (by decide), upI_f (by decide)]; exact i0
  -- from 77
  have tail : ∀ I3, tR I2 I3 → rS (sB s) k (plaw (sB s) k (.inr (sk (sB s) k 0))).2 I3 → gWp (gTab (tb_R_law (meth (d + 59)))) Q X 77 [some (.ref (x + 0)), some (.int (nI k)), none] [] (gset H x mck P I3 A2) := by
    intro I3 t3 c3'
    refine wb_R_law_77 hm (sp_R_result (by omega) c3' (fun I4 u e4 eo => wb_R_law_82 hm ?_))
    have j45 : I4 0 5 = I3 0 5 := e4 5 (by decide)
    have p2 : I4 0 2 = 0 := by rw [e4 2 (by decide), t3 2 (by decide) (by decide) (by decide)]; exact j2
    have p0 : I4 0 0 = 0 := by rw [e4 0 (by decide), t3 0 (by decide) (by decide) (by decide)]; exact j0
    have pI : ∀ f, f = 19 ∨ f = 20 ∨ f = 27 ∨ f = 32 ∨ f = 33 ∨ f = 43 ∨ f = 53 → I4 0 f = I 0 f := fun f hf => by rw [e4 f (by omega), t3 f (by omega) (by omega) (by omega), fr2 f (by omega) (by omega) (by omega) (by omega) (by omega) (by omega) (by omega) (by omega) (by omega)]
    unfold f_law fTxt at h
    cases hr2 : (plaw (sB s) k (.inr (sk (sB s) k 0))).2 with
    | inl e =>
      rw [hr2] at c3' eo h
      dsimp only at h eo
      obtain ⟨_, _, _, _, ho⟩ := c3'
      rw [eo.2]
      exact ⟨fun q => absurd q (by rw [j45, ho.1]; exact nI_nm1 (by have := ho.2.2.1; omega)), fun _ => h I4 A2 _ (rRep_txt hr pI g2 rSp_9 p2 eo.1) ⟨p0, rfl⟩⟩
    | inr t =>
      rw [hr2] at c3' eo h
      dsimp only at h eo
      obtain ⟨l150, lch⟩ := plaw_ok k1 hr2
      obtain ⟨_, _, _, _, ho⟩ := c3'
      refine ⟨fun _ => ?_, fun q => absurd (by rw [j45]; exact ho.1) q⟩
      have k4 : rcodeAt (plaw (sB s) k (.inr (sk (sB s) k 0))).1 I2 A2 := by
        refine k3 ?_
        unfold plaw at hr2
        dsimp only at hr2
        cases hx : (pS (sB s) k (pSub (sB s) k 6) (.inr (sk (sB s) k 0))).2 with
        | inl e => rw [hx] at hr2; cases hr2
        | inr t => rfl
      generalize hcs : (plaw (sB s) k (.inr (sk (sB s) k 0))).1 = cs at k4 l150 lch h
      have j26 : I4 0 26 = nI cs.length := by rw [e4 26 (by decide), t3 26 (by decide) (by decide) (by decide)]; exact k4.1
      rw [j26]
      refine sp_R_copies (a := 9) (b := 11) (n1 := 150) (n2 := 150) (k := cs.length) rfl rfl l150 l150 (by omega) (by omega) (by decide) (fun A3 f3 e3 _ => wb_R_law_117 hm ?_)
      rw [upI_f (show (26 : Nat) ≠ 27 by decide), j26]
      refine sp_R_copies (a := 10) (b := 12) (n1 := 150) (n2 := 150) (k := cs.length) rfl rfl l150 l150 (by omega) (by omega) (by decide) (fun A4 f4 e4' _ => wb_R_law_133 hm ?_)
      have hcl : rcodeL cs (upI I4 0 27 (nI cs.length)) A4 := ⟨upI_s, fun i hi => by
        have := k4.2 i hi
        rw [f4 11 (by decide), e3 i hi, e4' i hi, f3 10 (by decide)]
        exact this⟩
      rw [eo.2]
      obtain ⟨ht, hl, hw, hLw, hb, hU, hM, h1, h2, h3⟩ := hr
      have mA : ∀ j, j ≠ 9 → j ≠ 10 → j ≠ 11 → j ≠ 12 → A4 j = A j := fun j b1 b2 b3 b4 => by rw [f4 j (by simp; exact b4), f3 j (by simp; exact b3), g2 j (by simp; exact ⟨b1, b2⟩)]
      refine h _ A4 _ ⟨⟨by rw [upI_f (by decide)]; exact p2, by rw [upI_f (by decide)]; exact eo.1, by rw [mA 2 (by decide) (by decide) (by decide) (by decide)]; exact ht.2.2⟩, ?_, ?_, RLawAt_of hcl l150 lch, ?_, ?_, ?_, by rw [upI_f (by decide), pI 33 (by omega)]; exact h1, by rw [mA 1 (by decide) (by decide) (by decide) (by decide)]; exact h2, by rw [mA 1 (by decide) (by decide) (by decide) (by decide)]; exact h3⟩ ⟨by rw [upI_f (by decide)]; exact p0, rfl⟩
      · show rLand (sZ s) _ _
        unfold rLand; rw [upI_f (by decide), upI_f (by decide), pI 19 (by omega), pI 20 (by omega), mA 7 (by decide) (by decide) (by decide) (by decide), mA 8 (by decide) (by decide) (by decide) (by decide)]; exact hl
      · rw [mA 17 (by decide) (by decide) (by decide) (by decide)]; exact hw
      · rw [upI_f (by decide), pI 43 (by omega), mA 22 (by decide) (by decide) (by decide) (by decide)]; exact hb
      · show rWorks s _ _
        unfold rWorks; rw [upI_f (by decide), pI 32 (by omega), mA 19 (by decide) (by decide) (by decide) (by decide)]; exact hU
      · show rImgs s _ _
        unfold rImgs; rw [upI_f (by decide), pI 53 (by omega), mA 28 (by decide) (by decide) (by decide) (by decide)]; exact hM
  refine sp_R_fine (by omega) c2' (wb_R_law_58 hm ?_)
  unfold plaw at tail
  dsimp only at tail
  cases hx : (pS (sB s) k (pSub (sB s) k 6) (.inr (sk (sB s) k 0))).2 with
  | inl e =>
    rw [hx] at c2' tail
    exact ⟨fun _ => tail I2 tR_r c2', fun q => absurd rfl q⟩
  | inr t =>
    rw [hx] at c2' tail
    dsimp only at tail
    refine ⟨fun q => absurd q i01_1, fun _ => sp_R_isMore (by omega) hA2 c2' (fun I3 t3 c3' => wb_R_law_65 hm ⟨fun q => ?_, fun q => ?_⟩)⟩
    · have hs' := b_i00 q
      rw [decide_eq_false_iff_not] at hs'
      rw [if_pos (by omega)] at tail
      exact tail I3 t3 (rX_S c3')
    · have hs' := b_i01 q
      rw [decide_eq_true_eq] at hs'
      rw [if_neg (by omega)] at tail
      rw [c3'.2.1]
      exact sp_R_wrong (k := 1) (q := t) (by omega) c3'.2.2.2.1 (by omega) (rX_S c3') (fun I4 t4 c4' _ => tail I4 (tR_t t3 t4) c4')
end CA10
