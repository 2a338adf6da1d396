/-! ===== L2: terms of the reference ===== -/
theorem add_sub_a (a b c : Int32) : a + b - c = a + (b - c) := by rw [Int32.sub_eq_add_neg, Int32.sub_eq_add_neg, Int32.add_assoc]
section L2T
variable {d : Nat} {Q : gQ} {X : gX} {H : gH} {x : Nat} {P : Nat → Nat} {I A : Nat → Nat → Int32}
theorem sp_R_draws {b : Nat} (hb : 0 < b) (hb2 : b < 2 ^ 31) (h : Q (some (.int (drw (I 0 49) (nI b)))) (gset H x mck P (upI I 0 49 (nxt (I 0 49))) A)) : meth (d + 1) m_R_draws [.ref (x + 0), .int (nI b)] (gset H x mck P I A) Q X := by
  have hm := @mo_R_draws (meth d) (meth_smono d)
  exact me_R_draws (wb_R_draws_0 hm ⟨nI_ne0 hb hb2, h⟩)
theorem sp_R_sumOf {n f : Nat} (hn : I 0 19 = nI n) (hn8 : n ≤ 8) (hf : f ≤ 8) (h : Q (some (.int (fsum (fun t => A 18 (f + t)) n))) (gset H x mck P I A)) : meth (d + 1) m_R_sumOf [.ref (x + 0), .int (nI f)] (gset H x mck P I A) Q X := by
  have hm := @mo_R_sumOf (meth d) (meth_smono d)
  refine me_R_sumOf (wb_R_sumOf_0 hm ?_)
  have key : ∀ k, k ≤ n → gWp (gTab (tb_R_sumOf (meth d))) Q X 4 [some (.ref (x + 0)), some (.int (nI f)), some (.int (fsum (fun t => A 18 (f + t)) k)), some (.int (nI k))] [] (gset H x mck P I A) := by
    refine gdown ?_ ?_
    · exact wb_R_sumOf_4 hm ⟨fun _ => h, fun c => absurd (by rw [hn]; exact nI_le (Nat.le_refl n) (by omega)) c⟩
    · intro k hk ih
      refine wb_R_sumOf_4 hm ⟨fun c => absurd c (by rw [hn]; exact nI_ge hk (by omega)), fun _ => ⟨by rw [nI_add]; exact vp_in_nI (by omega) (by omega), ?_⟩⟩
      rw [nI_succ, fsum] at ih
      rw [nI_add, nI_clamp (by omega)]
      exact ih
  exact key 0 (Nat.zero_le n)
theorem sp_R_seatsAll {n : Nat} (hn : I 0 19 = nI n) (hn8 : n ≤ 8) (h : Q (some (.int (fsum (A 7) n))) (gset H x mck P I A)) : meth (d + 1) m_R_seatsAll [.ref (x + 0)] (gset H x mck P I A) Q X := by
  have hm := @mo_R_seatsAll (meth d) (meth_smono d)
  refine me_R_seatsAll (wb_R_seatsAll_0 hm ?_)
  have key : ∀ k, k ≤ n → gWp (gTab (tb_R_seatsAll (meth d))) Q X 4 [some (.ref (x + 0)), some (.int (fsum (A 7) k)), some (.int (nI k))] [] (gset H x mck P I A) := by
    refine gdown ?_ ?_
    · exact wb_R_seatsAll_4 hm ⟨fun _ => h, fun c => absurd (by rw [hn]; exact nI_le (Nat.le_refl n) (by omega)) c⟩
    · intro k hk ih
      refine wb_R_seatsAll_4 hm ⟨fun c => absurd c (by rw [hn]; exact nI_ge hk (by omega)), fun _ => ⟨vp_in_nI (by omega) (by omega), ?_⟩⟩
      rw [nI_succ, fsum] at ih
      rw [nI_clamp (by omega)]
      exact ih
  exact key 0 (Nat.zero_le n)
theorem rW_c {n : Nat} {s s' : Nat → Int32} (hn : n ≤ 8) (h : ∀ j, j < 28 → s j = s' j) : rW n s = rW n s' := by
  unfold rW
  rw [rs_c (f := s) (g := s') (fun t ht => h t (by omega)), rs_c (f := fun t => s (8 + t)) (g := fun t => s' (8 + t)) (fun t ht => h (8 + t) (by omega)), rs_c (f := fun t => s (16 + t)) (g := fun t => s' (16 + t)) (fun t ht => h (16 + t) (by omega)), h 24 (by omega), h 25 (by omega), h 26 (by omega), h 27 (by omega)]
theorem rW_B {n t : Nat} {s : Nat → Int32} {v : Int32} (ht : t < n) (hn : n ≤ 8) : rW n (upd s (8 + t) v) = wSetB (rW n s) t v := by
  unfold rW wSetB
  have e1 : rs n (upd s (8 + t) v) = rs n s := rs_c (fun j hj => upd_ne (by omega))
  have e2 : rs n (fun j => upd s (8 + t) v (8 + j)) = upd (rs n (fun j => s (8 + j))) t v := by
    rw [← rs_upd ht]
    refine rs_c (fun j hj => ?_)
    by_cases hjt : j = t
    · rw [hjt, upd_at, upd_at]
    · rw [upd_ne hjt, upd_ne (by omega)]
  have e3 : rs n (fun j => upd s (8 + t) v (16 + j)) = rs n (fun j => s (16 + j)) := rs_c (fun j hj => upd_ne (by omega))
  rw [e1, e2, e3, upd_ne (by omega), upd_ne (by omega), upd_ne (by omega), upd_ne (by omega)]
  rfl
theorem rW_F {n : Nat} {s : Nat → Int32} (hn : n ≤ 8) : rW n (upd s 24 (1 - s 24)) = wFlip (rW n s) := by
  unfold rW wFlip
  have e1 : rs n (upd s 24 (1 - s 24)) = rs n s := rs_c (fun j hj => upd_ne (by omega))
  have e2 : rs n (fun j => upd s 24 (1 - s 24) (8 + j)) = rs n (fun j => s (8 + j)) := rs_c (fun j hj => upd_ne (by omega))
  have e3 : rs n (fun j => upd s 24 (1 - s 24) (16 + j)) = rs n (fun j => s (16 + j)) := rs_c (fun j hj => upd_ne (by omega))
  rw [e1, e2, e3, upd_at, upd_ne (by omega), upd_ne (by omega), upd_ne (by omega)]
  rfl
/-- what the reference's state must have for its votes -/
def RLandOk (I A : Nat → Nat → Int32) (n m : Nat) (C N : Nat → Int32) : Prop := I 0 19 = nI n ∧ n ≤ 8 ∧ I 0 20 = nI m ∧ m ≤ 12 ∧ (∀ t, t < n → A 7 t = C t) ∧ ∀ t, t < n → froads (A 8) (nI t) m = N t
theorem RLandOk.mv {I A I' A' : Nat → Nat → Int32} {n m : Nat} {C N : Nat → Int32} (h : RLandOk I A n m C N) (h1 : I' 0 19 = I 0 19) (h2 : I' 0 20 = I 0 20) (h7 : A' 7 = A 7) (h8 : A' 8 = A 8) : RLandOk I' A' n m C N := ⟨h1.trans h.1, h.2.1, h2.trans h.2.2.1, h.2.2.2.1, by rw [h7]; exact h.2.2.2.2.1, by rw [h8]; exact h.2.2.2.2.2⟩
theorem wvote_V {ev : (Nat → Int32) → Int32} {C N : Nat → Int32} {n : Nat} {w : WS} : wV (wvote ev C N n w) = wV w := rfl
theorem rlive_B {A' : Nat → Nat → Int32} {n t : Nat} {s : Int32} (ht : t < n) (hn8 : n ≤ 8) : rW n (upA A' 18 (8 + t) (gmax 0 (gmin (A' 18 t) (A' 18 (8 + t) + (drw (nxt s) (nI 7) - 3)))) 18) = wlive1 (rW n (A' 18)) s t := by
  rw [upA_s, rW_B ht hn8]
  unfold wlive1
  rw [show wB (rW n (A' 18)) t = A' 18 (8 + t) from rs_at (f := fun t => A' 18 (8 + t)) ht, show wV (rW n (A' 18)) t = A' 18 t from rs_at ht]
  unfold fhold
  rw [show (7 : Int32) = nI 7 from rfl]
abbrev tI (I I' : Nat → Nat → Int32) : Prop := ∀ j, j ≠ 49 → j ≠ 50 → j ≠ 51 → I' 0 j = I 0 j
theorem r_mod4 {j : Nat} (hj : j < 2 ^ 30) : nI (j + 1) - nI (j + 1) / (4 : Int32) * (4 : Int32) = nI ((j + 1) % 4) := pk_rem (d := 4) (by omega) (by decide) (by decide)
theorem tv_keep {ev : (Nat → Int32) → Int32} {C N : Nat → Int32} {n u : Nat} {a b : Nat → Int32} {w : WS} (hu : u < n) (h1 : rW n a = wvote ev C N n w) (h2 : rW n b = w) : a u = b u := by
  have q1 : wV (rW n a) u = wV (rW n b) u := by rw [h1, h2]; rfl
  rwa [show wV (rW n a) u = a u from rs_at hu, show wV (rW n b) u = b u from rs_at hu] at q1
set_option maxHeartbeats 1000000 in
/-- behind a day's comma: a vote each fourth day -/
theorem term_tail {n m k j t : Nat} {sd qq s0 vt ch : Int32} {C N : Nat → Int32} {ev : (Nat → Int32) → Int32} {w0 : WS} {I' A3 : Nat → Nat → Int32} (hla : RLandOk I A n m C N) (hL : RLawAt I A ev) (hev : evOk ev) (hj : j < 96) (i3 : tI I I') (e49 : I' 0 49 = nxt3 s0) (e51 : I' 0 51 = vt) (e50 : I' 0 50 = ch) (m1 : Fr [13, 14, 18, 20] A A3) (m2 : ∀ u, u < n → 0 ≤ A3 18 u) (m3 : rW n (A3 18) = wlive n qq w0 s0)
    (ih : ∀ I'' A'', tI I I'' → Fr [13, 14, 18, 20] A A'' → (∀ t, t < n → 0 ≤ A'' 18 t) → (rW n (A'' 18), I'' 0 49, I'' 0 51, I'' 0 50) = wday ev C N n qq (j + 1) (w0, s0, vt, ch) → gWp (gTab (tb_R_termGoes (meth (d + 6)))) Q X 22 [some (.ref (x + 0)), some (.int sd), some (.int qq), some (.int (nI k)), some (.int (nI (j + 2))), none, none] [] (gset H x mck P I'' A'')) :
    gWp (gTab (tb_R_termGoes (meth (d + 6)))) Q X 112 [some (.ref (x + 0)), some (.int sd), some (.int qq), some (.int (nI k)), some (.int (nI (j + 1))), some (.int (nI t)), none] [] (gset H x mck P I' A3) := by
  have hm := @mo_R_termGoes (meth (d + 6)) (meth_smono (d + 6))
  have hn8 := hla.2.1
  refine wb_R_termGoes_112 hm ⟨by decide, ?_⟩
  rw [r_mod4 (by omega)]
  refine ⟨fun c => ⟨vpd (by decide), ?_⟩, fun c => wb_R_termGoes_171 hm ?_⟩
  · have hc : (j + 1) % 4 = 0 := (nI_eq (by omega) (by omega)).mp (c.trans nI_0.symm)
    have hla3 : RLandOk I' A3 n m C N := hla.mv (i3 19 (by decide) (by decide) (by decide)) (i3 20 (by decide) (by decide) (by decide)) (m1 7 (by decide)) (m1 8 (by decide))
    refine sp_R_votes (d := d) (hL.mv (i3 27 (by decide) (by decide) (by decide)) (m1 11 (by decide)) (m1 12 (by decide))) hev hla3.1 hn8 hla3.2.2.1 hla3.2.2.2.1 hla3.2.2.2.2.1 hla3.2.2.2.2.2 m2 (fun A4 p1 p2 => wb_R_termGoes_135 hm ⟨vpd (by decide), ?_⟩)
    rw [m3] at p2
    have e25 : (25 : Int32).toNatClampNeg = 25 := rfl
    have p4 : A4 18 25 = wParty (wvote ev C N n (wlive n qq w0 s0)) := by rw [← p2]; rfl
    have p3 : A3 18 25 = wParty (wlive n qq w0 s0) := by rw [← m3]; rfl
    rw [e25, p4, p3, e51, e50]
    have v4 : ∀ u, u < n → 0 ≤ A4 18 u := fun u hu => by rw [tv_keep hu p2 m3]; exact m2 u hu
    have fin : ∀ v : Int32, v = (if wParty (wvote ev C N n (wlive n qq w0 s0)) = wParty (wlive n qq w0 s0) then 0 else 1) → gWp (gTab (tb_R_termGoes (meth (d + 6)))) Q X 171 [some (.ref (x + 0)), some (.int sd), some (.int qq), some (.int (nI k)), some (.int (nI (j + 1))), some (.int (nI t)), none] [] (gset H x mck P (upI (upI I' 0 51 (vt + 1)) 0 50 (ch + v)) A4) := by
      intro v hv
      refine wb_R_termGoes_171 hm ?_
      rw [← nI_succ]
      refine ih _ A4 (fun j h1 h2 h3 => by rw [upI_f h2, upI_f h3]; exact i3 j h1 h2 h3) (fr_t m1 p1) v4 ?_
      have hst2 : wday ev C N n qq (j + 1) (w0, s0, vt, ch) = (wvote ev C N n (wlive n qq w0 s0), nxt3 s0, vt + 1, ch + v) := by rw [hv]; exact if_pos hc
      rw [hst2, p2, upI_s, upI_f (by decide), upI_f (by decide), e49, upI_f (by decide), upI_s]
    exact ⟨fun c2 => wb_R_termGoes_167 hm (fin 1 (by rw [if_neg c2])), fun c2 => wb_R_termGoes_167 hm (fin 0 (by rw [if_pos (Classical.not_not.mp c2)]))⟩
  · have hc : ¬ (j + 1) % 4 = 0 := fun e => c (by rw [e]; rfl)
    rw [← nI_succ]
    refine ih _ A3 i3 m1 m2 ?_
    have hst2 : wday ev C N n qq (j + 1) (w0, s0, vt, ch) = (wlive n qq w0 s0, nxt3 s0, vt, ch) := if_neg hc
    rw [hst2, m3, e49, e51, e50]
set_option maxHeartbeats 1000000 in
/-- one day -/
theorem term_day {n m k j : Nat} {sd qq : Int32} {C N : Nat → Int32} {ev : (Nat → Int32) → Int32} {I' A' : Nat → Nat → Int32} (hla : RLandOk I A n m C N) (hL : RLawAt I A ev) (hev : evOk ev) (hn0 : 0 < n) (hjk : j < k) (hk : k ≤ 96) (g1 : tI I I') (g2 : Fr [13, 14, 18, 20] A A') (gv : ∀ t, t < n → 0 ≤ A' 18 t)
    (ih : ∀ I'' A'', tI I I'' → Fr [13, 14, 18, 20] A A'' → (∀ t, t < n → 0 ≤ A'' 18 t) → (rW n (A'' 18), I'' 0 49, I'' 0 51, I'' 0 50) = wday ev C N n qq (j + 1) (rW n (A' 18), I' 0 49, I' 0 51, I' 0 50) → gWp (gTab (tb_R_termGoes (meth (d + 6)))) Q X 22 [some (.ref (x + 0)), some (.int sd), some (.int qq), some (.int (nI k)), some (.int (nI (j + 2))), none, none] [] (gset H x mck P I'' A'')) :
    gWp (gTab (tb_R_termGoes (meth (d + 6)))) Q X 22 [some (.ref (x + 0)), some (.int sd), some (.int qq), some (.int (nI k)), some (.int (nI (j + 1))), none, none] [] (gset H x mck P I' A') := by
  have hm := @mo_R_termGoes (meth (d + 6)) (meth_smono (d + 6))
  have hn8 := hla.2.1
  have hn' : I' 0 19 = nI n := by rw [g1 19 (by decide) (by decide) (by decide)]; exact hla.1
  obtain ⟨t, ht, et⟩ := drw_n (I' 0 49) (b := n) (by omega) (by omega)
  refine wb_R_termGoes_22 hm ⟨fun c => absurd c (nI_nlt (by omega) (by omega)), fun _ => ⟨fun c => absurd c (by rw [hn']; exact nI_nle (by omega) (by omega)), fun _ => ?_⟩⟩
  rw [hn']
  refine sp_R_draws (d := d + 5) (by omega) (by omega) ?_
  rw [et]
  refine wb_R_termGoes_43 hm ⟨by rw [n_8]; exact vp_in_nI (by omega) (by omega), sp_R_draws (d := d + 5) (b := 7) (by decide) (by decide) (wb_R_termGoes_70 hm ⟨by rw [n_z]; exact vp_in_nI (by omega) (by omega), ?_⟩)⟩
  rw [upI_s, upI_I, n_8, n_z, nI_clamp (by omega), nI_clamp (by omega)]
  refine sp_R_held (d := d + 5) (wb_R_termGoes_85 hm ⟨vp_in_nI (by omega) (by omega), sp_R_draws (d := d + 5) (b := 16) (by decide) (by decide) (wb_R_termGoes_92 hm ?_)⟩)
  rw [upI_s, upI_I, nI_clamp (by omega), held_eq (gv t ht), add_sub_a]
  have e1 := rlive_B (A' := A') (s := I' 0 49) ht hn8
  generalize hA2 : upA A' 18 (8 + t) (gmax 0 (gmin (A' 18 t) (A' 18 (8 + t) + (drw (nxt (I' 0 49)) (nI 7) - 3)))) = A2 at e1 ⊢
  have v2 : ∀ u, u < n → 0 ≤ A2 18 u := fun u hu => by rw [← hA2, upA_s, upd_ne (by omega)]; exact gv u hu
  have f4 : Fr [13, 14, 18, 20] A A2 := by rw [← hA2]; exact fr_A g2 (by decide)
  have i3 : tI I (upI I' 0 49 (nxt (nxt (nxt (I' 0 49))))) := fun j h1 h2 h3 => by rw [upI_f h1]; exact g1 j h1 h2 h3
  have ew : ∀ (c : Bool), (qq ≤ drw (nxt (nxt (I' 0 49))) (nI 16) ↔ c = true) → wlive n qq (rW n (A' 18)) (I' 0 49) = if c then rW n (A2 18) else wFlip (rW n (A2 18)) := by
    intro c hc
    unfold wlive
    rw [et, nI_clamp (by omega), ← e1, show (16 : Int32) = nI 16 from rfl]
    cases c
    · rw [if_neg (fun q => by have := hc.mp q; cases this)]; rfl
    · rw [if_pos (hc.mpr rfl)]; rfl
  refine ⟨fun c => term_tail hla hL hev (by omega) i3 upI_s (upI_f (by decide)) (upI_f (by decide)) f4 v2 (ew true ⟨fun _ => rfl, fun _ => c⟩).symm ih, fun c => ⟨vpd (by decide), vpd (by decide), ?_⟩⟩
  have e24 : (24 : Int32).toNatClampNeg = 24 := rfl
  rw [e24]
  refine term_tail hla hL hev (by omega) i3 upI_s (upI_f (by decide)) (upI_f (by decide)) (fr_A f4 (by decide)) (fun u hu => by rw [upA_s, upd_ne (by omega)]; exact v2 u hu) ?_ ih
  rw [upA_s, rW_F hn8]
  exact (ew false ⟨fun q => absurd q c, fun q => by cases q⟩).symm
theorem sp_R_termGoes {n m k : Nat} {sd qq : Int32} {C N : Nat → Int32} {ev : (Nat → Int32) → Int32} (hla : RLandOk I A n m C N) (hL : RLawAt I A ev) (hev : evOk ev) (hV : ∀ t, t < n → 0 ≤ A 17 t) (hk : k ≤ 96)
    (h : ∀ I' A' z, tI I I' → Fr [13, 14, 18, 20] A A' → z = (if n = 0 then (rW n (A 17), sd, 0, 0) else wterm ev C N n qq (rW n (A 17), sd, 0, 0) k) → rW n (A' 18) = z.1 → I' 0 51 = z.2.2.1 → I' 0 50 = z.2.2.2 → Q none (gset H x mck P I' A')) : meth (d + 7) m_R_termGoes [.ref (x + 0), .int sd, .int qq, .int (nI k)] (gset H x mck P I A) Q X := by
  have hm := @mo_R_termGoes (meth (d + 6)) (meth_smono (d + 6))
  have hn8 := hla.2.1
  refine me_R_termGoes (wb_R_termGoes_0 hm (sp_R_take (fun A1 f2 e1 => wb_R_termGoes_4 hm ?_)))
  generalize hI2 : upI (upI (upI I 0 49 sd) 0 50 0) 0 51 0 = I2
  have a1 : tI I I2 := fun j h1 h2 h3 => by rw [← hI2, upI_f h3, upI_f h2, upI_f h1]
  have a2 : rW n (A1 18) = rW n (A 17) := rW_c hn8 e1
  have a3 : I2 0 49 = sd ∧ I2 0 50 = 0 ∧ I2 0 51 = 0 := by rw [← hI2]; exact ⟨by simp [upI, upd], by simp [upI, upd], by simp [upI, upd]⟩
  have hn2 : I2 0 19 = nI n := by rw [a1 19 (by decide) (by decide) (by decide)]; exact hla.1
  have f3 : Fr [13, 14, 18, 20] A A1 := fr_m f2 (by simp)
  by_cases hn0 : n = 0
  · refine wb_R_termGoes_22 hm ⟨fun _ => wb_R_termGoes_177 hm ?_, fun _ => ⟨fun _ => wb_R_termGoes_177 hm ?_, fun c => absurd (by rw [hn2, hn0]; decide) c⟩⟩
    · exact h I2 A1 (rW n (A 17), sd, 0, 0) a1 f3 (by rw [if_pos hn0]) a2 a3.2.2 a3.2.1
    · exact h I2 A1 (rW n (A 17), sd, 0, 0) a1 f3 (by rw [if_pos hn0]) a2 a3.2.2 a3.2.1
  · have key : ∀ j, j ≤ k → ∀ I' A', tI I I' → Fr [13, 14, 18, 20] A A' → (∀ t, t < n → 0 ≤ A' 18 t) → (rW n (A' 18), I' 0 49, I' 0 51, I' 0 50) = wterm ev C N n qq (rW n (A 17), sd, 0, 0) j → gWp (gTab (tb_R_termGoes (meth (d + 6)))) Q X 22 [some (.ref (x + 0)), some (.int sd), some (.int qq), some (.int (nI k)), some (.int (nI (j + 1))), none, none] [] (gset H x mck P I' A') := by
      refine gdown ?_ ?_
      · intro I' A' g1 g2 gv ge
        exact wb_R_termGoes_22 hm ⟨fun _ => wb_R_termGoes_177 hm (h I' A' _ g1 g2 (by rw [if_neg hn0, ← ge]) rfl rfl rfl), fun c => absurd (nI_lt (by omega) (by omega)) c⟩
      · intro j hj ih I' A' g1 g2 gv ge
        refine term_day hla hL hev (by omega) hj hk g1 g2 gv (fun I'' A'' b1 b2 b3 b4 => ih I'' A'' b1 b2 b3 ?_)
        rw [b4, ge]
        rfl
    exact key 0 (Nat.zero_le k) I2 A1 a1 f3 (fun t ht => by rw [e1 t (by omega)]; exact hV t ht) (by rw [a2, a3.1, a3.2.1, a3.2.2]; rfl)
end L2T
