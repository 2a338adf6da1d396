/-! ===== calls: told, town, would, can, most ===== -/
section WC
variable {ev : (Nat → Int32) → Int32} {C C' N N' : Nat → Int32} {n : Nat}
theorem wsway_c {w : WS} {t : Nat} (hC : C t = C' t) (hN : N t = N' t) : wsway ev C N n w t = wsway ev C' N' n w t := by
  unfold wsway wnear
  rw [hC, hN]
theorem wvote_c (hC : ∀ t, t < n → C t = C' t) (hN : ∀ t, t < n → N t = N' t) (w : WS) : wvote ev C N n w = wvote ev C' N' n w := by
  have hB : wB1 ev C N n w = wB1 ev C' N' n w := by
    unfold wB1
    exact rs_c (fun t ht => by rw [wsway_c (hC t ht) (hN t ht)])
  unfold wvote
  rw [hB, wseat1_c (C := C) (C' := C') hC (fun _ _ => rfl) (fun _ _ => rfl), wseat1_c (C := C) (C' := C') (p := 1) hC (fun _ _ => rfl) (fun _ _ => rfl)]
theorem wvotes_c (hC : ∀ t, t < n → C t = C' t) (hN : ∀ t, t < n → N t = N' t) (w : WS) : ∀ k, wvotes ev C N n w k = wvotes ev C' N' n w k
  | 0 => rfl
  | k + 1 => by unfold wvotes; rw [wvotes_c hC hN w k, wvote_c hC hN]
theorem wday_c (hC : ∀ t, t < n → C t = C' t) (hN : ∀ t, t < n → N t = N' t) (q : Int32) (k : Nat) (z : TS) : wday ev C N n q k z = wday ev C' N' n q k z := by
  unfold wday
  rw [wvote_c hC hN]
theorem wterm_c (hC : ∀ t, t < n → C t = C' t) (hN : ∀ t, t < n → N t = N' t) (q : Int32) (z : TS) : ∀ k, wterm ev C N n q z k = wterm ev C' N' n q z k
  | 0 => rfl
  | k + 1 => by unfold wterm; rw [wterm_c hC hN q z k, wday_c hC hN]
theorem wstep_c (hC : ∀ t, t < n → C t = C' t) (hN : ∀ t, t < n → N t = N' t) (w : WS) (s a c : Nat) (k : Int32) : wstep ev C N n w s a c k = wstep ev C' N' n w s a c k := by
  cases s with
  | zero => simp only [wstep]
  | succ s => cases s with
    | zero => simp only [wstep]
    | succ s => cases s with
      | zero => simp only [wstep]
      | succ s => cases s with
        | zero => simp only [wstep]; rw [wvote_c hC hN]
        | succ s => simp only [wstep]
theorem prun_c (hC : ∀ t, t < n → C t = C' t) (hN : ∀ t, t < n → N t = N' t) (g : PG) : ∀ (f i to : Nat) (z : PS), prun ev C N n g f i to z = prun ev C' N' n g f i to z
  | 0, _, _, _ => rfl
  | f + 1, i, to, z => by
    have e1 : ∀ i to, prun ev C N n g f i to = prun ev C' N' n g f i to := fun i to => funext (fun z => prun_c hC hN g f i to z)
    have e2 : ∀ z, pone ev C N n g i z = pone ev C' N' n g i z := fun z => by unfold pone; rw [wstep_c hC hN]
    unfold prun
    rw [e1, e1, e1, e2]
theorem wvotes_V {w : WS} : ∀ k, wV (wvotes ev C N n w k) = wV w
  | 0 => rfl
  | k + 1 => by unfold wvotes; rw [wvote_V, wvotes_V k]
theorem wvotes_ok {w : WS} (h : wOk n w) : ∀ k, wOk n (wvotes ev C N n w k)
  | 0 => h
  | k + 1 => wvote_ok (wvotes_ok h k)
theorem wlive_ok {q s : Int32} {w : WS} (hn0 : 0 < n) (hn8 : n ≤ 8) (h : wOk n w) : wOk n (wlive n q w s) := by
  obtain ⟨u, hu, eu⟩ := drw_n s (b := n) hn0 (by omega)
  have h1 : wOk n (wlive1 w s (drw s (nI n)).toNatClampNeg) := by
    rw [eu, nI_clamp (by omega)]
    intro t ht
    obtain ⟨v, b, v1, v9, bv, e1, e2⟩ := h t ht
    by_cases htu : t = u
    · subst htu
      obtain ⟨b', hb, e3⟩ := fhold_ok (b := b) (v := v) (m := drw (nxt s) 7 - 3) (by omega)
      refine ⟨v, b', v1, v9, hb, e1, ?_⟩
      show upd (wB w) t _ t = _
      rw [upd_at, e1, e2, e3]
    · refine ⟨v, b, v1, v9, bv, e1, ?_⟩
      show upd (wB w) u _ t = _
      rw [upd_ne htu, e2]
  unfold wlive
  by_cases hq : q ≤ drw (nxt (nxt s)) 16
  · rw [if_pos hq]; exact h1
  · rw [if_neg hq]; exact h1
theorem wterm_ok {q : Int32} {z : TS} (hn0 : 0 < n) (hn8 : n ≤ 8) (h : wOk n z.1) : ∀ k, wOk n (wterm ev C N n q z k).1
  | 0 => h
  | k + 1 => by
    have ih := wterm_ok (q := q) hn0 hn8 h k
    unfold wterm wday
    by_cases h4 : (k + 1) % 4 = 0
    · rw [if_pos h4]; exact wvote_ok (wlive_ok hn0 hn8 ih)
    · rw [if_neg h4]; exact wlive_ok hn0 hn8 ih
theorem fsum_wB {w : WS} (hn8 : n ≤ 8) (h : wOk n w) : ∃ k, k ≤ 7992 ∧ fsum (wB w) n = nI k := by
  obtain ⟨k, hk, e⟩ := fsum_small (f := wB w) (m := 999) (n := n) (fun t ht => by
    obtain ⟨v, b, v1, v9, bv, e1, e2⟩ := h t ht
    exact ⟨b, by omega, e2⟩)
  exact ⟨k, by omega, e⟩
end WC
section PF
variable {P : Nat → Nat}
theorem spI_48 (hp : pOkP P) : cSp P [48] := by
  obtain ⟨h1, h5, h7⟩ := hp
  rcases h1 with ⟨e1, _⟩ | ⟨e1, _⟩ <;> rcases h5 with ⟨e5, _⟩ | ⟨e5, _⟩ <;> rcases h7 with ⟨e7, _⟩ | ⟨e7, _⟩ <;> simp [cSp, e1, e5, e7]
theorem spI_47 (hp : pOkP P) : cSp P [47, 48] := by
  obtain ⟨h1, h5, h7⟩ := hp
  rcases h1 with ⟨e1, _⟩ | ⟨e1, _⟩ <;> rcases h5 with ⟨e5, _⟩ | ⟨e5, _⟩ <;> rcases h7 with ⟨e7, _⟩ | ⟨e7, _⟩ <;> simp [cSp, e1, e5, e7]
theorem spI_43 (hp : pOkP P) : cSp P [43] := by
  obtain ⟨h1, h5, h7⟩ := hp
  rcases h1 with ⟨e1, _⟩ | ⟨e1, _⟩ <;> rcases h5 with ⟨e5, _⟩ | ⟨e5, _⟩ <;> rcases h7 with ⟨e7, _⟩ | ⟨e7, _⟩ <;> simp [cSp, e1, e5, e7]
theorem spI_n : cSp P [] := by simp [cSp]
theorem spA_n : cSpA P [] := by simp [cSpA]
theorem spA_f (hp : pOkP P) : cSpA P [49, 50, 51, P 5 + 2, P 5 + 3] := by
  obtain ⟨h1, h5, h7⟩ := hp
  rcases h1 with ⟨e1, _⟩ | ⟨e1, _⟩ <;> rcases h5 with ⟨e5, _⟩ | ⟨e5, _⟩ <;> rcases h7 with ⟨e7, _⟩ | ⟨e7, _⟩ <;> simp [cSpA, e1, e5, e7]
theorem spA_q (hp : pOkP P) : cSpA P [P 5 + 2, P 5 + 3] := by
  obtain ⟨h1, h5, h7⟩ := hp
  rcases h1 with ⟨e1, _⟩ | ⟨e1, _⟩ <;> rcases h5 with ⟨e5, _⟩ | ⟨e5, _⟩ <;> rcases h7 with ⟨e7, _⟩ | ⟨e7, _⟩ <;> simp [cSpA, e1, e5, e7]
theorem spA_44 (hp : pOkP P) : cSpA P [44, 45, 46] := by
  obtain ⟨h1, h5, h7⟩ := hp
  rcases h1 with ⟨e1, _⟩ | ⟨e1, _⟩ <;> rcases h5 with ⟨e5, _⟩ | ⟨e5, _⟩ <;> rcases h7 with ⟨e7, _⟩ | ⟨e7, _⟩ <;> simp [cSpA, e1, e5, e7]
end PF
theorem rSp_v : rSpA [13, 14, 18, 20] := fun j hj q => by simp at q; omega
theorem rSp_u : rSpA [14, 13] := fun j hj q => by simp at q; omega
theorem in_2 {a lo : Int32} {hi m : Nat} (hm : m < 2 ^ 31) (e : nI hi = nI m) (h : inR a 0 (nI m) = true) : ∃ k, k ≤ m ∧ a = nI k := by
  unfold inR at h
  rw [decide_eq_true_eq] at h
  exact nI_of2 (M := nI m) (n := m) (nI_toInt hm) h.1 (Int32.not_lt.mp h.2)
theorem inR_n {a : Int32} {m : Nat} (hm : m < 2 ^ 31) (h : inR a 0 (nI m) = true) : ∃ k, k ≤ m ∧ a = nI k := by
  unfold inR at h
  rw [decide_eq_true_eq] at h
  exact nI_of2 (M := nI m) (n := m) (nI_toInt hm) h.1 (Int32.not_lt.mp h.2)
theorem inR_1 {a : Int32} {m : Nat} (hm : m < 2 ^ 31) (h : inR a 1 (nI m) = true) : ∃ k, 1 ≤ k ∧ k ≤ m ∧ a = nI k := by
  unfold inR at h
  rw [decide_eq_true_eq] at h
  obtain ⟨k, hk, rfl⟩ := nI_of2 (M := nI m) (n := m) (nI_toInt hm) (x := a) (fun q => h.1 (Int32.lt_trans q (by decide))) (Int32.not_lt.mp h.2)
  refine ⟨k, ?_, hk, rfl⟩
  have := h.1
  rw [show (1 : Int32) = nI 1 from rfl, nI_ltI (by omega) (by omega)] at this
  omega
theorem every_bt : ∀ n, n < 9 → ∀ t, t < n → bt (((1 : Int32) <<< (nI n &&& 31)) - 1) t = true := by decide +kernel
theorem every_n : ∀ n, n < 9 → ((1 : Int32) <<< (nI n &&& 31)) - 1 = nI (2 ^ n - 1) := by decide +kernel
section CA2
variable {s : ST}
section IN
variable {d : Nat} {Q : gQ} {X : gX} {H : gH} {x : Nat} {P : Nat → Nat} {I A : Nat → Nat → Int32}
theorem cs_everyTown (hs : sOk s) (hr : cRep s P I A) (h : Q (some (.int (nI (2 ^ sN s - 1)))) (gset H x cck P I A)) : meth (d + 1) m_Land_everyTown [.ref (x + P 1)] (gset H x cck P I A) Q X := by
  have hm := @mo_Land_everyTown (meth d) (meth_smono d)
  refine me_Land_everyTown (wb_Land_everyTown_0 hm (pOk_1 hr.1) ?_)
  have h8 : sN s ≤ 8 := hs.2.1.1
  rw [hr.2.2.1.1, show zN (sZ s) = sN s from rfl, every_n (sN s) (by omega)]
  exact h
theorem cs_seatsIn (hs : sOk s) (hr : cRep s P I A) {k : Int32} (h : Q (some (.int (fsum (fun t => if bt k t = true then sC s t else 0) (sN s)))) (gset H x cck P I A)) : meth (d + 1) m_Land_seatsIn [.ref (x + P 1), .int k] (gset H x cck P I A) Q X := by
  have hl := cRep_land hs hr
  refine sp_Land_seatsIn hl.1 hl.2.1 hl.2.2.1 ?_
  have h8 := hl.2.2.1
  have e : fsum (fun t => if bt k t = true then sC s t else 0) (sN s) = fsum (fun t => if (k >>> (nI t &&& 31)) &&& 1 = 1 then A (P 1 + 1) t else 0) (sN s) := fsum_c (fun t ht => by
    rw [cl_C hr ht]
    by_cases hb : bt k t = true
    · rw [if_pos hb, if_pos ((b_at1 (by omega)).mpr hb)]
    · rw [if_neg hb, if_neg (fun q => hb ((b_at1 (by omega)).mp q))])
  rw [e] at h
  exact h
theorem cs_allSeats (hs : sOk s) (hr : cRep s P I A) (h : Q (some (.int (fsum (sC s) (sN s)))) (gset H x cck P I A)) : meth (d + 2) m_Land_allSeats [.ref (x + P 1)] (gset H x cck P I A) Q X := by
  have hm := @mo_Land_allSeats (meth (d + 1)) (meth_smono (d + 1))
  have h8 : sN s ≤ 8 := hs.2.1.1
  refine me_Land_allSeats (wb_Land_allSeats_0 hm (pOk_1 hr.1) (cs_everyTown hs hr (wb_Land_allSeats_5 hm (pOk_1 hr.1) (cs_seatsIn hs hr (wb_Land_allSeats_8 hm ?_)))))
  rw [fsum_c (f := fun t => if bt (nI (2 ^ sN s - 1)) t = true then sC s t else 0) (g := sC s) (fun t ht => by rw [← every_n (sN s) (by omega), if_pos (every_bt (sN s) (by omega) t ht)])]
  exact h
end IN
def f_told (k : Nat) (s : ST) : Int32 := match k with
  | 0 => nI (sN s)
  | 1 => nI (zM (sZ s))
  | 2 => wYear (sW s)
  | 3 => (sW s).2.2.2.2.1
  | 4 => wParty (sW s)
  | 5 => (sW s).2.2.2.1
  | 6 => fsum (wV (sW s)) (sN s)
  | 7 => fsum (wB (sW s)) (sN s)
  | 8 => nI (sK s).1
  | 9 => sR s
  | _ => fsum (sC s) (sN s)
theorem C_told (hs : sOk s) {a : Int32} : cCall m_S_told [.int a] (q1 (inR a 0 10) s (f_told a.toNatClampNeg s)) s := by
  intro d Q X H x P I A hr h
  have hm := @mo_S_told (meth (d + 59)) (meth_smono (d + 59))
  have hl := cRep_land hs hr
  refine me_S_told (wb_S_told_0 hm (sp_S_within (wb_S_told_8 hm (sp_S_need hr (fun c => wb_S_told_11 hm ?_) (fun c I' r' => ?_)))))
  · rw [q1_t c] at h
    have h := h P I A hr
    obtain ⟨k, hk, rfl⟩ := inR_n (m := 10) (by omega) c
    rw [nI_clamp (by omega)] at h
    rw [tsw_at (by omega)]
    have hw := hr.2.2.2.1
    have ew : ∀ (f : WS → Int32), f (sW s) = f (cW (sN s) I A 13) := fun f => by rw [hw]
    rcases (show k = 0 ∨ k = 1 ∨ k = 2 ∨ k = 3 ∨ k = 4 ∨ k = 5 ∨ k = 6 ∨ k = 7 ∨ k = 8 ∨ k = 9 ∨ k = 10 by omega) with rfl | rfl | rfl | rfl | rfl | rfl | rfl | rfl | rfl | rfl | rfl
    · rw [show f_told 0 s = I (P 1) 0 from hr.2.2.1.1.symm] at h; exact wb_S_told_68 hm (pOk_1 hr.1) h
    · rw [show f_told 1 s = I (P 1) 1 from hr.2.2.1.2.1.symm] at h; exact wb_S_told_76 hm (pOk_1 hr.1) h
    · rw [show f_told 2 s = I 13 7 from ew (fun w => wYear w)] at h; exact wb_S_told_84 hm h
    · rw [show f_told 3 s = I 13 5 from ew (fun w => w.2.2.2.2.1)] at h; exact wb_S_told_92 hm h
    · rw [show f_told 4 s = I 13 6 from ew (fun w => wParty w)] at h; exact wb_S_told_100 hm h
    · rw [show f_told 5 s = I 13 4 from ew (fun w => w.2.2.2.1)] at h; exact wb_S_told_108 hm h
    · rw [show f_told 6 s = fsum (A (13 + 1)) (sN s) from fsum_c (fun t ht => cw_V hr ht)] at h
      exact wb_S_told_116 hm (sp_World_allVoters (o := 13) rfl hl.1 hl.2.1 hl.2.2.1 (wb_S_told_127 hm h))
    · rw [show f_told 7 s = fsum (A (13 + 2)) (sN s) from fsum_c (fun t ht => cw_B hr ht)] at h
      exact wb_S_told_128 hm (sp_World_allBreathe (o := 13) rfl hl.1 hl.2.1 hl.2.2.1 (wb_S_told_139 hm h))
    · rw [show f_told 8 s = I (P 7) 2 from hr.2.2.2.2.2.1.1.symm] at h; exact wb_S_told_140 hm (pOk_7 hr.1) h
    · rw [show f_told 9 s = I 0 13 from hr.2.2.2.2.2.2.2.2.1.symm] at h; exact wb_S_told_148 hm h
    · exact wb_S_told_153 hm (pOk_1 hr.1) (cs_allSeats hs hr (wb_S_told_160 hm h))
  · rw [q1_f c] at h; exact h P I' A r'
theorem R_told (hs : sOk s) {a : Int32} : rCall m_R_told [.int a] kA (.int 0) (q1 (inR a 0 10) s (f_told a.toNatClampNeg s)) s := by
  intro d Q X H x P I A hr h
  have hm := @mo_R_told (meth (d + 59)) (meth_smono (d + 59))
  have hn8 : sN s ≤ 8 := hs.2.1.1
  refine me_R_told (wb_R_told_0 hm (sp_R_within (wb_R_told_13 hm (sp_R_may (kind := 1) (code := 1) upI_s (by omega) (by omega) (rRep_0 hr) (fun c => wb_R_told_18 hm ⟨fun _ => rs_take (rRep_0 hr) hn8 (fun A' f r' e => wb_R_told_27 hm ?_), fun q => absurd (by decide) q⟩) (fun c I' A' r' e => wb_R_told_18 hm ⟨fun q => absurd rfl q, fun _ => ?_⟩)))))
  · rw [q1_t c] at h
    have h := fun v hv => h _ A' (.int v) r' ⟨upI_s, congrArg Value.int hv⟩
    obtain ⟨k, hk, rfl⟩ := inR_n (m := 10) (by omega) c
    rw [nI_clamp (by omega)] at h
    have ew : ∀ (f : WS → Int32), f (rW (sN s) (A' 18)) = f (sW s) := fun f => by rw [e]
    rcases (show k = 0 ∨ k = 1 ∨ k = 2 ∨ k = 3 ∨ k = 4 ∨ k = 5 ∨ k = 6 ∨ k = 7 ∨ k = 8 ∨ k = 9 ∨ k = 10 by omega) with rfl | rfl | rfl | rfl | rfl | rfl | rfl | rfl | rfl | rfl | rfl
    · exact ⟨fun q => absurd q (by decide), fun _ => ⟨fun q => absurd rfl q, fun _ => wb_R_told_77 hm (h _ r'.2.1.1)⟩⟩
    · exact ⟨fun q => absurd q (by decide), fun _ => ⟨fun _ => ⟨fun q => absurd rfl q, fun _ => wb_R_told_77 hm (h _ r'.2.1.2.1)⟩, fun q => absurd (by decide) q⟩⟩
    · exact ⟨fun q => absurd q (by decide), fun _ => ⟨fun _ => ⟨fun _ => ⟨fun q => absurd rfl q, fun _ => ⟨vpd (by decide), wb_R_told_77 hm (h _ (ew (fun w => wYear w)))⟩⟩, fun q => absurd (by decide) q⟩, fun q => absurd (by decide) q⟩⟩
    · exact ⟨fun q => absurd q (by decide), fun _ => ⟨fun _ => ⟨fun _ => ⟨fun _ => ⟨vpd (by decide), wb_R_told_77 hm (h _ (ew (fun w => w.2.2.2.2.1)))⟩, fun q => absurd (by decide) q⟩, fun q => absurd (by decide) q⟩, fun q => absurd (by decide) q⟩⟩
    · exact ⟨fun _ => ⟨fun q => absurd q (by decide), fun _ => ⟨fun q => absurd rfl q, fun _ => ⟨vpd (by decide), wb_R_told_130 hm (h _ (ew (fun w => wParty w)))⟩⟩⟩, fun q => absurd (by decide) q⟩
    · exact ⟨fun _ => ⟨fun q => absurd q (by decide), fun _ => ⟨fun _ => ⟨fun q => absurd rfl q, fun _ => ⟨vpd (by decide), wb_R_told_130 hm (h _ (ew (fun w => w.2.2.2.1)))⟩⟩, fun q => absurd (by decide) q⟩⟩, fun q => absurd (by decide) q⟩
    · refine ⟨fun _ => ⟨fun q => absurd q (by decide), fun _ => ⟨fun _ => ⟨fun _ => ⟨fun q => absurd rfl q, fun _ => wb_R_told_127 hm (sp_R_sumOf (n := sN s) (f := 0) r'.2.1.1 hn8 (by omega) (wb_R_told_130 hm (h _ ?_)))⟩, fun q => absurd (by decide) q⟩, fun q => absurd (by decide) q⟩⟩, fun q => absurd (by decide) q⟩
      exact fsum_c (fun t ht => by rw [Nat.zero_add]; exact (rw_V e ht).symm)
    · refine ⟨fun _ => ⟨fun q => absurd q (by decide), fun _ => ⟨fun _ => ⟨fun _ => ⟨fun _ => wb_R_told_127 hm (sp_R_sumOf (n := sN s) (f := 8) r'.2.1.1 hn8 (by omega) (wb_R_told_130 hm (h _ ?_))), fun q => absurd (by decide) q⟩, fun q => absurd (by decide) q⟩, fun q => absurd (by decide) q⟩⟩, fun q => absurd (by decide) q⟩
      exact fsum_c (fun t ht => (rw_B e ht).symm)
    · exact ⟨fun _ => ⟨fun _ => ⟨fun q => absurd rfl q, fun _ => wb_R_told_161 hm (h _ r'.2.2.2.2.1.1)⟩, fun q => absurd (by decide) q⟩, fun q => absurd (by decide) q⟩
    · exact ⟨fun _ => ⟨fun _ => ⟨fun _ => ⟨fun q => absurd rfl q, fun _ => wb_R_told_161 hm (h _ r'.2.2.2.2.2.2.2.1)⟩, fun q => absurd (by decide) q⟩, fun q => absurd (by decide) q⟩, fun q => absurd (by decide) q⟩
    · refine ⟨fun _ => ⟨fun _ => ⟨fun _ => ⟨fun _ => sp_R_seatsAll (n := sN s) r'.2.1.1 hn8 (wb_R_told_161 hm (h _ ?_)), fun q => absurd (by decide) q⟩, fun q => absurd (by decide) q⟩, fun q => absurd (by decide) q⟩, fun q => absurd (by decide) q⟩
      exact fsum_c (fun t ht => r'.2.1.2.2.1 t ht)
  · rw [q1_f c] at h; exact h I' A' _ r' ⟨e, rfl⟩
end CA2
