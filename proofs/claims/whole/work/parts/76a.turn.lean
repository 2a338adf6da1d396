/-! ===== calls: turn ===== -/
def tS (s : ST) (t : Nat) : Int32 := fside (wB (sW s) t) (wV (sW s) t)
def bN (s : ST) (t : Nat) : Nat := (wB (sW s) t).toNatClampNeg
theorem bN_ok {s : ST} (hs : sOk s) {t : Nat} (ht : t < sN s) : wB (sW s) t = nI (bN s t) ∧ bN s t ≤ vN s t := by
  obtain ⟨v, b, v1, v9, hb, ev, eb⟩ := hs.2.2.1.1 t ht
  unfold bN vN
  rw [ev, eb, nI_clamp (by omega), nI_clamp (by omega)]
  exact ⟨rfl, hb⟩
theorem fside_n {b v : Nat} (hb : b < 2 ^ 29) (hv : v < 2 ^ 30) : fside (nI b) (nI v) = if 2 * b ≤ v then (if v ≤ 2 * b then 2 else 1) else 0 := by
  unfold fside
  rw [show (2 : Int32) * nI b = nI (2 * b) from (Int32.ofNat_mul 2 b).symm]
  by_cases h1 : 2 * b ≤ v
  · rw [if_pos h1, if_pos ((nI_leI (by omega) (by omega)).mpr h1)]
    by_cases h2 : v ≤ 2 * b
    · rw [if_pos h2, if_pos ((nI_leI (by omega) (by omega)).mpr h2)]
    · rw [if_neg h2, if_neg (fun q => h2 ((nI_leI (by omega) (by omega)).mp q))]
  · rw [if_neg h1, if_neg (fun q => h1 ((nI_leI (by omega) (by omega)).mp q))]
theorem fside_p {b v p : Nat} (hb : b < 2 ^ 29) (hv : v < 2 ^ 30) (hp : p ≤ 1) : fside (nI b) (nI v) = nI p ↔ if p = 0 then v < 2 * b else 2 * b < v := by
  rw [fside_n hb hv]
  rcases (show p = 0 ∨ p = 1 by omega) with rfl | rfl
  · rw [if_pos rfl]
    by_cases h1 : 2 * b ≤ v
    · rw [if_pos h1]
      refine ⟨fun q => ?_, fun q => by omega⟩
      by_cases h2 : v ≤ 2 * b
      · rw [if_pos h2] at q; exact absurd q (by decide)
      · rw [if_neg h2] at q; exact absurd q (by decide)
    · rw [if_neg h1]; exact ⟨fun _ => by omega, fun _ => rfl⟩
  · rw [if_neg (show ¬ (1 : Nat) = 0 by decide)]
    by_cases h1 : 2 * b ≤ v
    · rw [if_pos h1]
      by_cases h2 : v ≤ 2 * b
      · rw [if_pos h2]; exact ⟨fun q => absurd q (by decide), fun q => by omega⟩
      · rw [if_neg h2]; exact ⟨fun _ => by omega, fun _ => rfl⟩
    · rw [if_neg h1]; exact ⟨fun q => absurd q (by decide), fun q => by omega⟩
theorem tS_p {s : ST} (hs : sOk s) {t p : Nat} (ht : t < sN s) (hp : p ≤ 1) : tS s t = nI p ↔ if p = 0 then vN s t < 2 * bN s t else 2 * bN s t < vN s t := by
  have h1 := vN_ok hs ht
  have h2 := bN_ok hs ht
  unfold tS
  rw [h1.1, h2.1]
  exact fside_p (by omega) (by omega) hp
def tc (s : ST) (p t : Nat) : Nat := if p = 0 then vN s t / 2 + 1 - bN s t else bN s t - (vN s t - 1) / 2
theorem tc_le {s : ST} (hs : sOk s) {p t : Nat} (ht : t < sN s) : tc s p t ≤ 999 := by
  have h1 := vN_ok hs ht
  have h2 := bN_ok hs ht
  unfold tc
  by_cases h : p = 0
  · rw [if_pos h]; omega
  · rw [if_neg h]; omega
def mc (s : ST) (p : Nat) (m : Int32) : Nat → Nat
  | 0 => 0
  | t + 1 => mc s p m t + (if bt m t = true then tc s p t else 0)
theorem mc_le {s : ST} (hs : sOk s) {p : Nat} {m : Int32} : ∀ t, t ≤ sN s → mc s p m t ≤ 999 * t
  | 0, _ => Nat.zero_le _
  | t + 1, ht => by
    have := mc_le hs (p := p) (m := m) t (by omega)
    have := tc_le hs (p := p) (t := t) (by omega)
    unfold mc
    by_cases h : bt m t = true
    · rw [if_pos h]; omega
    · rw [if_neg h]; omega
def sp1 (s : ST) (p : Nat) (m : Int32) : Nat → Int32 := fsum (fun t => if bt m t = true ∨ tS s t = nI p then sC s t else 0)
def sp2 (s : ST) (p : Nat) (m : Int32) : Nat → Int32 := fsum (fun t => if bt m t = false ∧ tS s t = nI (1 - p) then sC s t else 0)
def tOk (s : ST) (p : Nat) (m : Int32) : Bool := decide ((∀ t, t < sN s → bt m t = true → tS s t ≠ nI p) ∧ ¬ sp1 s p m (sN s) ≤ sp2 s p m (sN s))
def tAcc (s : ST) (p : Nat) : Nat → Int32 × Int32
  | 0 => (-1, -1)
  | i + 1 => if tOk s p (nI i) = true ∧ ((tAcc s p i).1 = -1 ∨ nI (mc s p (nI i) (sN s)) < (tAcc s p i).2) then (nI i, nI (mc s p (nI i) (sN s))) else tAcc s p i
theorem tAcc_ok {s : ST} {p : Nat} : ∀ i, (tAcc s p i = (-1, -1)) ∨ ∃ j, j < i ∧ tOk s p (nI j) = true ∧ tAcc s p i = (nI j, nI (mc s p (nI j) (sN s)))
  | 0 => Or.inl rfl
  | i + 1 => by
    rw [tAcc]
    by_cases h : tOk s p (nI i) = true ∧ ((tAcc s p i).1 = -1 ∨ nI (mc s p (nI i) (sN s)) < (tAcc s p i).2)
    · rw [if_pos h]; exact Or.inr ⟨i, by omega, h.1, rfl⟩
    · rw [if_neg h]
      rcases tAcc_ok (s := s) (p := p) i with e | ⟨j, hj, e⟩
      · exact Or.inl e
      · exact Or.inr ⟨j, by omega, e⟩
def f_turn (p : Nat) (a : Int32) (s : ST) : Int32 := if a = 0 then (tAcc s p (2 ^ sN s)).2 else (tAcc s p (2 ^ sN s)).1
section TUC
variable {s : ST} {d : Nat} {Q : gQ} {X : gX} {H : gH} {x : Nat} {P : Nat → Nat} {I A : Nat → Nat → Int32} {m : Int32}
theorem cs_sideBits (hs : sOk s) (hr : cRep s P I A) {p : Int32} (h : Q (some (.int (wbits (sN s) (sW s) p))) (gset H x cck P I A)) : meth (d + 3) m_World_sideBits [.ref (x + 13), .int p, .ref (x + P 1)] (gset H x cck P I A) Q X := by
  have hl := cRep_land hs hr
  refine sp_World_sideBits (o := 13) rfl hl.1 hl.2.1 hl.2.2.1 ?_
  unfold wbits at h
  rw [fbits_c (V' := A (13 + 1)) (B' := A (13 + 2)) (fun t ht => cw_V hr ht) (fun t ht => cw_B hr ht)] at h
  exact h
theorem wbits_bt {p : Int32} (h8 : sN s ≤ 8) {i : Nat} (hi : i < 32) : bt (wbits (sN s) (sW s) p) i = (decide (i < sN s) && decide (tS s i = p)) := bt_fbits hi (by omega)
theorem cs_turnCost (hs : sOk s) (hr : cRep s P I A) {p : Nat} (hp : p ≤ 1) (hok : ∀ t, t < sN s → bt m t = true → tS s t ≠ nI p) (h : Q (some (.int (nI (mc s p m (sN s))))) (gset H x cck P I A)) : meth (d + 1) m_Polls_turnCost [.ref (x + 43), .int m, .int (nI p), .ref (x + 13), .ref (x + P 1)] (gset H x cck P I A) Q X := by
  have hm := @mo_Polls_turnCost (meth d) (meth_smono d)
  have h8 : sN s ≤ 8 := hs.2.1.1
  have eN : I (P 1) 0 = nI (sN s) := hr.2.2.1.1
  have h1 := pOk_1 hr.1
  have p0 : nI p = 0 ↔ p = 0 := nI_eq (b := 0) (by omega) (by omega)
  have key : ∀ t, t ≤ sN s → gWp (gTab (tb_Polls_turnCost (meth d))) Q X 6 [some (.ref (x + 43)), some (.int m), some (.int (nI p)), some (.ref (x + 13)), some (.ref (x + P 1)), some (.int (nI (mc s p m t))), some (.int (nI t)), none, none] [] (gset H x cck P I A) := by
    refine gdown ?_ ?_
    · exact wb_Polls_turnCost_6 hm (o3 := 13) rfl h1 ⟨fun _ => h, fun c => absurd (by rw [eN]; exact nI_le (Nat.le_refl _) (by omega)) c⟩
    · intro t ht ih
      rw [← nI_1, mc] at ih
      have ev := vN_ok hs ht
      have eb := bN_ok hs ht
      have hs1 := tS_p hs ht hp
      rw [cw_V hr ht] at ev
      rw [cw_B hr ht] at eb
      have iv : vp_in (nI t) 8 := vp_in_nI (by omega) (by omega)
      refine wb_Polls_turnCost_6 hm (o3 := 13) rfl h1 ⟨fun c => absurd c (by rw [eN]; exact nI_ge ht (by omega)), fun _ => ?_⟩
      rw [b_at1 (by omega), nI_clamp (by omega), show A (13 + 1) t = nI (vN s t) from ev.1, show A (13 + 2) t = nI (bN s t) from eb.1, p0]
      refine ⟨fun q => wb_Polls_turnCost_74 hm ?_, fun q => ⟨iv, iv, fun q2 => ⟨by decide, wb_Polls_turnCost_71 hm (wb_Polls_turnCost_74 hm ?_)⟩, fun q2 => ⟨by decide, wb_Polls_turnCost_71 hm (wb_Polls_turnCost_74 hm ?_)⟩⟩⟩
      · rw [if_neg q] at ih; exact ih
      · have hb := Classical.not_not.mp q
        have hne := hok t ht hb
        rw [Ne, hs1, if_neg q2] at hne
        rw [if_pos hb] at ih
        unfold tc at ih
        rw [if_neg q2] at ih
        rw [show nI (vN s t) - 1 = nI (vN s t - 1) from nI_sub (b := 1) (by omega), show nI (vN s t - 1) / (2 : Int32) = nI ((vN s t - 1) / 2) from nI_div (b := 2) (by omega) (by omega), nI_sub (by omega), show nI (mc s p m t) + nI (bN s t - (vN s t - 1) / 2) = nI (mc s p m t + (bN s t - (vN s t - 1) / 2)) from nI_add _ _]
        exact ih
      · have hb := Classical.not_not.mp q
        have hp0 := Classical.not_not.mp q2
        have hne := hok t ht hb
        rw [Ne, hs1, if_pos hp0] at hne
        rw [if_pos hb] at ih
        unfold tc at ih
        rw [if_pos hp0] at ih
        rw [show nI (vN s t) / (2 : Int32) = nI (vN s t / 2) from nI_div (b := 2) (by omega) (by omega), show nI (vN s t / 2) + 1 = nI (vN s t / 2 + 1) from nI_add _ 1, nI_sub (by omega), show nI (mc s p m t) + nI (vN s t / 2 + 1 - bN s t) = nI (mc s p m t + (vN s t / 2 + 1 - bN s t)) from nI_add _ _]
        exact ih
  exact me_Polls_turnCost (wb_Polls_turnCost_0 hm (key 0 (Nat.zero_le _)))
theorem and_bits (h8 : sN s ≤ 8) {p : Nat} : m &&& wbits (sN s) (sW s) (nI p) = 0 ↔ ∀ t, t < sN s → bt m t = true → tS s t ≠ nI p := by
  constructor
  · intro h t ht hb hs
    have := congrArg (fun x => bt x t) h
    simp only [b_and, b_0, wbits_bt h8 (show t < 32 by omega)] at this
    rw [hb, hs, decide_eq_true ht, decide_eq_true rfl] at this
    cases this
  · intro h
    refine b_ext (fun i hi => ?_)
    rw [b_and, b_0, wbits_bt h8 hi]
    by_cases hN : i < sN s
    · cases hb : bt m i
      · rfl
      · rw [decide_eq_false (h i hN hb)]; simp
    · rw [decide_eq_false hN]; simp
theorem cs_cheapestTurn (hs : sOk s) (hr : cRep s P I A) {p : Nat} (hp : p ≤ 1) (h : Q (some (.int (tAcc s p (2 ^ sN s)).1)) (gset H x cck P I A)) : meth (d + 4) m_Polls_cheapestTurn [.ref (x + 43), .int (nI p), .ref (x + 13), .ref (x + P 1)] (gset H x cck P I A) Q X := by
  have hm := @mo_Polls_cheapestTurn (meth (d + 3)) (meth_smono (d + 3))
  have h8 : sN s ≤ 8 := hs.2.1.1
  have h1 := pOk_1 hr.1
  obtain ⟨p1, p2⟩ := p256 hs
  refine me_Polls_cheapestTurn (wb_Polls_cheapestTurn_0 hm (o2 := 13) rfl (cs_sideBits hs hr (wb_Polls_cheapestTurn_6 hm (o2 := 13) rfl ?_)))
  rw [show (1 : Int32) - nI p = nI (1 - p) from nI_sub (a := 1) hp]
  refine cs_sideBits hs hr (wb_Polls_cheapestTurn_16 hm ?_)
  generalize hv4 : wbits (sN s) (sW s) (nI p) = v4
  generalize hv5 : wbits (sN s) (sW s) (nI (1 - p)) = v5
  have loop : ∀ i, i ≤ 2 ^ sN s → ∀ v7 : Int32, ((tAcc s p i).1 ≠ -1 → v7 = (tAcc s p i).2) → gWp (gTab (tb_Polls_cheapestTurn (meth (d + 3)))) Q X 27 [some (.ref (x + 43)), some (.int (nI p)), some (.ref (x + 13)), some (.ref (x + P 1)), some (.int v4), some (.int v5), some (.int (tAcc s p i).1), some (.int v7), some (.int (nI i)), none, none] [] (gset H x cck P I A) := by
    refine gdown ?_ ?_
    · intro v7 _
      exact wb_Polls_cheapestTurn_27 hm h1 (cs_everyTown hs hr (wb_Polls_cheapestTurn_33 hm h1 ⟨fun _ => h, fun c => absurd ((nI_ltI (by omega) (by omega)).mpr (by omega)) c⟩))
    · intro i hi ih v7 hv7
      rw [← nI_1] at ih
      -- next, nothing taken
      have skip : ¬ (tOk s p (nI i) = true ∧ ((tAcc s p i).1 = -1 ∨ nI (mc s p (nI i) (sN s)) < (tAcc s p i).2)) → ∀ v9, gWp (gTab (tb_Polls_cheapestTurn (meth (d + 3)))) Q X 111 [some (.ref (x + 43)), some (.int (nI p)), some (.ref (x + 13)), some (.ref (x + P 1)), some (.int v4), some (.int v5), some (.int (tAcc s p i).1), some (.int v7), some (.int (nI i)), some (.int v9), none] [] (gset H x cck P I A) := fun q v9 => by
        have := ih v7
        rw [tAcc, if_neg q] at this
        exact wb_Polls_cheapestTurn_111 hm (this hv7)
      have take : (tOk s p (nI i) = true ∧ ((tAcc s p i).1 = -1 ∨ nI (mc s p (nI i) (sN s)) < (tAcc s p i).2)) → ∀ v9, gWp (gTab (tb_Polls_cheapestTurn (meth (d + 3)))) Q X 103 [some (.ref (x + 43)), some (.int (nI p)), some (.ref (x + 13)), some (.ref (x + P 1)), some (.int v4), some (.int v5), some (.int (tAcc s p i).1), some (.int v7), some (.int (nI i)), some (.int v9), some (.int (nI (mc s p (nI i) (sN s))))] [] (gset H x cck P I A) := fun q v9 => by
        have := ih (nI (mc s p (nI i) (sN s)))
        rw [tAcc, if_pos q] at this
        exact wb_Polls_cheapestTurn_103 hm (wb_Polls_cheapestTurn_111 hm (this (fun _ => rfl)))
      have e1 : fsum (fun t => if bt (v4 ||| nI i) t = true then sC s t else 0) (sN s) = sp1 s p (nI i) (sN s) := fsum_c (fun t ht => by
        rw [b_or, ← hv4, wbits_bt h8 (show t < 32 by omega), decide_eq_true ht, Bool.true_and]
        by_cases hb : bt (nI i) t = true
        · rw [if_pos (by rw [hb, Bool.or_true]), if_pos (Or.inl hb)]
        · by_cases hS : tS s t = nI p
          · rw [if_pos (by rw [decide_eq_true hS, Bool.true_or]), if_pos (Or.inr hS)]
          · rw [if_neg (by rw [decide_eq_false hS, Bool.false_or]; exact hb), if_neg (fun q => q.elim hb hS)])
      have e2 : fsum (fun t => if bt (v5 &&& (nI i ^^^ (-1))) t = true then sC s t else 0) (sN s) = sp2 s p (nI i) (sN s) := fsum_c (fun t ht => by
        rw [b_and, b_xor, b_m1 t (by omega), ← hv5, wbits_bt h8 (show t < 32 by omega), decide_eq_true ht, Bool.true_and]
        by_cases hS : tS s t = nI (1 - p)
        · rw [decide_eq_true hS, Bool.true_and]
          cases hb : bt (nI i) t
          · rw [if_pos (by decide), if_pos ⟨rfl, hS⟩]
          · rw [if_neg (by decide), if_neg (fun q => by cases q.1)]
        · rw [decide_eq_false hS, Bool.false_and, if_neg (by decide), if_neg (fun q => hS q.2)])
      refine wb_Polls_cheapestTurn_27 hm h1 (cs_everyTown hs hr (wb_Polls_cheapestTurn_33 hm h1 ⟨fun c => absurd ((nI_ltI (by omega) (by omega)).mp c) (by omega), fun _ => cs_seatsIn hs hr (wb_Polls_cheapestTurn_45 hm h1 (cs_seatsIn hs hr (wb_Polls_cheapestTurn_56 hm ?_)))⟩))
      rw [e1, e2]
      have hand : nI i &&& v4 = 0 ↔ ∀ t, t < sN s → bt (nI i) t = true → tS s t ≠ nI p := by rw [← hv4]; exact and_bits h8
      refine ⟨fun c => wb_Polls_cheapestTurn_64 hm ?_, fun c => wb_Polls_cheapestTurn_64 hm ?_⟩
      · have nok : ¬ tOk s p (nI i) = true := fun q => by unfold tOk at q; rw [decide_eq_true_eq] at q; exact q.2 c
        exact ⟨fun _ => skip (fun q => nok q.1) _, fun _ => ⟨fun _ => skip (fun q => nok q.1) _, fun z => absurd rfl z⟩⟩
      · refine ⟨fun q => skip (fun z => ?_) _, fun q => ⟨fun z => absurd z (by decide), fun _ => ?_⟩⟩
        · have z1 := z.1
          unfold tOk at z1
          rw [decide_eq_true_eq] at z1
          exact q (hand.mpr z1.1)
        · have hok := hand.mp (Classical.not_not.mp q)
          have ok : tOk s p (nI i) = true := by unfold tOk; exact decide_eq_true ⟨hok, c⟩
          refine cs_turnCost hs hr hp hok (wb_Polls_cheapestTurn_88 hm ⟨fun z => take ⟨ok, Or.inl z⟩ _, fun z => ?_⟩)
          have e7 := hv7 z
          rw [e7] at skip take ⊢
          refine ⟨fun c2 => skip (fun w => w.2.elim z (fun w => absurd w (Int32.not_lt.mpr c2))) _, fun c2 => take ⟨ok, Or.inr (Int32.not_le.mp c2)⟩ _⟩
  exact loop 0 (Nat.zero_le _) 0 (fun q => absurd rfl q)
end TUC
section CA22
variable {s : ST}
theorem C_turn (hs : sOk s) {p a : Int32} : cCall m_S_turn [.int p, .int a] (q1 (inR p 0 1 && inR a 0 1) s (f_turn p.toNatClampNeg a s)) s := by
  intro d Q X H x P I A hr h
  have hm := @mo_S_turn (meth (d + 59)) (meth_smono (d + 59))
  have no : (inR p 0 1 && inR a 0 1) = false → gWp (gTab (tb_S_turn (meth (d + 59)))) Q X 23 [some (.ref (x + 0)), some (.int p), some (.int a), none] [.ref (x + 0)] (gset H x cck P I A) := fun hf => by
    rw [q1_f hf] at h
    exact wb_S_turn_23 hm (wb_S_turn_24 hm (sp_S_need (c := false) hr (fun q => by cases q) (fun _ I' r' => h P I' A r')))
  refine me_S_turn (wb_S_turn_0 hm (sp_S_within (wb_S_turn_7 hm ⟨fun c1 => no (by rw [b_i00 c1]; rfl), fun c1 => sp_S_within (wb_S_turn_16 hm ⟨fun c2 => no (by rw [b_i01 c1, b_i00 c2]; rfl), fun c2 => wb_S_turn_24 hm (sp_S_need (c := true) hr (fun _ => wb_S_turn_27 hm ?_) (fun q => by cases q))⟩)⟩)))
  rw [q1_t (by rw [b_i01 c1, b_i01 c2]; rfl)] at h
  have h := h P I A hr
  obtain ⟨k, hk, rfl⟩ := inR_n (m := 1) (by omega) (b_i01 c1)
  obtain ⟨l, hl, rfl⟩ := inR_n (m := 1) (by omega) (b_i01 c2)
  rw [nI_clamp (by omega)] at h
  unfold f_turn at h
  obtain ⟨p1, p2⟩ := p256 hs
  refine cs_cheapestTurn hs hr hk (wb_S_turn_43 hm ?_)
  have e1 : nI l = 1 ↔ l = 1 := nI_eq (b := 1) (by omega) (by omega)
  have e0 : nI l = 0 ↔ l = 0 := nI_eq (b := 0) (by omega) (by omega)
  rcases tAcc_ok (s := s) (p := k) (2 ^ sN s) with e | ⟨j, hj, ok, e⟩
  · rw [e] at h ⊢
    refine ⟨fun _ => wb_S_turn_54 hm (wb_S_turn_75 hm ?_), fun q => absurd rfl q⟩
    by_cases hl0 : nI l = 0
    · rw [if_pos hl0] at h; exact h
    · rw [if_neg hl0] at h; exact h
  · rw [e] at h ⊢
    unfold tOk at ok
    rw [decide_eq_true_eq] at ok
    refine ⟨fun q => absurd q (nI_nm1 (by omega)), fun _ => ⟨fun q => cs_turnCost hs hr hk ok.1 (wb_S_turn_75 hm ?_), fun q => wb_S_turn_54 hm (wb_S_turn_75 hm ?_)⟩⟩
    · rw [if_pos (e0.mpr (by have : ¬ l = 1 := fun z => q (e1.mpr z); omega))] at h; exact h
    · rw [if_neg (fun z => by have := e1.mp (Classical.not_not.mp q); have := e0.mp z; omega)] at h; exact h
end CA22
