/-! ===== calls: what each answers, of the class and of the reference ===== -/
def oQ (Q : gQ) (X : gX) : Value ⊕ String → gH → Prop
  | .inl v, H => Q (some v) H
  | .inr E, H => X E H
def cCall (M : Nat) (as : List Value) (r : (Value ⊕ String) × ST) (s : ST) : Prop := ∀ (d : Nat) (Q : gQ) (X : gX) (H : gH) (x : Nat) (P : Nat → Nat) (I A : Nat → Nat → Int32), cRep s P I A → (∀ P' I' A', cRep r.2 P' I' A' → oQ Q X r.1 (gset H x cck P' I' A')) → meth (d + 60) M (.ref (x + 0) :: as) (gset H x cck P I A) Q X
def rOut (kc : String → Nat) (z0 : Value) : Value ⊕ String → Int32 → Value → Prop
  | .inl w, th, v => th = 0 ∧ v = w
  | .inr E, th, v => th = nI (kc E) ∧ v = z0
def rCall (M : Nat) (as : List Value) (kc : String → Nat) (z0 : Value) (r : (Value ⊕ String) × ST) (s : ST) : Prop := ∀ (d : Nat) (Q : gQ) (X : gX) (H : gH) (x : Nat) (P : Nat → Nat) (I A : Nat → Nat → Int32), rRep s I A → (∀ I' A' v, rRep r.2 I' A' → rOut kc z0 r.1 (I' 0 0) v → Q (some v) (gset H x mck P I' A')) → meth (d + 60) M (.ref (x + 0) :: as) (gset H x mck P I A) Q X
def kA (_ : String) : Nat := 1
def kB (E : String) : Nat := if E = NSE then 1 else 2
def q1 (c : Bool) (s : ST) (v : Int32) : (Value ⊕ String) × ST := if c = true then (.inl (.int v), s) else (.inr IAE, sBad s)
def qT (c : Bool) (s : ST) (r : (Value ⊕ String) × ST) : (Value ⊕ String) × ST := if c = true then r else (.inr NSE, sNo s)
theorem q1_t {c : Bool} {s : ST} {v : Int32} (h : c = true) : q1 c s v = (.inl (.int v), s) := if_pos h
theorem q1_f {c : Bool} {s : ST} {v : Int32} (h : c = false) : q1 c s v = (.inr IAE, sBad s) := if_neg (by rw [h]; decide)
theorem qT_t {c : Bool} {s : ST} {r : (Value ⊕ String) × ST} (h : c = true) : qT c s r = r := if_pos h
theorem qT_f {c : Bool} {s : ST} {r : (Value ⊕ String) × ST} (h : c = false) : qT c s r = (.inr NSE, sNo s) := if_neg (by rw [h]; decide)
theorem sOk_bad {s : ST} (h : sOk s) : sOk (sBad s) := h
theorem sOk_no {s : ST} (h : sOk s) : sOk (sNo s) := h
section RPF
variable {s : ST} {P : Nat → Nat} {I A : Nat → Nat → Int32}
theorem cw_V (hr : cRep s P I A) {t : Nat} (ht : t < sN s) : wV (sW s) t = A 14 t := by rw [← hr.2.2.2.1]; exact rs_at ht
theorem cw_B (hr : cRep s P I A) {t : Nat} (ht : t < sN s) : wB (sW s) t = A 15 t := by rw [← hr.2.2.2.1]; exact rs_at ht
theorem rw_V {f : Nat → Int32} (h : rW (sN s) f = sW s) {t : Nat} (ht : t < sN s) : wV (sW s) t = f t := by rw [← h]; exact rs_at ht
theorem rw_B {f : Nat → Int32} (h : rW (sN s) f = sW s) {t : Nat} (ht : t < sN s) : wB (sW s) t = f (8 + t) := by rw [← h]; exact rs_at (f := fun t => f (8 + t)) ht
theorem sNr_bt (hs : sOk s) {t i : Nat} (ht : t < sN s) (hi : i < 32) (h : bt (sNr s t) i = true) : i < sN s := by
  have hz := hs.2.1
  have h8 := hz.1
  have ht' : t < zN (sZ s) := ht
  unfold sNr at h
  rw [froads_bt (by omega) hi (fun e he => ⟨by have := hz.2.2.2.2 e he; omega, by have := hz.2.2.2.2 e he; omega⟩)] at h
  have key : ∀ m, m ≤ zM (sZ s) → hasR (zF (sZ s)) (zT (sZ s)) t i m = true → i < zN (sZ s) := by
    intro m
    induction m with
    | zero => intro _ q; cases q
    | succ m ih =>
      intro hm q
      have hk := hz.2.2.2.2 m (by omega)
      rw [hasR, Bool.or_eq_true, Bool.or_eq_true, decide_eq_true_eq, decide_eq_true_eq] at q
      rcases q with q | q | q
      · exact ih (by omega) q
      · omega
      · omega
  exact key _ (Nat.le_refl _) h
theorem cRep_land (hs : sOk s) (hr : cRep s P I A) : LandOk I A (P 1) (sN s) := by
  have hz := hs.2.1
  obtain ⟨l0, l1, l2, l3⟩ := hr.2.2.1
  refine ⟨pOk_1 hr.1, l0, hz.1, fun t ht => ⟨zC (sZ s) t, (hz.2.2.2.1 t ht).2.2.2.1, (hz.2.2.2.1 t ht).2.2.2.2, (l2 t ht).1⟩, fun t ht i hi hb => ?_⟩
  rw [(l2 t ht).2] at hb
  exact sNr_bt hs ht hi hb
theorem cl_C (hr : cRep s P I A) {t : Nat} (ht : t < sN s) : A (P 1 + 1) t = sC s t := (hr.2.2.1.2.2.1 t ht).1
theorem cl_N (hr : cRep s P I A) {t : Nat} (ht : t < sN s) : A (P 1 + 2) t = sNr s t := (hr.2.2.1.2.2.1 t ht).2
theorem rRep_land (hs : sOk s) (hr : rRep s I A) : RLandOk I A (sN s) (zM (sZ s)) (sC s) (sNr s) := by
  have hz := hs.2.1
  obtain ⟨l0, l1, l2, l3⟩ := hr.2.1
  refine ⟨l0, hz.1, l1, hz.2.1, fun t ht => l2 t ht, fun t ht => ?_⟩
  exact froads_c (fun e he => by rw [rdA_e.1, rdA_e.2]; exact l3 e he)
theorem sW_ok (hs : sOk s) {t : Nat} (ht : t < sN s) : ∃ v b, 1 ≤ v ∧ v ≤ 999 ∧ b ≤ v ∧ wV (sW s) t = nI v ∧ wB (sW s) t = nI b := hs.2.2.1.1 t ht
end RPF
section CQ
variable {s : ST} {d : Nat} {Q : gQ} {X : gX} {H : gH} {x : Nat} {P : Nat → Nat} {I A : Nat → Nat → Int32}
theorem cs_seatsOf (hs : sOk s) (hr : cRep s P I A) {p : Int32} (h : Q (some (.int (wseats (sC s) (sN s) (sW s) p))) (gset H x cck P I A)) : meth (d + 4) m_World_seatsOf [.ref (x + 13), .int p, .ref (x + P 1)] (gset H x cck P I A) Q X := by
  have hl := cRep_land hs hr
  refine sp_World_seatsOf (o := 13) rfl hl.1 hl.2.1 hl.2.2.1 ?_
  rw [seats_eq hl.2.2.1]
  have e : wseats (sC s) (sN s) (sW s) p = fsum (fun t => if fside (A (13 + 2) t) (A (13 + 1) t) = p then A (P 1 + 1) t else 0) (sN s) := fsum_c (fun t ht => by rw [cw_V hr ht, cw_B hr ht, cl_C hr ht])
  rw [e] at h
  exact h
theorem rs_take (hr : rRep s I A) (hn8 : sN s ≤ 8) (h : ∀ A', Fr [18] A A' → rRep s I A' → rW (sN s) (A' 18) = sW s → Q none (gset H x mck P I A')) : meth (d + 2) m_R_take [.ref (x + 0)] (gset H x mck P I A) Q X := by
  refine sp_R_take (fun A' f e => h A' f (rRep_fr hr (fun _ _ => rfl) f (fun j hj q => ?_)) ?_)
  · simp at q; omega
  · rw [rW_c hn8 e]; exact hr.2.2.1
theorem rs_seatsOf (hs : sOk s) (hr : rRep s I A) (h18 : rW (sN s) (A 18) = sW s) {p : Int32} (h : Q (some (.int (wseats (sC s) (sN s) (sW s) p))) (gset H x mck P I A)) : meth (d + 3) m_R_seatsOf [.ref (x + 0), .int p] (gset H x mck P I A) Q X := by
  refine sp_R_seatsOf (n := sN s) hr.2.1.1 hs.2.1.1 ?_
  have e : wseats (sC s) (sN s) (sW s) p = fsum (fun t => if fside (A 18 (8 + t)) (A 18 t) = p then A 7 t else 0) (sN s) := fsum_c (fun t ht => by rw [rw_V h18 ht, rw_B h18 ht, hr.2.1.2.2.1 t ht]; rfl)
  rw [e] at h
  exact h
end CQ
section CA1
variable {s : ST}
-- fault
theorem C_fault : cCall m_S_fault [] (.inl (.int (sF s)), s) s := by
  intro d Q X H x P I A hr h
  have hm := @mo_S_fault (meth (d + 59)) (meth_smono (d + 59))
  refine me_S_fault (wb_S_fault_0 hm ?_)
  have := h P I A hr
  rw [← hr.2.1.2.1] at this
  exact this
theorem R_fault : rCall m_R_fault [] kA (.int 0) (.inl (.int (sF s)), s) s := by
  intro d Q X H x P I A hr h
  have hm := @mo_R_fault (meth (d + 59)) (meth_smono (d + 59))
  refine me_R_fault (wb_R_fault_0 hm (h _ A _ (rRep_0 hr) ⟨upI_s, ?_⟩))
  rw [hr.1.2.1]
-- status
def f_status (a : Int32) (s : ST) : Int32 := if a = 0 then sX0 s else if a = 1 then sX1 s else -1
theorem C_status {a : Int32} : cCall m_S_status [.int a] (.inl (.int (f_status a s)), s) s := by
  intro d Q X H x P I A hr h
  have hm := @mo_S_status (meth (d + 59)) (meth_smono (d + 59))
  have h := h P I A hr
  have e0 := hr.2.2.2.2.2.2.2.2.2.1
  have e1 := hr.2.2.2.2.2.2.2.2.2.2
  refine me_S_status (wb_S_status_0 hm ⟨fun c => ⟨fun c2 => wb_S_status_22 hm ?_, fun c2 => wb_S_status_22 hm ?_⟩, fun c => ?_⟩)
  · unfold f_status at h; rw [if_neg c, if_neg c2] at h; exact h
  · unfold f_status at h; rw [if_neg c, if_pos (Classical.not_not.mp c2), ← e1] at h; exact h
  · unfold f_status at h; rw [if_pos (Classical.not_not.mp c), ← e0] at h; exact h
theorem R_status {a : Int32} : rCall m_R_status [.int a] kA (.int 0) (.inl (.int (f_status a s)), s) s := by
  intro d Q X H x P I A hr h
  have hm := @mo_R_status (meth (d + 59)) (meth_smono (d + 59))
  have e0 := hr.2.2.2.2.2.2.2.2.1
  have e1 := hr.2.2.2.2.2.2.2.2.2
  refine me_R_status (wb_R_status_0 hm (sp_R_within (wb_R_status_11 hm ⟨fun c => wb_R_status_24 hm (h _ A _ (rRep_0 hr) ⟨upI_s, ?_⟩), fun c => ?_⟩)))
  · have := b_i00 c
    unfold inR at this
    rw [decide_eq_false_iff_not] at this
    unfold f_status
    rw [if_neg (fun q => this (by rw [q]; decide)), if_neg (fun q => this (by rw [q]; decide))]
  · have hi := b_i01 c
    unfold inR at hi
    rw [decide_eq_true_eq] at hi
    obtain ⟨k, hk, rfl⟩ := nI_of2 (M := 1) (n := 1) rfl (x := a) hi.1 (Int32.not_lt.mp hi.2)
    refine ⟨vp_in_nI (by omega) (by omega), wb_R_status_24 hm (h _ A _ (rRep_0 hr) ⟨upI_s, ?_⟩)⟩
    rw [nI_clamp (by omega)]
    rcases (show k = 0 ∨ k = 1 by omega) with rfl | rfl
    · rw [e0]; rfl
    · rw [e1]; rfl
-- count
def f_count (a : Int32) (s : ST) : Int32 := if a = 0 then nI (sM s).1 else if a = 1 then nI (sL s) else if a = 2 then nI (sU s).1 else -1
theorem tsw_3 {a : Int32} {t0 t1 t2 df : Nat} : (if a.toInt < 0 ∨ 0 + (([t0, t1, t2] : List Nat).length : Int) ≤ a.toInt then df else ([t0, t1, t2] : List Nat).getD (a.toInt - 0).toNat df) = if a = 0 then t0 else if a = 1 then t1 else if a = 2 then t2 else df := by
  by_cases h : ¬ a < 0 ∧ ¬ 2 < a
  · obtain ⟨k, hk, rfl⟩ := nI_of2 (M := 2) (n := 2) rfl (x := a) h.1 (Int32.not_lt.mp h.2)
    rw [tsw_at (by omega)]
    rcases (show k = 0 ∨ k = 1 ∨ k = 2 by omega) with rfl | rfl | rfl <;> rfl
  · rw [Int32.lt_iff_toInt_lt, Int32.lt_iff_toInt_lt, show (0 : Int32).toInt = 0 from rfl, show (2 : Int32).toInt = 2 from rfl] at h
    rw [if_pos (by show _ ∨ 0 + (3 : Int) ≤ _; omega)]
    have key : ∀ k : Int32, k.toInt = 0 ∨ k.toInt = 1 ∨ k.toInt = 2 → ¬ a = k := fun k hk q => by rw [q] at h; omega
    rw [if_neg (key 0 (by decide)), if_neg (key 1 (by decide)), if_neg (key 2 (by decide))]
theorem C_count {a : Int32} : cCall m_S_count [.int a] (.inl (.int (f_count a s)), s) s := by
  intro d Q X H x P I A hr h
  have hm := @mo_S_count (meth (d + 59)) (meth_smono (d + 59))
  have h := h P I A hr
  refine me_S_count (wb_S_count_0 hm ?_)
  rw [tsw_3]
  unfold f_count at h
  by_cases h0 : a = 0
  · rw [if_pos h0] at h ⊢
    rw [← hr.2.2.2.2.2.2.2.1.1] at h
    exact wb_S_count_28 hm h
  · rw [if_neg h0] at h ⊢
    by_cases h1 : a = 1
    · rw [if_pos h1] at h ⊢
      rw [← hr.2.1.1] at h
      exact wb_S_count_36 hm h
    · rw [if_neg h1] at h ⊢
      by_cases h2 : a = 2
      · rw [if_pos h2] at h ⊢
        rw [← hr.2.2.2.2.2.2.1.1] at h
        exact wb_S_count_44 hm h
      · rw [if_neg h2] at h ⊢
        exact wb_S_count_52 hm h
theorem R_count {a : Int32} : rCall m_R_count [.int a] kA (.int 0) (.inl (.int (f_count a s)), s) s := by
  intro d Q X H x P I A hr h
  have hm := @mo_R_count (meth (d + 59)) (meth_smono (d + 59))
  have h := fun v => h _ A v (rRep_0 (a := 0) hr)
  unfold f_count at h
  refine me_R_count (wb_R_count_0 hm ⟨fun c => ⟨fun c2 => ⟨fun c3 => wb_R_count_41 hm (h _ ⟨upI_s, ?_⟩), fun c3 => wb_R_count_41 hm (h _ ⟨upI_s, ?_⟩)⟩, fun c2 => wb_R_count_41 hm (h _ ⟨upI_s, ?_⟩)⟩, fun c => wb_R_count_41 hm (h _ ⟨upI_s, ?_⟩)⟩)
  · rw [if_neg c, if_neg c2, if_neg c3]
  · rw [if_neg c, if_neg c2, if_pos (Classical.not_not.mp c3), hr.2.2.2.2.2.1.1]
  · rw [if_neg c, if_pos (Classical.not_not.mp c2), hr.1.1]
  · rw [if_pos (Classical.not_not.mp c), hr.2.2.2.2.2.2.1.1]
-- seats, sides, margin
theorem C_seats (hs : sOk s) {a : Int32} : cCall m_S_seats [.int a] (q1 (inR a 0 2) s (wseats (sC s) (sN s) (sW s) a)) s := by
  intro d Q X H x P I A hr h
  have hm := @mo_S_seats (meth (d + 59)) (meth_smono (d + 59))
  refine me_S_seats (wb_S_seats_0 hm (sp_S_within (wb_S_seats_7 hm (sp_S_need hr (fun c => wb_S_seats_10 hm (cs_seatsOf hs hr (wb_S_seats_22 hm ?_))) (fun c I' r' => ?_)))))
  · rw [q1_t c] at h; exact h P I A hr
  · rw [q1_f c] at h; exact h P I' A r'
theorem R_seats (hs : sOk s) {a : Int32} : rCall m_R_seats [.int a] kA (.int 0) (q1 (inR a 0 2) s (wseats (sC s) (sN s) (sW s) a)) s := by
  intro d Q X H x P I A hr h
  have hm := @mo_R_seats (meth (d + 59)) (meth_smono (d + 59))
  refine me_R_seats (wb_R_seats_0 hm (sp_R_within (wb_R_seats_12 hm (sp_R_may (kind := 1) (code := 1) upI_s (by omega) (by omega) (rRep_0 hr) (fun c => wb_R_seats_17 hm ⟨fun _ => rs_take (rRep_0 hr) hs.2.1.1 (fun A' f r' e => wb_R_seats_26 hm (rs_seatsOf hs r' e (wb_R_seats_31 hm ?_))), fun q => absurd (by decide) q⟩) (fun c I' A' r' e => wb_R_seats_17 hm ⟨fun q => absurd rfl q, fun _ => ?_⟩)))))
  · rw [q1_t c] at h; exact h _ A' _ r' ⟨upI_s, rfl⟩
  · rw [q1_f c] at h; exact h I' A' _ r' ⟨e, rfl⟩
theorem C_margin (hs : sOk s) : cCall m_S_margin [] (.inl (.int (wseats (sC s) (sN s) (sW s) 0 - wseats (sC s) (sN s) (sW s) 1)), s) s := by
  intro d Q X H x P I A hr h
  have hm := @mo_S_margin (meth (d + 59)) (meth_smono (d + 59))
  exact me_S_margin (wb_S_margin_0 hm (cs_seatsOf hs hr (wb_S_margin_12 hm (cs_seatsOf hs hr (wb_S_margin_24 hm (h P I A hr))))))
theorem R_margin (hs : sOk s) : rCall m_R_margin [] kA (.int 0) (.inl (.int (wseats (sC s) (sN s) (sW s) 0 - wseats (sC s) (sN s) (sW s) 1)), s) s := by
  intro d Q X H x P I A hr h
  have hm := @mo_R_margin (meth (d + 59)) (meth_smono (d + 59))
  exact me_R_margin (wb_R_margin_0 hm (rs_take (rRep_0 hr) hs.2.1.1 (fun A' f r' e => wb_R_margin_9 hm (rs_seatsOf hs r' e (wb_R_margin_14 hm (rs_seatsOf hs r' e (wb_R_margin_19 hm (h _ A' _ r' ⟨upI_s, rfl⟩))))))))
def wbits (n : Nat) (w : WS) (p : Int32) : Int32 := fbits p (wV w) (wB w) n
theorem C_sides (hs : sOk s) {a : Int32} : cCall m_S_sides [.int a] (q1 (inR a 0 2) s (wbits (sN s) (sW s) a)) s := by
  intro d Q X H x P I A hr h
  have hm := @mo_S_sides (meth (d + 59)) (meth_smono (d + 59))
  have hl := cRep_land hs hr
  refine me_S_sides (wb_S_sides_0 hm (sp_S_within (wb_S_sides_7 hm (sp_S_need hr (fun c => wb_S_sides_10 hm (sp_World_sideBits (o := 13) rfl hl.1 hl.2.1 hl.2.2.1 (wb_S_sides_22 hm ?_))) (fun c I' r' => ?_)))))
  · rw [q1_t c] at h
    have := h P I A hr
    unfold wbits at this
    rw [fbits_c (V' := A (13 + 1)) (B' := A (13 + 2)) (fun t ht => cw_V hr ht) (fun t ht => cw_B hr ht)] at this
    exact this
  · rw [q1_f c] at h; exact h P I' A r'
theorem R_sides (hs : sOk s) {a : Int32} : rCall m_R_sides [.int a] kA (.int 0) (q1 (inR a 0 2) s (wbits (sN s) (sW s) a)) s := by
  intro d Q X H x P I A hr h
  have hm := @mo_R_sides (meth (d + 59)) (meth_smono (d + 59))
  have hn8 : sN s ≤ 8 := hs.2.1.1
  refine me_R_sides (wb_R_sides_0 hm (sp_R_within (wb_R_sides_12 hm (sp_R_may (kind := 1) (code := 1) upI_s (by omega) (by omega) (rRep_0 hr) (fun c => wb_R_sides_17 hm ⟨fun _ => rs_take (rRep_0 hr) hn8 (fun A' f r' e => wb_R_sides_26 hm ?_), fun q => absurd (by decide) q⟩) (fun c I' A' r' e => wb_R_sides_17 hm ⟨fun q => absurd rfl q, fun _ => ?_⟩)))))
  · rw [q1_t c] at h
    have h19 : upI I 0 0 0 0 19 = nI (sN s) := r'.2.1.1
    have key : ∀ k, k ≤ sN s → gWp (gTab (tb_R_sides (meth (d + 59)))) Q X 30 [some (.ref (x + 0)), some (.int a), some (.int (fbits a (wV (sW s)) (wB (sW s)) k)), some (.int (nI k))] [] (gset H x mck P (upI I 0 0 0) A') := by
      refine gdown ?_ ?_
      · exact wb_R_sides_30 hm ⟨fun _ => h _ A' _ r' ⟨upI_s, rfl⟩, fun c => absurd (by rw [h19]; exact nI_le (Nat.le_refl _) (by omega)) c⟩
      · intro k hk ih
        refine wb_R_sides_30 hm ⟨fun c => absurd c (by rw [h19]; exact nI_ge hk (by omega)), fun _ => sp_R_partyOf (by omega) ?_⟩
        rw [← rw_V e hk, ← rw_B e hk]
        rw [nI_succ, fbits] at ih
        refine wb_R_sides_44 hm ⟨fun c => wb_R_sides_55 hm ?_, fun c => wb_R_sides_55 hm ?_⟩
        · rw [if_neg c] at ih; exact ih
        · rw [if_pos (Classical.not_not.mp c)] at ih; exact ih
    exact key 0 (Nat.zero_le _)
  · rw [q1_f c] at h; exact h I' A' _ r' ⟨e, rfl⟩
-- road
def isRd (s : ST) (e : Int32) : Bool := inR e 0 (nI (zM (sZ s)) - 1)
theorem isRd_n {e : Int32} (hs : sOk s) (h : isRd s e = true) : ∃ k, k < zM (sZ s) ∧ zM (sZ s) ≤ 12 ∧ e = nI k := by
  unfold isRd inR at h
  rw [decide_eq_true_eq] at h
  have h8 : zM (sZ s) ≤ 12 := hs.2.1.2.1
  have h2 : e ≤ nI (zM (sZ s)) - 1 := Int32.not_lt.mp h.2
  have hlt : e ≤ nI 12 := by
    rw [Int32.le_iff_toInt_le] at h2 ⊢
    rw [nI_toInt (by omega)]
    have e1 : (nI (zM (sZ s)) - 1).toInt = (zM (sZ s) : Int) - 1 := by
      rw [show (1 : Int32) = nI 1 from rfl, _root_.Jvm.Kit.i32_sub (by rw [nI_toInt (by omega), nI_toInt (by omega)]; omega) (by rw [nI_toInt (by omega), nI_toInt (by omega)]; omega), nI_toInt (by omega), nI_toInt (by omega)]
      rfl
    omega
  obtain ⟨k, hk, rfl⟩ := nI_of2 (M := nI 12) (n := 12) (nI_toInt (by omega)) (x := e) h.1 hlt
  rw [nI_m1 (by omega) (by omega)] at h2
  exact ⟨k, h2, h8, rfl⟩
def f_road (e a : Int32) (s : ST) : Int32 := if a = 0 then nI (zF (sZ s) e.toNatClampNeg) else nI (zT (sZ s) e.toNatClampNeg)
theorem C_road (hs : sOk s) {e a : Int32} : cCall m_S_road [.int e, .int a] (qT (isRd s e) s (q1 (inR a 0 1) s (f_road e a s))) s := by
  intro d Q X H x P I A hr h
  have hm := @mo_S_road (meth (d + 59)) (meth_smono (d + 59))
  refine me_S_road (wb_S_road_0 hm (pOk_1 hr.1) ?_)
  rw [hr.2.2.1.2.1]
  refine sp_S_within (wb_S_road_15 hm (sp_S_needSuch hr (fun c => wb_S_road_18 hm (sp_S_within (wb_S_road_25 hm (sp_S_need hr (fun c2 => wb_S_road_28 hm (pOk_1 hr.1) ?_) (fun c2 I' r' => ?_))))) (fun c I' r' => ?_)))
  · obtain ⟨k, hk, h12, rfl⟩ := isRd_n hs c
    rw [qT_t (show isRd s _ = true from c), q1_t c2] at h
    have h := h P I A hr
    have := hr.2.2.1.2.2.2 k hk
    rw [nI_clamp (by omega), this.1, this.2]
    refine ⟨fun q => ⟨vp_in_nI (by omega) (by omega), wb_S_road_53 hm ?_⟩, fun q => ⟨vp_in_nI (by omega) (by omega), wb_S_road_53 hm ?_⟩⟩
    · unfold f_road at h; rw [if_neg q, nI_clamp (by omega)] at h; exact h
    · unfold f_road at h; rw [if_pos (Classical.not_not.mp q), nI_clamp (by omega)] at h; exact h
  · rw [qT_t (show isRd s _ = true from c), q1_f c2] at h; exact h P I' A r'
  · rw [qT_f (show isRd s _ = false from c)] at h; exact h P I' A r'
theorem R_road (hs : sOk s) {e a : Int32} : rCall m_R_road [.int e, .int a] kB (.int 0) (qT (isRd s e) s (q1 (inR a 0 1) s (f_road e a s))) s := by
  intro d Q X H x P I A hr h
  have hm := @mo_R_road (meth (d + 59)) (meth_smono (d + 59))
  refine me_R_road (wb_R_road_0 hm ?_)
  rw [hr.2.1.2.1]
  refine sp_R_within (wb_R_road_17 hm (sp_R_may (kind := 0) (code := 1) upI_s (by omega) (by omega) (rRep_0 hr) (fun c => wb_R_road_22 hm ⟨fun q => absurd q (by decide), fun _ => sp_R_within (wb_R_road_32 hm (sp_R_may (kind := 1) (code := 2) upI_s (by omega) (by omega) (rRep_0 hr) (fun c2 => wb_R_road_37 hm ⟨fun _ => ?_, fun q => absurd (by decide) q⟩) (fun c2 I' A' r' e' => wb_R_road_37 hm ⟨fun q => absurd rfl q, fun _ => wb_R_road_40 hm ?_⟩)))⟩) (fun c I' A' r' e' => wb_R_road_22 hm ⟨fun _ => wb_R_road_40 hm ?_, fun q => absurd rfl q⟩)))
  · obtain ⟨k, hk, h12, rfl⟩ := isRd_n hs c
    have hi := c2
    unfold inR at hi
    rw [decide_eq_true_eq] at hi
    obtain ⟨j, hj, rfl⟩ := nI_of2 (M := 1) (n := 1) rfl (x := a) hi.1 (Int32.not_lt.mp hi.2)
    rw [qT_t (show isRd s _ = true from c), q1_t c2] at h
    have l3 := hr.2.1.2.2.2 k hk
    have e1 : (2 : Int32) * nI k + nI j = nI (2 * k + j) := by rw [n_2, nI_add]
    rw [e1, nI_clamp (by omega)]
    refine ⟨vp_in_nI (by omega) (by omega), h _ A _ (rRep_0 hr) ⟨upI_s, ?_⟩⟩
    unfold f_road
    rw [nI_clamp (by omega)]
    rcases (show j = 0 ∨ j = 1 by omega) with rfl | rfl
    · rw [if_pos (by decide), ← l3.1]; rfl
    · rw [if_neg (by decide), ← l3.2]
  · rw [qT_t (show isRd s _ = true from c), q1_f c2] at h; exact h I' A' _ r' ⟨e', rfl⟩
  · rw [qT_f (show isRd s _ = false from c)] at h; exact h I' A' _ r' ⟨e', rfl⟩
end CA1
