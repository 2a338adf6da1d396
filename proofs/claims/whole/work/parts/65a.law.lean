/-! ===== L2: a law's text: what is read ===== -/
/-- a law's code: (0, a number), (1, a fact), (2 + - 3, 4 * 5 /, 6 least 7 most, 8 %, 0) -/
abbrev CO : Type := List (Nat × Nat)
def wlW : List (List Int32) := [[118, 111, 116, 101, 114, 115], [98, 114, 101, 97, 116, 104, 101], [115, 101, 97, 116, 115], [99, 111, 109, 109, 97], [115, 99, 104, 111, 111, 108], [110, 101, 97, 114], [118, 111, 116, 101, 115], [105, 110], [116, 111, 119, 110], [121, 101, 97, 114], [108, 101, 97, 115, 116], [109, 111, 115, 116]]
section LP
variable (b : Nat → Int32) (n : Nat)
def isPl (s : Nat) : Option Nat := if tk b n s = 3 then (if b s = 43 then some 2 else if b s = 45 then some 3 else none) else none
def isTi (s : Nat) : Option Nat := if tk b n s = 3 then (if b s = 42 then some 4 else if b s = 47 then some 5 else if b s = 37 then some 8 else none) else none
def ploop (F : PO → CO × PO) (op : Nat → Option Nat) : Nat → CO × PO → CO × PO
  | 0, r => r
  | k + 1, r => match r.2 with
    | .inl _ => r
    | .inr s => match op s with
      | none => r
      | some a => ploop F op k (r.1 ++ ((F (.inr (nx b n s))).1 ++ [(a, 0)]), (F (.inr (nx b n s))).2)
def pB (S : Option (PO → CO × PO)) (s : Nat) : CO × PO := match S with
  | none => ([], .inl (3, s))
  | some F => ((F (.inr (nx b n s))).1, osign b n 41 (F (.inr (nx b n s))).2)
def pT (S : Option (PO → CO × PO)) (w s : Nat) : CO × PO := match S with
  | none => ([], .inl (3, s))
  | some F => ((F (osign b n 91 (.inr (nx b n s)))).1 ++ ((F (osign b n 44 (F (osign b n 91 (.inr (nx b n s)))).2)).1 ++ [(w - 4, 0)]), osign b n 93 (F (osign b n 44 (F (osign b n 91 (.inr (nx b n s)))).2)).2)
def pW (S : Option (PO → CO × PO)) (s : Nat) (w : Option Nat) : CO × PO := match w with
  | none => ([], .inl (1, s))
  | some w => if w < 10 then ([(1, w)], .inr (nx b n s)) else pT b n S w s
def pU (S : Option (PO → CO × PO)) : PO → CO × PO
  | .inl e => ([], .inl e)
  | .inr s => if tk b n s = 1 then ([(0, (onum b n 0 1000 (.inr s)).1)], (onum b n 0 1000 (.inr s)).2) else if tk b n s = 3 ∧ b s = 40 then pB b n S s else pW b n S s (oword b n wlW s)
def pP (S : Option (PO → CO × PO)) (o : PO) : CO × PO := ploop b n (pU b n S) (isTi b n) 150 (pU b n S o)
def pS (S : Option (PO → CO × PO)) (o : PO) : CO × PO := ploop b n (pP b n S) (isPl b n) 150 (pP b n S o)
def pSub : Nat → Option (PO → CO × PO)
  | 0 => none
  | g + 1 => some (pS b n (pSub g))
end LP
/-- the stack's depth, ahead and behind -/
def chk : CO → Nat → Nat → Prop
  | [], d, e => d = e
  | c :: cs, d, e => if c.1 = 0 then c.2 < 1000 ∧ d < 32 ∧ chk cs (d + 1) e else if c.1 = 1 then c.2 < 10 ∧ d < 32 ∧ chk cs (d + 1) e else c.1 ≤ 8 ∧ 2 ≤ d ∧ chk cs (d - 1) e
theorem chk_app : ∀ (cs ds : CO) (d e f : Nat), chk cs d e → chk ds e f → chk (cs ++ ds) d f
  | [], ds, d, e, f, h, k => by rw [show d = e from h]; exact k
  | c :: cs, ds, d, e, f, h, k => by
    unfold chk at h
    rw [List.cons_append]
    unfold chk
    by_cases h0 : c.1 = 0
    · rw [if_pos h0] at h ⊢; exact ⟨h.1, h.2.1, chk_app cs ds _ e f h.2.2 k⟩
    · rw [if_neg h0] at h ⊢
      by_cases h1 : c.1 = 1
      · rw [if_pos h1] at h ⊢; exact ⟨h.1, h.2.1, chk_app cs ds _ e f h.2.2 k⟩
      · rw [if_neg h1] at h ⊢; exact ⟨h.1, h.2.1, chk_app cs ds _ e f h.2.2 k⟩
theorem chk_op {a d : Nat} (h2 : 2 ≤ a) (h8 : a ≤ 8) (hd : 2 ≤ d) : chk [(a, 0)] d (d - 1) := by
  unfold chk
  rw [if_neg (by show ¬ a = 0; omega), if_neg (by show ¬ a = 1; omega)]
  exact ⟨h8, hd, rfl⟩
def pGood (n : Nat) (F : PO → CO × PO) (D : Nat) : Prop := (∀ e, F (.inl e) = ([], .inl e)) ∧ ∀ s s', s ≤ n → (F (.inr s)).2 = .inr s' → s < s' ∧ s' ≤ n ∧ (F (.inr s)).1.length + s ≤ s' ∧ ∀ d, d + D ≤ 32 → chk (F (.inr s)).1 d (d + 1)
section LPG
variable {b : Nat → Int32} {n : Nat}
theorem tk_lt {s : Nat} (h : ¬ tk b n s = 0) : s < n := by
  rcases tk_cases b n s with ⟨_, t, _⟩ | ⟨h1, _⟩ | ⟨h1, _⟩ | ⟨h1, _⟩
  · exact absurd t h
  · exact h1
  · exact h1
  · exact h1
theorem tk_3 {s : Nat} (h : tk b n s = 3) : s < n ∧ te b n s = s + 1 := by
  rcases tk_cases b n s with ⟨_, t, _⟩ | ⟨_, _, t, _⟩ | ⟨_, _, _, t, _⟩ | ⟨h1, _, _, _, t⟩
  · rw [t] at h; exact absurd h (by decide)
  · rw [t] at h; exact absurd h (by decide)
  · rw [t] at h; exact absurd h (by decide)
  · exact ⟨h1, t⟩
theorem oword_tk {ws : List (List Int32)} {s w : Nat} (h : oword b n ws s = some w) : tk b n s = 2 := by
  unfold oword at h
  have key : ∀ (ws : List (List Int32)) (k : Nat), widx (isW b n s) ws k = some w → tk b n s = 2 := by
    intro ws
    induction ws with
    | nil => intro k q; cases q
    | cons v ws ih =>
      intro k q
      unfold widx at q
      by_cases hv : isW b n s v = true
      · unfold isW isWg at hv
        exact (decide_eq_true_eq.mp hv).1
      · rw [if_neg hv] at q; exact ih _ q
  exact key ws 0 h
theorem osign_ok {c : Int32} {o : PO} {s' : Nat} (h : osign b n c o = .inr s') : ∃ s, o = .inr s ∧ tk b n s = 3 ∧ b s = c ∧ s' = nx b n s := by
  cases o with
  | inl e => cases h
  | inr s =>
    rw [osign_r] at h
    by_cases hc : tk b n s = 3 ∧ b s = c
    · rw [if_pos hc] at h
      cases h
      exact ⟨s, rfl, hc.1, hc.2, rfl⟩
    · rw [if_neg hc] at h; cases h
theorem isPl_ok {s a : Nat} (h : isPl b n s = some a) : s < n ∧ 2 ≤ a ∧ a ≤ 8 := by
  unfold isPl at h
  by_cases h3 : tk b n s = 3
  · rw [if_pos h3] at h
    refine ⟨(tk_3 h3).1, ?_⟩
    by_cases h1 : b s = 43
    · rw [if_pos h1] at h; cases h; omega
    · rw [if_neg h1] at h
      by_cases h2 : b s = 45
      · rw [if_pos h2] at h; cases h; omega
      · rw [if_neg h2] at h; cases h
  · rw [if_neg h3] at h; cases h
theorem isTi_ok {s a : Nat} (h : isTi b n s = some a) : s < n ∧ 2 ≤ a ∧ a ≤ 8 := by
  unfold isTi at h
  by_cases h3 : tk b n s = 3
  · rw [if_pos h3] at h
    refine ⟨(tk_3 h3).1, ?_⟩
    by_cases h1 : b s = 42
    · rw [if_pos h1] at h; cases h; omega
    · rw [if_neg h1] at h
      by_cases h2 : b s = 47
      · rw [if_pos h2] at h; cases h; omega
      · rw [if_neg h2] at h
        by_cases h4 : b s = 37
        · rw [if_pos h4] at h; cases h; omega
        · rw [if_neg h4] at h; cases h
  · rw [if_neg h3] at h; cases h
theorem pU_r {S : Option (PO → CO × PO)} {s : Nat} : pU b n S (.inr s) = if tk b n s = 1 then ([(0, (onum b n 0 1000 (.inr s)).1)], (onum b n 0 1000 (.inr s)).2) else if tk b n s = 3 ∧ b s = 40 then pB b n S s else pW b n S s (oword b n wlW s) := rfl
theorem pU_good {S : Option (PO → CO × PO)} {D : Nat} (hS : ∀ F, S = some F → pGood n F D) : pGood n (pU b n S) (D + 1) := by
  refine ⟨fun e => rfl, fun s s' hs h => ?_⟩
  rw [pU_r] at h ⊢
  by_cases h1 : tk b n s = 1
  · rw [if_pos h1] at h ⊢
    have hok := onum_ok (b := b) (n := n) (lo := 0) (hi := 1000) (o := .inr s) (by rw [show (onum b n 0 1000 (.inr s)).2 = .inr s' from h]; rfl)
    have e : s' = nx b n s := by
      have h : (onum b n 0 1000 (.inr s)).2 = .inr s' := h
      unfold onum at h
      rw [onumh_r, if_pos h1] at h
      by_cases h2 : 0 ≤ nv b n s ∧ nv b n s < 1000
      · rw [if_pos h2] at h; cases h; rfl
      · rw [if_neg h2] at h; cases h
    have hp := nx_P (b := b) hs
    have hlt := hp.2.2 (tk_lt (by rw [h1]; decide))
    refine ⟨by omega, by rw [e]; exact hp.1.1, by show 1 + s ≤ s'; omega, fun d hd => ?_⟩
    unfold chk
    rw [if_pos rfl]
    exact ⟨hok.2.1, by omega, rfl⟩
  · rw [if_neg h1] at h ⊢
    by_cases h2 : tk b n s = 3 ∧ b s = 40
    · rw [if_pos h2] at h ⊢
      have hp := nx_P (b := b) hs
      have hlt := hp.2.2 (tk_3 h2.1).1
      cases S with
      | none => cases h
      | some F =>
        have hF := hS F rfl
        obtain ⟨s1, e1, t1, _, e2⟩ := osign_ok (show osign b n 41 (F (.inr (nx b n s))).2 = .inr s' from h)
        obtain ⟨g1, g2, g3, g4⟩ := hF.2 _ s1 hp.1.1 e1
        have hp1 := nx_P (b := b) g2
        have hl1 := hp1.2.2 (tk_3 t1).1
        exact ⟨by omega, by rw [e2]; exact hp1.1.1, by show (F (.inr (nx b n s))).1.length + s ≤ s'; omega, fun d hd => g4 d (by omega)⟩
    · rw [if_neg h2] at h ⊢
      cases hw : oword b n wlW s with
      | none => rw [hw] at h; cases h
      | some w =>
        rw [hw] at h
        have hp := nx_P (b := b) hs
        have hlt := hp.2.2 (tk_lt (by rw [oword_tk hw]; decide))
        have hw12 : w < 12 := by have := (widx_lt hw).2; simpa [wlW] using this
        unfold pW at h ⊢
        dsimp only at h ⊢
        by_cases h10 : w < 10
        · rw [if_pos h10] at h ⊢
          cases h
          refine ⟨hlt, hp.1.1, by show 1 + s ≤ _; omega, fun d hd => ?_⟩
          unfold chk
          rw [if_neg (show ¬ (1 : Nat) = 0 by decide), if_pos rfl]
          exact ⟨h10, by omega, rfl⟩
        · rw [if_neg h10] at h ⊢
          cases S with
          | none => cases h
          | some F =>
            have hF := hS F rfl
            unfold pT at h ⊢
            dsimp only at h ⊢
            obtain ⟨s3, e3, t3, _, e3'⟩ := osign_ok h
            cases o2 : osign b n 44 (F (osign b n 91 (.inr (nx b n s)))).2 with
            | inl e => rw [o2, hF.1] at e3; cases e3
            | inr p2 =>
              obtain ⟨s2, e2, t2, _, e2'⟩ := osign_ok o2
              cases o1 : osign b n 91 (.inr (nx b n s)) with
              | inl e => rw [o1, hF.1] at e2; cases e2
              | inr p1 =>
                obtain ⟨s1, e1, t1, _, e1'⟩ := osign_ok o1
                rw [o1] at e2
                cases e1
                have hp1 := nx_P (b := b) hp.1.1
                have hl1 := hp1.2.2 (tk_3 t1).1
                rw [← e1'] at hp1 hl1
                obtain ⟨a1, a2, a3, a4⟩ := hF.2 _ s2 hp1.1.1 e2
                have hp2 := nx_P (b := b) a2
                have hl2 := hp2.2.2 (tk_3 t2).1
                rw [← e2'] at hp2 hl2
                rw [o2] at e3
                obtain ⟨b1, b2, b3, b4⟩ := hF.2 _ s3 hp2.1.1 e3
                have hp3 := nx_P (b := b) b2
                have hl3 := hp3.2.2 (tk_3 t3).1
                rw [← e3'] at hp3 hl3
                refine ⟨by omega, hp3.1.1, ?_, fun d hd => ?_⟩
                · rw [List.length_append, List.length_append]
                  show _ + (_ + 1) + s ≤ s'
                  omega
                · refine chk_app _ _ d (d + 1) _ (a4 d (by omega)) (chk_app _ _ (d + 1) (d + 2) _ (b4 (d + 1) (by omega)) ?_)
                  exact chk_op (a := w - 4) (d := d + 2) (by omega) (by omega) (by omega)
theorem ploop_inl {F : PO → CO × PO} {op : Nat → Option Nat} {k : Nat} {cs : CO} {e : Nat × Nat} : ploop b n F op k (cs, .inl e) = (cs, .inl e) := by cases k <;> rfl
theorem ploop_good {F : PO → CO × PO} {op : Nat → Option Nat} {D : Nat} (hF : pGood n F D) (hop : ∀ s a, op s = some a → s < n ∧ 2 ≤ a ∧ a ≤ 8) : ∀ (k : Nat) (cs : CO) (o : PO) (s0 s' : Nat), (∀ s, o = .inr s → s0 < s ∧ s ≤ n ∧ cs.length + s0 ≤ s ∧ ∀ d, d + (D + 1) ≤ 32 → chk cs d (d + 1)) → (ploop b n F op k (cs, o)).2 = .inr s' → s0 < s' ∧ s' ≤ n ∧ (ploop b n F op k (cs, o)).1.length + s0 ≤ s' ∧ ∀ d, d + (D + 1) ≤ 32 → chk (ploop b n F op k (cs, o)).1 d (d + 1)
  | 0, cs, o, s0, s', hh, h => hh s' h
  | k + 1, cs, o, s0, s', hh, h => by
    cases o with
    | inl e => cases h
    | inr s =>
      unfold ploop at h ⊢
      dsimp only at h ⊢
      cases ho : op s with
      | none =>
        rw [ho] at h
        exact hh s' h
      | some a =>
        rw [ho] at h
        have hs := hop s a ho
        obtain ⟨q1, q2, q3, q4⟩ := hh s rfl
        have hp := nx_P (b := b) q2
        have hlt := hp.2.2 hs.1
        refine ploop_good hF hop k _ _ s0 s' (fun s2 e2 => ?_) h
        obtain ⟨r1, r2, r3, r4⟩ := hF.2 _ s2 hp.1.1 e2
        refine ⟨by omega, r2, ?_, fun d hd => ?_⟩
        · rw [List.length_append, List.length_append]
          show _ + (_ + 1) + s0 ≤ s2
          omega
        · refine chk_app _ _ d (d + 1) _ (q4 d hd) (chk_app _ _ (d + 1) (d + 2) _ (r4 (d + 1) (by omega)) ?_)
          exact chk_op (d := d + 2) hs.2.1 hs.2.2 (by omega)
theorem pP_good {S : Option (PO → CO × PO)} {D : Nat} (h : pGood n (pU b n S) D) : pGood n (pP b n S) (D + 1) := by
  refine ⟨fun e => ?_, fun s s' hs hh => ?_⟩
  · show ploop b n _ _ 150 (pU b n S (.inl e)) = _
    rw [h.1, ploop_inl]
  · refine ploop_good h (fun s a q => isTi_ok q) 150 (pU b n S (.inr s)).1 (pU b n S (.inr s)).2 s s' (fun s2 e2 => ?_) hh
    obtain ⟨r1, r2, r3, r4⟩ := h.2 s s2 hs e2
    exact ⟨r1, r2, r3, fun d hd => r4 d (by omega)⟩
theorem pS_good {S : Option (PO → CO × PO)} {D : Nat} (h : pGood n (pP b n S) D) : pGood n (pS b n S) (D + 1) := by
  refine ⟨fun e => ?_, fun s s' hs hh => ?_⟩
  · show ploop b n _ _ 150 (pP b n S (.inl e)) = _
    rw [h.1, ploop_inl]
  · refine ploop_good h (fun s a q => isPl_ok q) 150 (pP b n S (.inr s)).1 (pP b n S (.inr s)).2 s s' (fun s2 e2 => ?_) hh
    obtain ⟨r1, r2, r3, r4⟩ := h.2 s s2 hs e2
    exact ⟨r1, r2, r3, fun d hd => r4 d (by omega)⟩
theorem pSub_good : ∀ (g : Nat) (F : PO → CO × PO), pSub b n g = some F → pGood n F (3 * g)
  | 0, F, h => by cases h
  | g + 1, F, h => by
    cases h
    have h1 := pU_good (b := b) (S := pSub b n g) (D := 3 * g) (fun F hF => pSub_good g F hF)
    have h2 := pS_good (pP_good h1)
    exact h2
end LPG
