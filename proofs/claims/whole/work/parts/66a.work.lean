/-! ===== L2: a work's text: what is read ===== -/
theorem oword_get {b : Nat → Int32} {n s w : Nat} {ws : List (List Int32)} (h : oword b n ws s = some w) : isW b n s (ws.getD w []) = true := by
  have key : ∀ (ws : List (List Int32)) (j : Nat), widx (isW b n s) ws j = some w → isW b n s (ws.getD (w - j) []) = true := by
    intro ws
    induction ws with
    | nil => intro j q; cases q
    | cons v ws ih =>
      intro j q
      unfold widx at q
      by_cases hv : isW b n s v = true
      · rw [if_pos hv] at q
        cases q
        rw [Nat.sub_self]
        exact hv
      · rw [if_neg hv] at q
        have hj := (widx_lt q).1
        have := ih (j + 1) q
        rw [show w - j = (w - (j + 1)) + 1 by omega]
        exact this
  exact key ws 0 h
theorem isW_te {b : Nat → Int32} {n s : Nat} {w : List Int32} (h : isW b n s w = true) : te b n s = s + w.length := by
  unfold isW isWg at h
  exact (decide_eq_true_eq.mp h).2.1
def dwW : List (List Int32) := [[109, 111, 118, 101], [115, 99, 104, 111, 111, 108], [102, 108, 121], [118, 111, 116, 101], [121, 101, 97, 114], [97, 103, 97, 105, 110]]
theorem dw_3 {b : Nat → Int32} {n s w : Nat} (hs : s ≤ n) (h : oword b n dwW s = some w) : w < 6 ∧ s + 3 ≤ te b n s ∧ te b n s ≤ nx b n s ∧ nx b n s ≤ n ∧ s < n := by
  have hw : w < 6 := by have := (widx_lt h).2; simpa [dwW] using this
  have h1 := isW_te (oword_get h)
  have h3 : ∀ w, w < 6 → 3 ≤ (dwW.getD w []).length := by decide +kernel
  have := h3 w hw
  have h2 := te_n (b := b) hs
  have h4 := sk_P (b := b) (n := n) (i := te b n s) h2.1
  have h5 : s < n := tk_lt (by rw [oword_tk h]; decide)
  exact ⟨hw, by omega, h4.2, h4.1.1, h5⟩
/-- a program that is being read, and how many steps it has -/
abbrev PZ : Type := PG × Nat
def zpush (z : PZ) (k a c : Nat) (t : Int32) : PZ := ((updN z.1.1 z.2 k, updN z.1.2.1 z.2 a, updN z.1.2.2.1 z.2 c, upd z.1.2.2.2 z.2 t), z.2 + 1)
def zsec (z : PZ) (i c : Nat) : PZ := ((z.1.1, z.1.2.1, updN z.1.2.2.1 i c, z.1.2.2.2), z.2)
section WP
variable (b : Nat → Int32) (n N : Nat)
def wloop (stop : Nat → Bool) (St : PZ → Nat → PZ × PO) : Nat → PZ × PO → PZ × PO
  | 0, r => r
  | k + 1, r => match r.2 with
    | .inl _ => r
    | .inr s => if stop s = true then r else wloop stop St k (St r.1 s)
def pagain (S : Option (PZ × PO → PZ × PO)) (z : PZ) (s : Nat) : PZ × PO := match S with
  | none => (z, .inl (3, s))
  | some F => (zsec (F (zpush z 5 (onum b n 0 31 (.inr (nx b n s))).1 0 0, osign b n 91 (onum b n 0 31 (.inr (nx b n s))).2)).1 z.2 (F (zpush z 5 (onum b n 0 31 (.inr (nx b n s))).1 0 0, osign b n 91 (onum b n 0 31 (.inr (nx b n s))).2)).1.2, osign b n 59 (osign b n 93 (F (zpush z 5 (onum b n 0 31 (.inr (nx b n s))).1 0 0, osign b n 91 (onum b n 0 31 (.inr (nx b n s))).2)).2))
def pmove (z : PZ) (o : PO) : PZ × PO := (zpush z 0 (onum b n 0 N o).1 (onum b n 0 N (onum b n 0 N o).2).1 (nI (onum b n 1 100 (onum b n 0 N (onum b n 0 N o).2).2).1), osign b n 59 (onum b n 1 100 (onum b n 0 N (onum b n 0 N o).2).2).2)
def pschool (z : PZ) (o : PO) : PZ × PO := (zpush z 1 (onum b n 0 N o).1 0 0, osign b n 59 (onum b n 0 N o).2)
def pstepW (S : Option (PZ × PO → PZ × PO)) (z : PZ) (s : Nat) (w : Nat) : PZ × PO := if w = 0 then pmove b n N z (.inr (nx b n s)) else if w = 1 then pschool b n N z (.inr (nx b n s)) else if w = 5 then pagain b n S z s else (zpush z w 0 0 0, osign b n 59 (.inr (nx b n s)))
def pstep (S : Option (PZ × PO → PZ × PO)) (z : PZ) (s : Nat) : PZ × PO := match oword b n dwW s with
  | none => (z, .inl (1, s))
  | some w => pstepW b n N S z s w
def stopH (s : Nat) : Bool := decide (tk b n s = 3 ∧ b s = 93)
def stopE (s : Nat) : Bool := decide (n ≤ s)
def wSub : Nat → Option (PZ × PO → PZ × PO)
  | 0 => none
  | g + 1 => some (wloop (stopH b n) (pstep b n N (wSub g)) 150)
def pwork (o : PO) : PZ × PO := wloop (stopE n) (pstep b n N (wSub b n N 6)) 150 ((((fun _ => 0), (fun _ => 0), (fun _ => 0), fun _ => 0), 0), o)
end WP
-- well-formed programs
def agr (g g' : PG) (i : Nat) : Prop := g.1 i = g'.1 i ∧ g.2.1 i = g'.2.1 i ∧ g.2.2.1 i = g'.2.2.1 i ∧ g.2.2.2 i = g'.2.2.2 i
theorem pwf_up {n : Nat} {g : PG} : ∀ (f dep i to : Nat), pwf n g f dep i to → pwf n g (f + 1) dep i to
  | 0, dep, i, to, h => by unfold pwf; exact Or.inl h
  | f + 1, dep, i, to, h => by
    unfold pwf at h ⊢
    rcases h with h | ⟨h1, ⟨a1, a2, a3, a4, a5, a6, a7⟩ | ⟨a1, a2, a3, a4⟩⟩
    · exact Or.inl h
    · exact Or.inr ⟨h1, Or.inl ⟨a1, a2, a3, a4, a5, pwf_up f _ _ _ a6, pwf_up f _ _ _ a7⟩⟩
    · exact Or.inr ⟨h1, Or.inr ⟨a1, a2, a3, pwf_up f _ _ _ a4⟩⟩
theorem pwf_le {n : Nat} {g : PG} {f f' dep i to : Nat} (h : pwf n g f dep i to) (hf : f ≤ f') : pwf n g f' dep i to := by
  obtain ⟨k, rfl⟩ : ∃ k, f' = f + k := ⟨f' - f, by omega⟩
  induction k with
  | zero => exact h
  | succ k ih => exact pwf_up _ _ _ _ (ih (by omega))
theorem pwf_lt {n : Nat} {g : PG} : ∀ (f dep i to : Nat), pwf n g f dep i to → i ≤ to
  | 0, _, i, to, h => by have h : i = to := h; omega
  | f + 1, _, i, to, h => by
    unfold pwf at h
    rcases h with h | ⟨h1, _⟩ <;> omega
theorem pwf_app {n : Nat} {g : PG} : ∀ (f f' dep i j to : Nat), pwf n g f dep i j → pwf n g f' dep j to → pwf n g (f + f') dep i to
  | 0, f', dep, i, j, to, h, k => by rw [show i = j from h]; exact pwf_le k (by omega)
  | f + 1, f', dep, i, j, to, h, k => by
    have hjt := pwf_lt _ _ _ _ k
    unfold pwf at h
    rcases h with h | ⟨h1, ⟨a1, a2, a3, a4, a5, a6, a7⟩ | ⟨a1, a2, a3, a4⟩⟩
    · rw [h]; exact pwf_le k (by omega)
    · rw [show f + 1 + f' = (f + f') + 1 by omega]
      unfold pwf
      exact Or.inr ⟨by omega, Or.inl ⟨a1, a2, a3, a4, by omega, pwf_le a6 (by omega), pwf_app f f' dep _ j to a7 k⟩⟩
    · rw [show f + 1 + f' = (f + f') + 1 by omega]
      unfold pwf
      exact Or.inr ⟨by omega, Or.inr ⟨a1, a2, a3, pwf_app f f' dep _ j to a4 k⟩⟩
theorem pwf_agr {n : Nat} {g g' : PG} : ∀ (f dep i to : Nat), (∀ j, i ≤ j → j < to → agr g g' j) → pwf n g f dep i to → pwf n g' f dep i to
  | 0, _, _, _, _, h => h
  | f + 1, dep, i, to, ha, h => by
    unfold pwf at h ⊢
    rcases h with h | ⟨h1, ⟨a1, a2, a3, a4, a5, a6, a7⟩ | ⟨a1, a2, a3, a4⟩⟩
    · exact Or.inl h
    · obtain ⟨e1, e2, e3, e4⟩ := ha i (Nat.le_refl _) h1
      refine Or.inr ⟨h1, Or.inl ⟨by rw [← e1]; exact a1, a2, by rw [← e2]; exact a3, by rw [← e3]; exact a4, by rw [← e3]; exact a5, ?_, ?_⟩⟩
      · rw [← e3]; exact pwf_agr f _ _ _ (fun j h1 h2 => ha j (by omega) (by omega)) a6
      · rw [← e3]; exact pwf_agr f _ _ _ (fun j h1 h2 => ha j (by omega) (by omega)) a7
    · obtain ⟨e1, e2, e3, e4⟩ := ha i (Nat.le_refl _) h1
      refine Or.inr ⟨h1, Or.inr ⟨by rw [← e1]; exact a1, by rw [← e1, ← e2]; exact a2, by rw [← e1, ← e3]; exact a3, ?_⟩⟩
      exact pwf_agr f _ _ _ (fun j h1 h2 => ha j (by omega) (by omega)) a4
def pwfE (N : Nat) (g : PG) (dep i to : Nat) : Prop := ∃ f, pwf N g f dep i to
/-- a reader of one step -/
def wGood (n N g : Nat) (St : PZ → Nat → PZ × PO) : Prop := ∀ z s s', s ≤ n → 4 * z.2 ≤ s → (St z s).2 = .inr s' → s + 4 ≤ s' ∧ s' ≤ n ∧ 4 * (St z s).1.2 ≤ s' ∧ z.2 < (St z s).1.2 ∧ (∀ i, i < z.2 → agr z.1 (St z s).1.1 i) ∧ pwfE N (St z s).1.1 g z.2 (St z s).1.2
/-- a reader of some -/
def wGoodL (n N g : Nat) (F : PZ × PO → PZ × PO) : Prop := (∀ z e, F (z, .inl e) = (z, .inl e)) ∧ ∀ z s s', s ≤ n → 4 * z.2 ≤ s → (F (z, .inr s)).2 = .inr s' → s ≤ s' ∧ s' ≤ n ∧ 4 * (F (z, .inr s)).1.2 ≤ s' ∧ z.2 ≤ (F (z, .inr s)).1.2 ∧ (∀ i, i < z.2 → agr z.1 (F (z, .inr s)).1.1 i) ∧ pwfE N (F (z, .inr s)).1.1 g z.2 (F (z, .inr s)).1.2
theorem agr_r {g : PG} {i : Nat} : agr g g i := ⟨rfl, rfl, rfl, rfl⟩
theorem agr_t {g g' g'' : PG} {i : Nat} (h : agr g g' i) (k : agr g' g'' i) : agr g g'' i := ⟨h.1.trans k.1, h.2.1.trans k.2.1, h.2.2.1.trans k.2.2.1, h.2.2.2.trans k.2.2.2⟩
theorem agr_push {z : PZ} {k a c i : Nat} {t : Int32} (h : i < z.2) : agr z.1 (zpush z k a c t).1 i := by
  refine ⟨?_, ?_, ?_, ?_⟩
  · show _ = updN z.1.1 z.2 k i; rw [updN_n (by omega)]
  · show _ = updN z.1.2.1 z.2 a i; rw [updN_n (by omega)]
  · show _ = updN z.1.2.2.1 z.2 c i; rw [updN_n (by omega)]
  · show _ = upd z.1.2.2.2 z.2 t i; rw [upd_ne (by omega)]
theorem agr_sec {z : PZ} {i j c : Nat} (h : i ≠ j) : agr z.1 (zsec z j c).1 i := by
  refine ⟨rfl, rfl, ?_, rfl⟩
  show _ = updN z.1.2.2.1 j c i
  rw [updN_n h]
section WPG
variable {b : Nat → Int32} {n N : Nat}
theorem wloop_inl {stop : Nat → Bool} {St : PZ → Nat → PZ × PO} {k : Nat} {z : PZ} {e : Nat × Nat} : wloop stop St k (z, .inl e) = (z, .inl e) := by cases k <;> rfl
theorem wloop_r {stop : Nat → Bool} {St : PZ → Nat → PZ × PO} {k s : Nat} {z : PZ} : wloop stop St (k + 1) (z, .inr s) = if stop s = true then (z, .inr s) else wloop stop St k (St z s) := rfl
theorem wloop_good {stop : Nat → Bool} {St : PZ → Nat → PZ × PO} {g : Nat} (h : wGood n N g St) : ∀ k, wGoodL n N g (wloop stop St k)
  | 0 => ⟨fun _ _ => rfl, fun z s s' hs hz e => by
    cases e
    exact ⟨Nat.le_refl _, hs, hz, Nat.le_refl _, fun _ _ => agr_r, ⟨0, rfl⟩⟩⟩
  | k + 1 => by
    refine ⟨fun _ _ => rfl, fun z s s' hs hz e => ?_⟩
    rw [wloop_r] at e ⊢
    by_cases hst : stop s = true
    · rw [if_pos hst] at e ⊢
      cases e
      exact ⟨Nat.le_refl _, hs, hz, Nat.le_refl _, fun _ _ => agr_r, ⟨0, rfl⟩⟩
    · rw [if_neg hst] at e ⊢
      have hl := wloop_good (stop := stop) h k
      cases ho : (St z s).2 with
      | inl er =>
        rw [show St z s = ((St z s).1, (St z s).2) from rfl, ho, hl.1] at e
        cases e
      | inr s1 =>
        obtain ⟨a1, a2, a3, a4, a5, f1, a6⟩ := h z s s1 hs hz ho
        rw [show St z s = ((St z s).1, (St z s).2) from rfl, ho] at e ⊢
        obtain ⟨b1, b2, b3, b4, b5, f2, b6⟩ := hl.2 _ s1 s' a2 a3 e
        refine ⟨by omega, b2, b3, by omega, fun i hi => agr_t (a5 i hi) (b5 i (by omega)), f1 + f2, ?_⟩
        refine pwf_app f1 f2 g _ _ _ (pwf_agr f1 g _ _ (fun j h1 h2 => b5 j h2) a6) b6
theorem onum_pos {lo hi s s' : Nat} (hs : s ≤ n) (h : (onum b n lo hi (.inr s)).2 = .inr s') : s < s' ∧ s' ≤ n ∧ lo ≤ (onum b n lo hi (.inr s)).1 ∧ (onum b n lo hi (.inr s)).1 < hi := by
  have hok := onum_ok (b := b) (n := n) (lo := lo) (hi := hi) (o := .inr s) (by rw [h]; rfl)
  have h1 : tk b n s = 1 := by
    unfold onum at h
    rw [onumh_r] at h
    by_cases h1 : tk b n s = 1
    · exact h1
    · rw [if_neg h1] at h; cases h
  have e : s' = nx b n s := by
    unfold onum at h
    rw [onumh_r, if_pos h1] at h
    by_cases h2 : lo ≤ nv b n s ∧ nv b n s < hi
    · rw [if_pos h2] at h; cases h; rfl
    · rw [if_neg h2] at h; cases h
  have hp := nx_P (b := b) hs
  have hlt := hp.2.2 (tk_lt (by rw [h1]; decide))
  exact ⟨by omega, by rw [e]; exact hp.1.1, hok.1, hok.2.1⟩
theorem onum_in {lo hi s' : Nat} {o : PO} (h : (onum b n lo hi o).2 = .inr s') : ∃ s, o = .inr s := by
  cases o with
  | inl e => cases h
  | inr s => exact ⟨s, rfl⟩
theorem pwf_1 {g : PG} {dep i : Nat} (h4 : g.1 i ≤ 4) (h1 : g.1 i ≤ 1 → g.2.1 i < N) (h0 : g.1 i = 0 → g.2.2.1 i < N) : pwfE N g dep i (i + 1) := ⟨1, Or.inr ⟨by omega, Or.inr ⟨h4, h1, h0, rfl⟩⟩⟩
theorem pstep_good {S : Option (PZ × PO → PZ × PO)} {g : Nat} (hS : ∀ F, S = some F → 1 ≤ g ∧ wGoodL n N (g - 1) F) : wGood n N g (pstep b n N S) := by
  intro z s s' hs hz h
  unfold pstep at h ⊢
  cases hw : oword b n dwW s with
  | none => rw [hw] at h; cases h
  | some w =>
    rw [hw] at h
    obtain ⟨w6, t3, t4, t5, t6⟩ := dw_3 hs hw
    dsimp only at h ⊢
    unfold pstepW at h ⊢
    by_cases w0 : w = 0
    · rw [if_pos w0] at h ⊢
      unfold pmove at h ⊢
      dsimp only at h ⊢
      obtain ⟨s3, e3, k3, _, e3'⟩ := osign_ok h
      obtain ⟨s2, e2⟩ := onum_in e3
      obtain ⟨s1, e1⟩ := onum_in e2
      rw [e1] at e2
      rw [e1, e2] at e3
      have p1 := onum_pos t5 e1
      have p2 := onum_pos p1.2.1 e2
      have p3 := onum_pos p2.2.1 e3
      have hp := nx_P (b := b) p3.2.1
      have hl := hp.2.2 (tk_3 k3).1
      rw [e1]
      refine ⟨by omega, by rw [e3']; exact hp.1.1, by show 4 * (z.2 + 1) ≤ s'; omega, Nat.lt_succ_self _, fun i hi => agr_push hi, ?_⟩
      refine pwf_1 (by show updN _ z.2 0 z.2 ≤ 4; rw [updN_s]; omega) (fun _ => ?_) (fun _ => ?_)
      · show updN _ z.2 _ z.2 < N; rw [updN_s]; exact p1.2.2.2
      · show updN _ z.2 _ z.2 < N; rw [updN_s]; exact p2.2.2.2
    · rw [if_neg w0] at h ⊢
      by_cases w1 : w = 1
      · rw [if_pos w1] at h ⊢
        unfold pschool at h ⊢
        dsimp only at h ⊢
        obtain ⟨s3, e3, k3, _, e3'⟩ := osign_ok h
        have p1 := onum_pos t5 e3
        have hp := nx_P (b := b) p1.2.1
        have hl := hp.2.2 (tk_3 k3).1
        refine ⟨by omega, by rw [e3']; exact hp.1.1, by show 4 * (z.2 + 1) ≤ s'; omega, Nat.lt_succ_self _, fun i hi => agr_push hi, ?_⟩
        refine pwf_1 (by show updN _ z.2 1 z.2 ≤ 4; rw [updN_s]; omega) (fun _ => ?_) (fun q => ?_)
        · show updN _ z.2 _ z.2 < N; rw [updN_s]; exact p1.2.2.2
        · have q : updN z.1.1 z.2 1 z.2 = 0 := q
          rw [updN_s] at q; cases q
      · rw [if_neg w1] at h ⊢
        by_cases w5 : w = 5
        · rw [if_pos w5] at h ⊢
          cases S with
          | none => cases h
          | some F =>
            obtain ⟨hg1, hF⟩ := hS F rfl
            unfold pagain at h ⊢
            dsimp only at h ⊢
            obtain ⟨s4, e4, k4, _, e4'⟩ := osign_ok h
            obtain ⟨s3, e3, k3, _, e3'⟩ := osign_ok e4
            generalize hr1 : onum b n 0 31 (.inr (nx b n s)) = r1 at h e3 e4 ⊢
            cases ho : osign b n 91 r1.2 with
            | inl e => rw [ho, hF.1] at e3; cases e3
            | inr s2 =>
              rw [ho] at e3
              obtain ⟨s1, e1, k1, _, e1'⟩ := osign_ok ho
              have p1 := onum_pos t5 (by rw [hr1]; exact e1)
              rw [hr1] at p1
              have hp1 := nx_P (b := b) p1.2.1
              have hl1 := hp1.2.2 (tk_3 k1).1
              rw [← e1'] at hp1 hl1
              obtain ⟨a1, a2, a3, a4, a5, f1, a6⟩ := hF.2 _ s2 s3 hp1.1.1 (by show 4 * (z.2 + 1) ≤ s2; omega) e3
              have a4 : z.2 + 1 ≤ (F (zpush z 5 r1.1 0 0, .inr s2)).1.2 := a4
              generalize hr2 : F (zpush z 5 r1.1 0 0, .inr s2) = r2 at a3 a4 a5 a6 ⊢
              have hp3 := nx_P (b := b) a2
              have hl3 := hp3.2.2 (tk_3 k3).1
              rw [← e3'] at hp3 hl3
              have hp4 := nx_P (b := b) hp3.1.1
              have hl4 := hp4.2.2 (tk_3 k4).1
              rw [← e4'] at hp4 hl4
              refine ⟨by omega, hp4.1.1, by show 4 * r2.1.2 ≤ s'; omega, by show z.2 < r2.1.2; omega, fun i hi => agr_t (agr_push hi) (agr_t (a5 i (by show i < z.2 + 1; omega)) (agr_sec (by omega))), f1 + 1, ?_⟩
              obtain ⟨c1, c2, c3, c4⟩ := a5 z.2 (by show z.2 < z.2 + 1; omega)
              have c1 : updN z.1.1 z.2 5 z.2 = r2.1.1.1 z.2 := c1
              have c2 : updN z.1.2.1 z.2 r1.1 z.2 = r2.1.1.2.1 z.2 := c2
              rw [updN_s] at c1 c2
              unfold pwf
              refine Or.inr ⟨by show z.2 < r2.1.2; omega, Or.inl ⟨c1.symm, hg1, by show r2.1.1.2.1 z.2 ≤ 30; rw [← c2]; omega, ?_, ?_, ?_, ?_⟩⟩
              · show z.2 + 1 ≤ updN _ z.2 r2.1.2 z.2; rw [updN_s]; omega
              · show updN _ z.2 r2.1.2 z.2 ≤ r2.1.2; rw [updN_s]; omega
              · show pwf N _ f1 (g - 1) (z.2 + 1) (updN _ z.2 r2.1.2 z.2)
                rw [updN_s]
                exact pwf_agr f1 _ _ _ (fun j h1 h2 => agr_sec (by omega)) a6
              · show pwf N _ f1 g (updN _ z.2 r2.1.2 z.2) r2.1.2
                rw [updN_s]
                exact pwf_le (f := 0) rfl (by omega)
        · rw [if_neg w5] at h ⊢
          obtain ⟨s3, e3, k3, _, e3'⟩ := osign_ok (show osign b n 59 (.inr (nx b n s)) = .inr s' from h)
          cases e3
          have hp := nx_P (b := b) t5
          have hl := hp.2.2 (tk_3 k3).1
          refine ⟨by omega, by rw [e3']; exact hp.1.1, by show 4 * (z.2 + 1) ≤ s'; omega, Nat.lt_succ_self _, fun i hi => agr_push hi, ?_⟩
          refine pwf_1 (by show updN _ z.2 w z.2 ≤ 4; rw [updN_s]; omega) (fun q => ?_) (fun q => ?_)
          · have q : updN z.1.1 z.2 w z.2 ≤ 1 := q
            rw [updN_s] at q; omega
          · have q : updN z.1.1 z.2 w z.2 = 0 := q
            rw [updN_s] at q; omega
theorem wSub_good : ∀ (g : Nat) (F : PZ × PO → PZ × PO), wSub b n N g = some F → 1 ≤ g ∧ wGoodL n N (g - 1) F
  | 0, F, h => by cases h
  | g + 1, F, h => by
    cases h
    exact ⟨by omega, wloop_good (pstep_good (fun F hF => wSub_good g F hF)) 150⟩
end WPG
