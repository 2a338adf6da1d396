/-! ===== L2: the lexer as functions of the bytes ===== -/
def spn (p : Int32 → Bool) (b : Nat → Int32) : Nat → Nat → Nat
  | 0, i => i
  | k + 1, i => if p (b i) = true then spn p b k (i + 1) else i
def en (p : Int32 → Bool) (b : Nat → Int32) (n i : Nat) : Nat := spn p b (n - i) i
section LX
variable {p : Int32 → Bool} {b : Nat → Int32} {n i : Nat}
theorem en_ge (h : n ≤ i) : en p b n i = i := by unfold en; rw [show n - i = 0 by omega]; rfl
theorem en_y (h : i < n) (hp : p (b i) = true) : en p b n i = en p b n (i + 1) := by
  unfold en
  rw [show n - i = (n - (i + 1)) + 1 by omega, spn, if_pos hp]
theorem en_no (hp : p (b i) = false) : en p b n i = i := by
  unfold en
  cases hk : n - i with
  | zero => rfl
  | succ k => rw [spn, if_neg (by rw [hp]; decide)]
theorem spn_le : ∀ (k i : Nat), i ≤ spn p b k i ∧ spn p b k i ≤ i + k
  | 0, i => ⟨Nat.le_refl _, Nat.le_refl _⟩
  | k + 1, i => by
    unfold spn
    by_cases h : p (b i) = true
    · rw [if_pos h]; have := spn_le k (i + 1); omega
    · rw [if_neg h]; omega
theorem en_le : i ≤ en p b n i := (spn_le _ _).1
theorem en_n (h : i ≤ n) : en p b n i ≤ n := by have := (spn_le (p := p) (b := b) (n - i) i).2; unfold en; omega
theorem spn_in : ∀ (k i j : Nat), i ≤ j → j < spn p b k i → p (b j) = true
  | 0, i, j, h1, h2 => by unfold spn at h2; omega
  | k + 1, i, j, h1, h2 => by
    unfold spn at h2
    by_cases h : p (b i) = true
    · rw [if_pos h] at h2
      by_cases hj : j = i
      · rw [hj]; exact h
      · exact spn_in k (i + 1) j (by omega) h2
    · rw [if_neg h] at h2; omega
theorem en_in {j : Nat} (h1 : i ≤ j) (h2 : j < en p b n i) : p (b j) = true := spn_in _ _ _ h1 h2
theorem spn_out : ∀ (k i : Nat), spn p b k i < i + k → p (b (spn p b k i)) = false
  | 0, i, h => by unfold spn at h; omega
  | k + 1, i, h => by
    unfold spn at h ⊢
    by_cases hp : p (b i) = true
    · rw [if_pos hp] at h ⊢; exact spn_out k (i + 1) (by omega)
    · rw [if_neg hp]; simpa using hp
theorem en_out (hi : i ≤ n) (h : en p b n i < n) : p (b (en p b n i)) = false := spn_out _ _ (by unfold en at h; omega)
end LX
def bl (c : Int32) : Bool := decide (c = 32)
def dg (c : Int32) : Bool := !decide (c < 48) && !decide (57 < c)
def sm (c : Int32) : Bool := !decide (c < 97) && !decide (122 < c)
theorem dg_t {c : Int32} : dg c = true ↔ ¬ c < 48 ∧ ¬ 57 < c := by unfold dg; simp
theorem sm_t {c : Int32} : sm c = true ↔ ¬ c < 97 ∧ ¬ 122 < c := by unfold sm; simp
theorem dg_n {c : Int32} (h : dg c = true) : ∃ k, 48 ≤ k ∧ k ≤ 57 ∧ c = nI k := by
  rw [dg_t] at h
  obtain ⟨h1, h2⟩ := h
  rw [Int32.lt_iff_toInt_lt] at h1 h2
  have e1 : (48 : Int32).toInt = 48 := rfl
  have e2 : (57 : Int32).toInt = 57 := rfl
  obtain ⟨k, hk, rfl⟩ := nI_of2 (M := 57) (n := 57) rfl (x := c) (by rw [Int32.lt_iff_toInt_lt]; have e0 : (0 : Int32).toInt = 0 := rfl; omega) (by rw [Int32.le_iff_toInt_le]; omega)
  rw [nI_toInt (by omega)] at h1
  exact ⟨k, by omega, hk, rfl⟩
theorem sm_n {c : Int32} (h : sm c = true) : ∃ k, 97 ≤ k ∧ k ≤ 122 ∧ c = nI k := by
  rw [sm_t] at h
  obtain ⟨h1, h2⟩ := h
  rw [Int32.lt_iff_toInt_lt] at h1 h2
  have e1 : (97 : Int32).toInt = 97 := rfl
  have e2 : (122 : Int32).toInt = 122 := rfl
  obtain ⟨k, hk, rfl⟩ := nI_of2 (M := 122) (n := 122) rfl (x := c) (by rw [Int32.lt_iff_toInt_lt]; have e0 : (0 : Int32).toInt = 0 := rfl; omega) (by rw [Int32.le_iff_toInt_le]; omega)
  rw [nI_toInt (by omega)] at h1
  exact ⟨k, by omega, hk, rfl⟩
theorem dg_sm {c : Int32} (h : dg c = true) : sm c = false := by
  obtain ⟨k, h1, h2, rfl⟩ := dg_n h
  cases hs : sm (nI k)
  · rfl
  · obtain ⟨j, j1, j2, e⟩ := sm_n hs
    have := (nI_eq (by omega) (by omega)).mp e
    omega
def sk (b : Nat → Int32) (n i : Nat) : Nat := en bl b n i
def tk (b : Nat → Int32) (n s : Nat) : Int32 := if n ≤ s then 0 else if dg (b s) = true then 1 else if sm (b s) = true then 2 else 3
def te (b : Nat → Int32) (n s : Nat) : Nat := if n ≤ s then s else if dg (b s) = true then en dg b n s else if sm (b s) = true then en sm b n s else s + 1
def nx (b : Nat → Int32) (n s : Nat) : Nat := sk b n (te b n s)
def dvl (b : Nat → Int32) (s : Nat) : Nat → Nat
  | 0 => 0
  | k + 1 => 10 * dvl b s k + ((b (s + k)).toNatClampNeg - 48)
def nv (b : Nat → Int32) (n s : Nat) : Nat := dvl b s (en dg b n s - s)
def tkP (b : Nat → Int32) (n s : Nat) : Prop := s ≤ n ∧ (s < n → b s ≠ 32)
section LX2
variable {b : Nat → Int32} {n s : Nat}
theorem te_n (h : s ≤ n) : te b n s ≤ n ∧ s ≤ te b n s ∧ (s < n → s < te b n s) := by
  unfold te
  by_cases h1 : n ≤ s
  · rw [if_pos h1]; omega
  · rw [if_neg h1]
    by_cases h2 : dg (b s) = true
    · rw [if_pos h2, en_y (by omega) h2]
      have := en_le (p := dg) (b := b) (n := n) (i := s + 1)
      have := en_n (p := dg) (b := b) (n := n) (i := s + 1) (by omega)
      omega
    · rw [if_neg h2]
      by_cases h3 : sm (b s) = true
      · rw [if_pos h3, en_y (by omega) h3]
        have := en_le (p := sm) (b := b) (n := n) (i := s + 1)
        have := en_n (p := sm) (b := b) (n := n) (i := s + 1) (by omega)
        omega
      · rw [if_neg h3]; omega
theorem sk_P {i : Nat} (h : i ≤ n) : tkP b n (sk b n i) ∧ i ≤ sk b n i := by
  refine ⟨⟨en_n h, fun h2 q => ?_⟩, en_le⟩
  have := en_out h h2
  rw [show b (en bl b n i) = 32 from q] at this
  exact absurd this (by decide)
theorem nx_P (h : s ≤ n) : tkP b n (nx b n s) ∧ s ≤ nx b n s ∧ (s < n → s < nx b n s) := by
  have h1 := te_n (b := b) h
  have h2 := sk_P (b := b) (n := n) (i := te b n s) h1.1
  exact ⟨h2.1, by unfold nx; omega, fun q => by have := h1.2.2 q; unfold nx; omega⟩
theorem sk_id (h : tkP b n s) : sk b n s = s := by
  by_cases h1 : s < n
  · exact en_no (by unfold bl; exact decide_eq_false (h.2 h1))
  · exact en_ge (by omega)
theorem tk_cases (b : Nat → Int32) (n s : Nat) : (n ≤ s ∧ tk b n s = 0 ∧ te b n s = s) ∨ (s < n ∧ dg (b s) = true ∧ tk b n s = 1 ∧ te b n s = en dg b n s) ∨ (s < n ∧ dg (b s) = false ∧ sm (b s) = true ∧ tk b n s = 2 ∧ te b n s = en sm b n s) ∨ (s < n ∧ dg (b s) = false ∧ sm (b s) = false ∧ tk b n s = 3 ∧ te b n s = s + 1) := by
  unfold tk te
  by_cases h1 : n ≤ s
  · exact Or.inl ⟨h1, by rw [if_pos h1], by rw [if_pos h1]⟩
  · rw [if_neg h1, if_neg h1]
    refine Or.inr ?_
    by_cases h2 : dg (b s) = true
    · exact Or.inl ⟨by omega, h2, by rw [if_pos h2], by rw [if_pos h2]⟩
    · refine Or.inr ?_
      rw [if_neg h2, if_neg h2]
      have h2' : dg (b s) = false := by simpa using h2
      by_cases h3 : sm (b s) = true
      · exact Or.inl ⟨by omega, h2', h3, by rw [if_pos h3], by rw [if_pos h3]⟩
      · exact Or.inr ⟨by omega, h2', by simpa using h3, by rw [if_neg h3], by rw [if_neg h3]⟩
end LX2
/-- a reading: a fault's kind and place, or where the token stands that is next -/
abbrev PO : Type := (Nat × Nat) ⊕ Nat
def ct (b : Nat → Int32) (n s : Nat) (I : Nat → Nat → Int32) : Prop := I 1 2 = nI n ∧ I 1 3 = nI (te b n s) ∧ I 1 4 = nI s ∧ I 1 5 = tk b n s ∧ (tk b n s = 1 → I 1 6 = nI (min 100000 (nv b n s))) ∧ (tk b n s = 3 → I 1 6 = b s) ∧ I 1 7 = 0 ∧ I 1 8 = -1 ∧ tkP b n s
def cS (b : Nat → Int32) (n : Nat) (o : PO) (I : Nat → Nat → Int32) : Prop := match o with
  | .inl e => 1 ≤ e.1 ∧ e.1 ≤ 3 ∧ I 1 7 = nI e.1 ∧ I 1 8 = nI e.2 ∧ ∃ s p, s ≤ 600 ∧ p ≤ 600 ∧ I 1 4 = nI s ∧ I 1 3 = nI p
  | .inr s => ct b n s I
def oadv (b : Nat → Int32) (n : Nat) : PO → PO
  | .inl e => .inl e
  | .inr s => .inr (nx b n s)
def ofail (k : Nat) : PO → PO
  | .inl e => .inl e
  | .inr s => .inl (k, s)
def osign (b : Nat → Int32) (n : Nat) (c : Int32) : PO → PO
  | .inl e => .inl e
  | .inr s => if tk b n s = 3 ∧ b s = c then .inr (nx b n s) else .inl (1, s)
def onumh (b : Nat → Int32) (n lo hi : Nat) : PO → Nat × PO
  | .inl e => (0, .inl e)
  | .inr s => if tk b n s = 1 then (if lo ≤ nv b n s ∧ nv b n s < hi then (nv b n s, .inr s) else (0, .inl (2, s))) else (0, .inl (1, s))
def onum (b : Nat → Int32) (n lo hi : Nat) (o : PO) : Nat × PO := ((onumh b n lo hi o).1, oadv b n (onumh b n lo hi o).2)
theorem osign_r {b : Nat → Int32} {n s : Nat} {c : Int32} : osign b n c (.inr s) = if tk b n s = 3 ∧ b s = c then .inr (nx b n s) else .inl (1, s) := rfl
theorem onumh_r {b : Nat → Int32} {n lo hi s : Nat} : onumh b n lo hi (.inr s) = if tk b n s = 1 then (if lo ≤ nv b n s ∧ nv b n s < hi then (nv b n s, .inr s) else (0, .inl (2, s))) else (0, .inl (1, s)) := rfl
def osnd : PO → Bool
  | .inl _ => false
  | .inr _ => true
def i01 (c : Bool) : Int32 := if c = true then 1 else 0
/-- of the tape alone something changed, and not its length -/
def tT (I I' : Nat → Nat → Int32) : Prop := Fr [1] I I' ∧ I' 1 1 = I 1 1
theorem tT_r {I : Nat → Nat → Int32} : tT I I := ⟨fr_r, rfl⟩
theorem tT_t {I I' I'' : Nat → Nat → Int32} (h : tT I I') (k : tT I' I'') : tT I I'' := ⟨fr_t h.1 k.1, k.2.trans h.2⟩
theorem tT_I {I I' : Nat → Nat → Int32} {f : Nat} {a : Int32} (h : tT I I') (hf : f ≠ 1) : tT I (upI I' 1 f a) := ⟨fr_I h.1 (by simp), by rw [upI_f (Ne.symm hf)]; exact h.2⟩
theorem nI_m1 {w h : Nat} (hw : w < 2 ^ 30) (hh : h < 2 ^ 30) : nI w ≤ nI h - 1 ↔ w < h := by
  have e1 : (nI h - 1).toInt = (h : Int) - 1 := by
    rw [_root_.Jvm.Kit.i32_sub (by rw [nI_toInt (by omega)]; show _ ≤ (h : Int) - 1; omega) (by rw [nI_toInt (by omega)]; show (h : Int) - 1 < _; omega), nI_toInt (by omega)]
    rfl
  rw [Int32.le_iff_toInt_le, e1, nI_toInt (by omega)]
  omega
section L2L
variable {d n : Nat} {Q : gQ} {X : gX} {H : gH} {x : Nat} {P : Nat → Nat} {I A : Nat → Nat → Int32} {b : Nat → Int32} {o : PO}
theorem sp_Tape_sound (hc : cS b n o I) (h : Q (some (.int (i01 (osnd o)))) (gset H x cck P I A)) : meth (d + 1) m_Tape_sound [.ref (x + 1)] (gset H x cck P I A) Q X := by
  have hm := @mo_Tape_sound (meth d) (meth_smono d)
  refine me_Tape_sound (wb_Tape_sound_0 hm ⟨fun c => wb_Tape_sound_12 hm ⟨rfl, ?_⟩, fun c => wb_Tape_sound_12 hm ⟨rfl, ?_⟩⟩)
  · cases o with
    | inl e => exact h
    | inr s => exact absurd hc.2.2.2.2.2.2.1 c
  · cases o with
    | inl e => exact absurd (by rw [hc.2.2.1]; exact nI_ne0 (by have := hc.1; omega) (by have := hc.2.1; omega)) c
    | inr s => exact h
theorem sp_Tape_fail {k : Nat} (hk : 1 ≤ k ∧ k ≤ 3) (hn : n ≤ 600) (hc : cS b n o I) (h : ∀ I', tT I I' → cS b n (ofail k o) I' → Q none (gset H x cck P I' A)) : meth (d + 1) m_Tape_fail [.ref (x + 1), .int (nI k)] (gset H x cck P I A) Q X := by
  have hm := @mo_Tape_fail (meth d) (meth_smono d)
  refine me_Tape_fail (wb_Tape_fail_0 hm ⟨fun c => wb_Tape_fail_20 hm ?_, fun c => wb_Tape_fail_20 hm ?_⟩)
  · cases o with
    | inl e => exact h I tT_r hc
    | inr s => exact absurd hc.2.2.2.2.2.2.1 c
  · cases o with
    | inl e => exact absurd (by rw [hc.2.2.1]; exact nI_ne0 (by have := hc.1; omega) (by have := hc.2.1; omega)) c
    | inr s =>
      obtain ⟨h2, h3, h4, h5, h6, h6', h7, h8, hp⟩ := hc
      have ht := (te_n (b := b) hp.1).1
      refine h _ (tT_I (tT_I tT_r (by decide)) (by decide)) ⟨hk.1, hk.2, by rw [upI_f (by decide), upI_s], by rw [upI_s, h4], s, te b n s, by have := hp.1; omega, by omega, by rw [upI_f (by decide), upI_f (by decide), h4], by rw [upI_f (by decide), upI_f (by decide), h3]⟩
/-- the scans of advance -/
theorem adv_8 (hn : n ≤ 600) (hA : A 2 = b) (h2 : I 1 2 = nI n) : ∀ (k i : Nat), n - i = k → i ≤ n → gWp (gTab (tb_Tape_advance (meth d))) Q X 46 [some (.ref (x + 1))] [] (gset H x cck P (upI I 1 3 (nI (sk b n i))) A) → gWp (gTab (tb_Tape_advance (meth d))) Q X 8 [some (.ref (x + 1))] [] (gset H x cck P (upI I 1 3 (nI i)) A) := by
  have hm := @mo_Tape_advance (meth d) (meth_smono d)
  intro k
  induction k with
  | zero =>
    intro i hk hi h
    rw [show sk b n i = i from en_ge (by omega)] at h
    refine wb_Tape_advance_8 hm ⟨fun _ => h, fun c => absurd (by rw [upI_f (by decide), h2, upI_s]; exact nI_le (by omega) (by omega)) c⟩
  | succ k ih =>
    intro i hk hi h
    refine wb_Tape_advance_8 hm ⟨fun _ => ?_, fun _ => ⟨by rw [upI_s]; exact vp_in_nI (by omega) (by omega), ?_⟩⟩
    · rename_i c
      rw [upI_f (by decide), h2, upI_s] at c
      exact absurd c (nI_ge (by omega) (by omega))
    · rw [upI_s, upI_I, nI_clamp (by omega), hA, nI_1]
      refine ⟨fun c => ?_, fun c => ?_⟩
      · rw [show sk b n i = i from en_no (by unfold bl; exact decide_eq_false c)] at h
        exact h
      · refine ih (i + 1) (by omega) (by omega) ?_
        rw [show sk b n i = sk b n (i + 1) from en_y (by omega) (by unfold bl; exact decide_eq_true (Classical.not_not.mp c))] at h
        exact h
theorem dvl_s (s k : Nat) {c : Nat} (hc : b (s + k) = nI c) (h48 : 48 ≤ c) (h57 : c ≤ 57) : gmin 100000 (nI (min 100000 (dvl b s k)) * 10 + b (s + k) - 48) = nI (min 100000 (dvl b s (k + 1))) := by
  have e1 : nI (min 100000 (dvl b s k)) * 10 = nI (min 100000 (dvl b s k) * 10) := pk_mul _ 10
  have e2 : dvl b s (k + 1) = 10 * dvl b s k + (c - 48) := by rw [dvl, hc, nI_clamp (by omega)]
  rw [hc, e1, nI_add, show (48 : Int32) = nI 48 from rfl, nI_sub (by omega), show (100000 : Int32) = nI 100000 from rfl, gmin_n (by omega) (by omega), e2]
  congr 1
  omega
/-- digits: from s, k of them passed -/
theorem adv_59 (hn : n ≤ 600) (hA : A 2 = b) (s : Nat) : ∀ (m k : Nat) (J : Nat → Nat → Int32), n - (s + k) = m → s + k ≤ n → (∀ j, s ≤ j → j < s + k → dg (b j) = true) → tT I J → J 1 2 = nI n → J 1 3 = nI (s + k) → J 1 4 = nI s → J 1 7 = 0 → J 1 8 = -1 → J 1 6 = nI (min 100000 (dvl b s k)) → (0 < k → J 1 5 = 1) →
    (∀ J' e, tT I J' → e = en dg b n s → J' 1 2 = nI n → J' 1 3 = nI e → J' 1 4 = nI s → J' 1 7 = 0 → J' 1 8 = -1 → J' 1 6 = nI (min 100000 (nv b n s)) → (s < e → J' 1 5 = 1) → gWp (gTab (tb_Tape_advance (meth d))) Q X 145 [some (.ref (x + 1))] [] (gset H x cck P J' A)) → gWp (gTab (tb_Tape_advance (meth d))) Q X 59 [some (.ref (x + 1))] [] (gset H x cck P J A) := by
  have hm := @mo_Tape_advance (meth d) (meth_smono d)
  have hen : ∀ k, s + k ≤ n → (∀ j, s ≤ j → j < s + k → dg (b j) = true) → en dg b n s = en dg b n (s + k) := by
    intro k
    induction k with
    | zero => intro _ _; rfl
    | succ k ih => intro h1 h2; rw [ih (by omega) (fun j a b => h2 j a (by omega)), en_y (by omega) (h2 (s + k) (by omega) (by omega))]; rfl
  intro m
  induction m with
  | zero =>
    intro k J hk hi hd hT j2 j3 j4 j7 j8 j6 j5 h
    have he : en dg b n s = s + k := by rw [hen k hi hd]; exact en_ge (by omega)
    refine wb_Tape_advance_59 hm ⟨fun _ => h J (s + k) hT he.symm j2 j3 j4 j7 j8 (by unfold nv; rw [he, Nat.add_sub_cancel_left]; exact j6) (fun q => j5 (by omega)), fun c => absurd (by rw [j2, j3]; exact nI_le (by omega) (by omega)) c⟩
  | succ m ih =>
    intro k J hk hi hd hT j2 j3 j4 j7 j8 j6 j5 h
    have hv : vp_in (J 1 3) 600 := by rw [j3]; exact vp_in_nI (by omega) (by omega)
    have stop : dg (b (s + k)) = false → gWp (gTab (tb_Tape_advance (meth d))) Q X 145 [some (.ref (x + 1))] [] (gset H x cck P J A) := by
      intro hq
      have he : en dg b n s = s + k := by rw [hen k hi hd]; exact en_no hq
      exact h J (s + k) hT he.symm j2 j3 j4 j7 j8 (by unfold nv; rw [he, Nat.add_sub_cancel_left]; exact j6) (fun q => j5 (by omega))
    have hval : A 2 (J 1 3).toNatClampNeg = b (s + k) := by rw [j3, nI_clamp (by omega), hA]
    refine wb_Tape_advance_59 hm ⟨fun c => absurd (by rw [j2, j3] at c; exact c) (nI_ge (by omega) (by omega)), fun _ => ⟨hv, ?_⟩⟩
    rw [hval]
    refine ⟨fun c => stop (by unfold dg; rw [decide_eq_true c]; rfl), fun c1 => ⟨hv, fun c => stop (by unfold dg; rw [decide_eq_true c]; simp), fun c2 => ⟨hv, ?_⟩⟩⟩
    have hdg : dg (b (s + k)) = true := dg_t.mpr ⟨c1, c2⟩
    obtain ⟨c, h48, h57, hc⟩ := dg_n hdg
    rw [j6, dvl_s s k hc h48 h57, j3, nI_1]
    refine ih (k + 1) _ (by omega) (by omega) (fun j q1 q2 => ?_) (tT_I (tT_I (tT_I hT (by decide)) (by decide)) (by decide)) ?_ ?_ ?_ ?_ ?_ ?_ ?_ h
    · by_cases hj : j = s + k
      · rw [hj]; exact hdg
      · exact hd j q1 (by omega)
    · rw [upI_f (by decide), upI_f (by decide), upI_f (by decide), j2]
    · rw [upI_s]; rfl
    · rw [upI_f (by decide), upI_f (by decide), upI_f (by decide), j4]
    · rw [upI_f (by decide), upI_f (by decide), upI_f (by decide), j7]
    · rw [upI_f (by decide), upI_f (by decide), upI_f (by decide), j8]
    · rw [upI_f (by decide), upI_s]
    · intro _; rw [upI_f (by decide), upI_f (by decide), upI_s]
theorem adv_157 (hn : n ≤ 600) (hA : A 2 = b) (s : Nat) : ∀ (m i : Nat) (J : Nat → Nat → Int32), n - i = m → i ≤ n → s ≤ i → en sm b n s = en sm b n i → tT I J → J 1 2 = nI n → J 1 3 = nI i → J 1 4 = nI s → J 1 7 = 0 → J 1 8 = -1 → (s < i → J 1 5 = 2) →
    (∀ J' e, tT I J' → e = en sm b n s → J' 1 2 = nI n → J' 1 3 = nI e → J' 1 4 = nI s → J' 1 7 = 0 → J' 1 8 = -1 → (s < e → J' 1 5 = 2) → gWp (gTab (tb_Tape_advance (meth d))) Q X 214 [some (.ref (x + 1))] [] (gset H x cck P J' A)) → gWp (gTab (tb_Tape_advance (meth d))) Q X 157 [some (.ref (x + 1))] [] (gset H x cck P J A) := by
  have hm := @mo_Tape_advance (meth d) (meth_smono d)
  intro m
  induction m with
  | zero =>
    intro i J hk hi hs he hT j2 j3 j4 j7 j8 j5 h
    have he2 : en sm b n s = i := by rw [he]; exact en_ge (by omega)
    refine wb_Tape_advance_157 hm ⟨fun _ => h J i hT he2.symm j2 j3 j4 j7 j8 j5, fun c => absurd (by rw [j2, j3]; exact nI_le (by omega) (by omega)) c⟩
  | succ m ih =>
    intro i J hk hi hs he hT j2 j3 j4 j7 j8 j5 h
    have hv : vp_in (J 1 3) 600 := by rw [j3]; exact vp_in_nI (by omega) (by omega)
    have stop : sm (b i) = false → gWp (gTab (tb_Tape_advance (meth d))) Q X 214 [some (.ref (x + 1))] [] (gset H x cck P J A) := by
      intro hq
      have he2 : en sm b n s = i := by rw [he]; exact en_no hq
      exact h J i hT he2.symm j2 j3 j4 j7 j8 j5
    have hval : A 2 (J 1 3).toNatClampNeg = b i := by rw [j3, nI_clamp (by omega), hA]
    refine wb_Tape_advance_157 hm ⟨fun c => absurd (by rw [j2, j3] at c; exact c) (nI_ge (by omega) (by omega)), fun _ => ⟨hv, ?_⟩⟩
    rw [hval]
    refine ⟨fun c => stop (by unfold sm; rw [decide_eq_true c]; rfl), fun c1 => ⟨hv, fun c => stop (by unfold sm; rw [decide_eq_true c]; simp), fun c2 => ?_⟩⟩
    have hsm : sm (b i) = true := sm_t.mpr ⟨c1, c2⟩
    rw [j3, nI_1]
    refine ih (i + 1) _ (by omega) (by omega) (by omega) (by rw [he, en_y (by omega) hsm]) (tT_I (tT_I hT (by decide)) (by decide)) ?_ ?_ ?_ ?_ ?_ ?_ h
    · rw [upI_f (by decide), upI_f (by decide), j2]
    · rw [upI_s]
    · rw [upI_f (by decide), upI_f (by decide), j4]
    · rw [upI_f (by decide), upI_f (by decide), j7]
    · rw [upI_f (by decide), upI_f (by decide), j8]
    · intro _; rw [upI_f (by decide), upI_s]
/-- the next token, from the place i -/
theorem adv_all {i : Nat} (hn : n ≤ 600) (hA : A 2 = b) (hi : i ≤ n) (h2 : I 1 2 = nI n) (h3 : I 1 3 = nI i) (h7 : I 1 7 = 0) (h8 : I 1 8 = -1) (h : ∀ I', tT I I' → ct b n (sk b n i) I' → Q none (gset H x cck P I' A)) : gWp (gTab (tb_Tape_advance (meth d))) Q X 0 [some (.ref (x + 1))] [] (gset H x cck P I A) := by
  have hm := @mo_Tape_advance (meth d) (meth_smono d)
  refine wb_Tape_advance_0 hm ⟨fun _ => ?_, fun c => absurd h7 c⟩
  have e0 : I = upI I 1 3 (nI i) := by rw [← h3]; funext j; unfold upI; by_cases hj : j = 1
                                       · rw [if_pos hj, hj]; funext f; unfold upd; by_cases hf : f = 3
                                         · rw [if_pos hf, hf]
                                         · rw [if_neg hf]
                                       · rw [if_neg hj]
  have goal8 : gWp (gTab (tb_Tape_advance (meth d))) Q X 8 [some (.ref (x + 1))] [] (gset H x cck P (upI I 1 3 (nI i)) A) := by
    refine adv_8 hn hA h2 (n - i) i rfl hi (wb_Tape_advance_46 hm ?_)
    have hP := sk_P (b := b) hi
    generalize hs : sk b n i = s at h hP ⊢
    rw [upI_s]
    have hle : s ≤ n := hP.1.1
    refine adv_59 (I := I) hn hA s (n - s) 0 _ rfl (by omega) (fun j q1 q2 => by omega) (tT_I (tT_I (tT_I tT_r (by decide)) (by decide)) (by decide)) ?_ ?_ ?_ ?_ ?_ ?_ (fun q => absurd q (by omega)) (fun J e hT he j2 j3 j4 j7 j8 j6 j5 => ?_)
    · rw [upI_f (by decide), upI_f (by decide), upI_f (by decide), h2]
    · rw [upI_f (by decide), upI_f (by decide), upI_s]; rfl
    · rw [upI_f (by decide), upI_s]
    · rw [upI_f (by decide), upI_f (by decide), upI_f (by decide), h7]
    · rw [upI_f (by decide), upI_f (by decide), upI_f (by decide), h8]
    · rw [upI_s]; rfl
    · have hee : s ≤ e := by rw [he]; exact en_le
      have hen : e ≤ n := by rw [he]; exact en_n hle
      refine wb_Tape_advance_145 hm ⟨fun c => ?_, fun c => ?_⟩
      · rw [j3, j4, nI_leI (by omega) (by omega)] at c
        have hes : e = s := by omega
        rw [hes] at he j3
        have hnd : s < n → dg (b s) = false := by
          intro q
          cases hq : dg (b s)
          · rfl
          · rw [en_y q hq] at he
            have := en_le (p := dg) (b := b) (n := n) (i := s + 1)
            omega
        refine adv_157 hn hA s (n - s) s J rfl hle (Nat.le_refl _) rfl hT j2 j3 j4 j7 j8 (fun q => absurd q (by omega)) (fun J2 e2 hT2 he2 k2 k3 k4 k7 k8 k5 => ?_)
        have hee2 : s ≤ e2 := by rw [he2]; exact en_le
        have hen2 : e2 ≤ n := by rw [he2]; exact en_n hle
        refine wb_Tape_advance_214 hm ⟨fun c => ?_, fun c => ?_⟩
        · rw [k3, k4, nI_leI (by omega) (by omega)] at c
          have hes2 : e2 = s := by omega
          rw [hes2] at he2 k3
          have hns : s < n → sm (b s) = false := by
            intro q
            cases hq : sm (b s)
            · rfl
            · rw [en_y q hq] at he2
              have := en_le (p := sm) (b := b) (n := n) (i := s + 1)
              omega
          refine ⟨fun c => wb_Tape_advance_270 hm ?_, fun c => ⟨by rw [k3]; rw [k2, k3] at c; exact vp_in_nI (by have : ¬ n ≤ s := fun q => c (nI_le q (by omega)); omega) (by omega), wb_Tape_advance_270 hm ?_⟩⟩
          · rw [k2, k3, nI_leI (by omega) (by omega)] at c
            rcases tk_cases b n s with ⟨_, t1, t2⟩ | ⟨q, _⟩ | ⟨q, _⟩ | ⟨q, _⟩
            · refine h _ (tT_I hT2 (by decide)) ⟨by rw [upI_f (by decide), k2], by rw [upI_f (by decide), k3, t2], by rw [upI_f (by decide), k4], by rw [upI_s, t1], fun q => by rw [t1] at q; exact absurd q (by decide), fun q => by rw [t1] at q; exact absurd q (by decide), by rw [upI_f (by decide), k7], by rw [upI_f (by decide), k8], hP.1⟩
            · omega
            · omega
            · omega
          · rw [k2, k3] at c
            have hlt : s < n := by
              have : ¬ n ≤ s := fun q => c (nI_le q (by omega))
              omega
            rcases tk_cases b n s with ⟨q, _⟩ | ⟨_, q, _⟩ | ⟨_, _, q, _⟩ | ⟨_, _, _, t1, t2⟩
            · omega
            · rw [hnd hlt] at q; cases q
            · rw [hns hlt] at q; cases q
            · rw [k3, nI_clamp (by omega), hA, nI_1]
              refine h _ (tT_I (tT_I (tT_I (tT_I hT2 (by decide)) (by decide)) (by decide)) (by decide)) ⟨by rw [upI_f (by decide), upI_f (by decide), upI_f (by decide), upI_f (by decide), k2], by rw [upI_s, t2], by rw [upI_f (by decide), upI_f (by decide), upI_f (by decide), upI_f (by decide), k4], by rw [upI_f (by decide), upI_f (by decide), upI_s, t1], fun q => by rw [t1] at q; exact absurd q (by decide), fun _ => by rw [upI_f (by decide), upI_s], by rw [upI_f (by decide), upI_f (by decide), upI_f (by decide), upI_f (by decide), k7], by rw [upI_f (by decide), upI_f (by decide), upI_f (by decide), upI_f (by decide), k8], hP.1⟩
        · rw [k3, k4] at c
          have hlt : s < e2 := by
            have : ¬ e2 ≤ s := fun q => c (nI_le q (by omega))
            omega
          have hsm : sm (b s) = true := by rw [he2] at hlt; exact en_in (Nat.le_refl s) hlt
          rcases tk_cases b n s with ⟨q, _⟩ | ⟨_, q, _⟩ | ⟨_, _, _, t1, t2⟩ | ⟨_, _, q, _⟩
          · omega
          · rw [hnd (by omega)] at q; cases q
          · exact h J2 hT2 ⟨k2, by rw [t2, ← he2, k3], k4, by rw [t1]; exact k5 hlt, fun q => by rw [t1] at q; exact absurd q (by decide), fun q => by rw [t1] at q; exact absurd q (by decide), k7, k8, hP.1⟩
          · rw [hsm] at q; cases q
      · rw [j3, j4] at c
        have hlt : s < e := by
          have : ¬ e ≤ s := fun q => c (nI_le q (by omega))
          omega
        have hdg : dg (b s) = true := by rw [he] at hlt; exact en_in (Nat.le_refl s) hlt
        rcases tk_cases b n s with ⟨q, _⟩ | ⟨_, _, t1, t2⟩ | ⟨_, q, _⟩ | ⟨_, q, _⟩
        · omega
        · exact h J hT ⟨j2, by rw [t2, ← he, j3], j4, by rw [t1]; exact j5 hlt, fun _ => j6, fun q => by rw [t1] at q; exact absurd q (by decide), j7, j8, hP.1⟩
        · rw [hdg] at q; cases q
        · rw [hdg] at q; cases q
  rw [← e0] at goal8
  exact goal8
theorem sp_Tape_advance (hn : n ≤ 600) (hA : A 2 = b) (hc : cS b n o I) (h : ∀ I', tT I I' → cS b n (oadv b n o) I' → Q none (gset H x cck P I' A)) : meth (d + 1) m_Tape_advance [.ref (x + 1)] (gset H x cck P I A) Q X := by
  have hm := @mo_Tape_advance (meth d) (meth_smono d)
  refine me_Tape_advance ?_
  cases o with
  | inl e => exact wb_Tape_advance_0 hm ⟨fun c => absurd c (by rw [hc.2.2.1]; exact nI_ne0 (by have := hc.1; omega) (by have := hc.2.1; omega)), fun _ => h I tT_r hc⟩
  | inr s =>
    obtain ⟨h2, h3, h4, h5, h6, h6', h7, h8, hp⟩ := hc
    exact adv_all hn hA (te_n hp.1).1 h2 h3 h7 h8 h
theorem sp_Tape_atSign {c : Int32} (h : Q (some (.int (i01 (decide (I 1 5 = 3 ∧ I 1 6 = c))))) (gset H x cck P I A)) : meth (d + 1) m_Tape_atSign [.ref (x + 1), .int c] (gset H x cck P I A) Q X := by
  have hm := @mo_Tape_atSign (meth d) (meth_smono d)
  refine me_Tape_atSign (wb_Tape_atSign_0 hm ⟨fun c => wb_Tape_atSign_20 hm (wb_Tape_atSign_21 hm ⟨rfl, ?_⟩), fun c1 => ⟨fun c2 => wb_Tape_atSign_20 hm (wb_Tape_atSign_21 hm ⟨rfl, ?_⟩), fun c2 => wb_Tape_atSign_21 hm ⟨rfl, ?_⟩⟩⟩)
  · rw [decide_eq_false (fun q => c q.1)] at h; exact h
  · rw [decide_eq_false (fun q => c2 q.2)] at h; exact h
  · rw [decide_eq_true ⟨Classical.not_not.mp c1, Classical.not_not.mp c2⟩] at h; exact h
theorem ct_sign {s : Nat} {c : Int32} (h : ct b n s I) : (I 1 5 = 3 ∧ I 1 6 = c) ↔ (tk b n s = 3 ∧ b s = c) := by
  obtain ⟨h2, h3, h4, h5, h6, h6', h7, h8, hp⟩ := h
  constructor
  · rintro ⟨a1, a2⟩
    rw [h5] at a1
    rw [h6' a1] at a2
    exact ⟨a1, a2⟩
  · rintro ⟨a1, a2⟩
    exact ⟨h5.trans a1, (h6' a1).trans a2⟩
theorem sp_Tape_sign {c : Int32} (hn : n ≤ 600) (hA : A 2 = b) (hc : cS b n o I) (h : ∀ I', tT I I' → cS b n (osign b n c o) I' → Q none (gset H x cck P I' A)) : meth (d + 2) m_Tape_sign [.ref (x + 1), .int c] (gset H x cck P I A) Q X := by
  have hm := @mo_Tape_sign (meth (d + 1)) (meth_smono (d + 1))
  refine me_Tape_sign (wb_Tape_sign_0 hm (sp_Tape_atSign (wb_Tape_sign_5 hm ⟨fun c1 => sp_Tape_fail (k := 1) (by omega) hn hc (fun I' t1 q1 => wb_Tape_sign_20 hm (h I' t1 ?_)), fun c1 => sp_Tape_advance hn hA hc (fun I' t1 q1 => wb_Tape_sign_12 hm (wb_Tape_sign_20 hm (h I' t1 ?_)))⟩)))
  · cases o with
    | inl e => exact q1
    | inr s =>
      rw [osign_r, if_neg]
      · exact q1
      · intro q
        rw [decide_eq_true ((ct_sign hc).mpr q)] at c1
        exact absurd c1 (by decide)
  · cases o with
    | inl e => exact q1
    | inr s =>
      rw [osign_r, if_pos]
      · exact q1
      · refine (ct_sign hc).mp (Classical.byContradiction fun q => c1 ?_)
        rw [decide_eq_false q]
        rfl
theorem sp_Tape_numberHere {lo hi : Nat} {v1 v2 : Int32} (e1 : v1 = nI lo) (e2 : v2 = nI hi - 1) (hlo : lo ≤ 1000) (hhi : hi ≤ 1000) (hn : n ≤ 600) (hc : cS b n o I) (h : ∀ I', tT I I' → cS b n (onumh b n lo hi o).2 I' → Q (some (.int (nI (onumh b n lo hi o).1))) (gset H x cck P I' A)) : meth (d + 2) m_Tape_numberHere [.ref (x + 1), .int v1, .int v2] (gset H x cck P I A) Q X := by
  have hm := @mo_Tape_numberHere (meth (d + 1)) (meth_smono (d + 1))
  subst e1
  subst e2
  -- the end: from a state of the reading
  have fin : ∀ I' (o' : PO) (v : Nat), tT I I' → cS b n o' I' → (∀ e, o' = .inl e → v = 0) → (∀ s, o' = .inr s → I' 1 6 = nI v) → (onumh b n lo hi o) = (v, o') → gWp (gTab (tb_Tape_numberHere (meth (d + 1)))) Q X 37 [some (.ref (x + 1)), some (.int (nI lo)), some (.int (nI hi - 1))] [] (gset H x cck P I' A) := by
    intro I' o' v t1 q1 a1 a2 ee
    rw [ee] at h
    refine wb_Tape_numberHere_37 hm ⟨fun c => wb_Tape_numberHere_52 hm ?_, fun c => wb_Tape_numberHere_52 hm ?_⟩
    · cases o' with
      | inl e => have := h I' t1 q1; rw [a1 e rfl] at this; exact this
      | inr s => exact absurd q1.2.2.2.2.2.2.1 c
    · cases o' with
      | inl e => exact absurd (by rw [q1.2.2.1]; exact nI_ne0 (by have := q1.1; omega) (by have := q1.2.1; omega)) c
      | inr s => rw [a2 s rfl]; exact h I' t1 q1
  refine me_Tape_numberHere ?_
  cases o with
  | inl e =>
    have t32 : gWp (gTab (tb_Tape_numberHere (meth (d + 1)))) Q X 32 [some (.ref (x + 1)), some (.int (nI lo)), some (.int (nI hi - 1))] [] (gset H x cck P I A) := wb_Tape_numberHere_32 hm (sp_Tape_fail (k := 2) (by omega) hn hc (fun I' t1 q1 => fin I' (.inl e) 0 t1 q1 (fun _ _ => rfl) (fun s q => by cases q) rfl))
    exact wb_Tape_numberHere_0 hm ⟨fun _ => ⟨fun _ => t32, fun _ => ⟨fun _ => fin I (.inl e) 0 tT_r hc (fun _ _ => rfl) (fun s q => by cases q) rfl, fun _ => t32⟩⟩, fun _ => sp_Tape_fail (k := 1) (by omega) hn hc (fun I' t1 q1 => wb_Tape_numberHere_13 hm (fin I' (.inl e) 0 t1 q1 (fun _ _ => rfl) (fun s q => by cases q) rfl))⟩
  | inr s =>
    have hc' := hc
    obtain ⟨h2, h3, h4, h5, h6, h6', h7, h8, hp⟩ := hc
    by_cases hk : tk b n s = 1
    · have h6 := h6 hk
      have t32 : ¬ (lo ≤ nv b n s ∧ nv b n s < hi) → gWp (gTab (tb_Tape_numberHere (meth (d + 1)))) Q X 32 [some (.ref (x + 1)), some (.int (nI lo)), some (.int (nI hi - 1))] [] (gset H x cck P I A) := fun hno => wb_Tape_numberHere_32 hm (sp_Tape_fail (k := 2) (by omega) hn hc' (fun I' t1 q1 => fin I' (.inl (2, s)) 0 t1 q1 (fun _ _ => rfl) (fun s q => by cases q) (by rw [onumh_r, if_pos hk, if_neg hno])))
      refine wb_Tape_numberHere_0 hm ⟨fun _ => ?_, fun c => absurd (h5.trans hk) c⟩
      rw [h6]
      refine ⟨fun c => t32 (fun q => ?_), fun c1 => ⟨fun c2 => fin I (.inr s) (nv b n s) tT_r hc' (fun _ q => by cases q) (fun s' q => ?_) ?_, fun c2 => t32 (fun q => ?_)⟩⟩
      · rw [nI_ltI (by omega) (by omega)] at c; omega
      · rw [nI_m1 (by omega) (by omega)] at c2
        rw [h6, Nat.min_eq_right (by omega)]
      · rw [nI_ltI (by omega) (by omega)] at c1
        rw [nI_m1 (by omega) (by omega)] at c2
        rw [onumh_r, if_pos hk, if_pos (by omega)]
      · rw [nI_m1 (by omega) (by omega)] at c2; omega
    · refine wb_Tape_numberHere_0 hm ⟨fun c => absurd (h5.symm.trans c) hk, fun _ => sp_Tape_fail (k := 1) (by omega) hn hc' (fun I' t1 q1 => wb_Tape_numberHere_13 hm (fin I' (.inl (1, s)) 0 t1 q1 (fun _ _ => rfl) (fun s q => by cases q) (by rw [onumh_r, if_neg hk])))⟩
theorem sp_Tape_number {lo hi : Nat} {v1 v2 : Int32} (e1 : v1 = nI lo) (e2 : v2 = nI hi - 1) (hlo : lo ≤ 1000) (hhi : hi ≤ 1000) (hn : n ≤ 600) (hA : A 2 = b) (hc : cS b n o I) (h : ∀ I', tT I I' → cS b n (onum b n lo hi o).2 I' → Q (some (.int (nI (onum b n lo hi o).1))) (gset H x cck P I' A)) : meth (d + 3) m_Tape_number [.ref (x + 1), .int v1, .int v2] (gset H x cck P I A) Q X := by
  have hm := @mo_Tape_number (meth (d + 2)) (meth_smono (d + 2))
  exact me_Tape_number (wb_Tape_number_0 hm (sp_Tape_numberHere e1 e2 hlo hhi hn hc (fun I1 t1 q1 => wb_Tape_number_6 hm (sp_Tape_advance (d := d + 1) hn hA q1 (fun I2 t2 q2 => wb_Tape_number_11 hm (h I2 (tT_t t1 t2) q2))))))
end L2L
