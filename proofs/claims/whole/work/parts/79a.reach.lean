/-! ===== reachability: the class ===== -/
def cnt (f : Nat → Bool) : Nat → Nat
  | 0 => 0
  | n + 1 => cnt f n + (if f n = true then 1 else 0)
theorem cnt_le {f : Nat → Bool} : ∀ n, cnt f n ≤ n
  | 0 => Nat.le_refl _
  | n + 1 => by
    have := cnt_le (f := f) n
    unfold cnt
    by_cases h : f n = true
    · rw [if_pos h]; omega
    · rw [if_neg h]; omega
theorem cnt_mono {f g : Nat → Bool} : ∀ n, (∀ t, t < n → f t = true → g t = true) → cnt f n ≤ cnt g n
  | 0, _ => Nat.le_refl _
  | n + 1, h => by
    have := cnt_mono n (fun t ht => h t (by omega))
    unfold cnt
    by_cases h1 : f n = true
    · rw [if_pos h1, if_pos (h n (by omega) h1)]; omega
    · rw [if_neg h1]; omega
theorem cnt_lt {f g : Nat → Bool} : ∀ n, (∀ t, t < n → f t = true → g t = true) → (∃ t, t < n ∧ f t ≠ g t) → cnt f n < cnt g n
  | 0, _, h => by obtain ⟨t, ht, _⟩ := h; omega
  | n + 1, h, hx => by
    have hm := cnt_mono n (fun t ht => h t (by omega))
    unfold cnt
    by_cases hn : f n = g n
    · obtain ⟨t, ht, hne⟩ := hx
      have htn : t ≠ n := fun q => hne (by rw [q]; exact hn)
      have := cnt_lt n (fun t ht => h t (by omega)) ⟨t, by omega, hne⟩
      rw [hn]; omega
    · cases hf : f n
      · cases hg : g n
        · rw [hf, hg] at hn; exact absurd rfl hn
        · rw [if_neg (by decide), if_pos rfl]; omega
      · rw [h n (by omega) hf, hf] at hn; exact absurd rfl hn
theorem cnt_pos {f : Nat → Bool} {t : Nat} (h : f t = true) : ∀ n, t < n → 1 ≤ cnt f n
  | 0, q => absurd q (Nat.not_lt_zero _)
  | n + 1, q => by
    unfold cnt
    by_cases he : t = n
    · rw [← he, if_pos h]; omega
    · have := cnt_pos h n (by omega); omega
/-- a growing chain of sets of n towns stands still before n steps -/
theorem chain {S : Nat → Nat → Bool} {n : Nat} (hm : ∀ k t, t < n → S k t = true → S (k + 1) t = true) (h0 : 1 ≤ cnt (S 0) n) : ∃ k, k < n ∧ ∀ t, t < n → S k t = S (k + 1) t := by
  refine Classical.byContradiction (fun hc => ?_)
  have hs : ∀ k, k < n → ∃ t, t < n ∧ S k t ≠ S (k + 1) t := fun k hk => by
    refine Classical.byContradiction (fun h2 => hc ⟨k, hk, fun t ht => ?_⟩)
    refine Classical.byContradiction (fun h3 => h2 ⟨t, ht, h3⟩)
  have hk : ∀ k, k ≤ n → k + 1 ≤ cnt (S k) n := by
    intro k
    induction k with
    | zero => intro _; exact h0
    | succ k ih =>
      intro hk
      have := ih (by omega)
      have := cnt_lt n (hm k) (hs k (by omega))
      omega
  have := hk n (Nat.le_refl _)
  have := cnt_le (f := S n) n
  omega
def Rch (E : Nat → Nat → Prop) (a t : Nat) : Prop := ∀ S : Nat → Prop, S a → (∀ b c, S b → E b c → S c) → S t
theorem Rch_r {E : Nat → Nat → Prop} {a : Nat} : Rch E a a := fun _ h _ => h
theorem Rch_s {E : Nat → Nat → Prop} {a b c : Nat} (h : Rch E a b) (e : E b c) : Rch E a c := fun S h0 hc => hc b c (h S h0 hc) e
theorem Rch_cl {E : Nat → Nat → Prop} {a : Nat} {S : Nat → Prop} (h0 : S a) (hc : ∀ b c, S b → E b c → S c) {t : Nat} (h : Rch E a t) : S t := h S h0 hc
theorem Rch_tr {E : Nat → Nat → Prop} {a b c : Nat} (h1 : Rch E a b) (h2 : Rch E b c) : Rch E a c := h2 (fun t => Rch E a t) h1 (fun _ _ h e => Rch_s h e)
theorem Rch_sy {E : Nat → Nat → Prop} (hE : ∀ b c, E b c → E c b) {a b : Nat} (h : Rch E a b) : Rch E b a := h (fun t => Rch E t a) Rch_r (fun _ _ ih e => Rch_tr (Rch_s Rch_r (hE _ _ e)) ih)
theorem Rch_im {E E' : Nat → Nat → Prop} (h : ∀ b c, E b c → E' b c) {a t : Nat} (k : Rch E a t) : Rch E' a t := k (fun t => Rch E' a t) Rch_r (fun _ _ ih e => Rch_s ih (h _ _ e))
def pr (s : ST) (e : Nat) : Int32 := ((1 : Int32) <<< (nI (zF (sZ s) e) &&& 31)) ||| ((1 : Int32) <<< (nI (zT (sZ s) e) &&& 31))
def pI (s : ST) (S ex : Int32) : Nat → Int32 → Int32
  | 0, v => v
  | k + 1, v => if ¬ nI k = ex ∧ pr s k &&& S = pr s k ∧ ¬ pr s k &&& pI s S ex k v = 0 then pI s S ex k v ||| pr s k else pI s S ex k v
def itr (s : ST) (S ex : Int32) (a : Nat) : Nat → Int32
  | 0 => (1 : Int32) <<< (nI a &&& 31)
  | j + 1 => pI s S ex (zM (sZ s)) (itr s S ex a j)
def edg (s : ST) (S ex : Int32) (b c : Nat) : Prop := ∃ e, e < zM (sZ s) ∧ ¬ nI e = ex ∧ bt S (zF (sZ s) e) = true ∧ bt S (zT (sZ s) e) = true ∧ ((zF (sZ s) e = b ∧ zT (sZ s) e = c) ∨ (zF (sZ s) e = c ∧ zT (sZ s) e = b))
section RCH
variable {s : ST} {S ex : Int32}
theorem edg_sy {b c : Nat} (h : edg s S ex b c) : edg s S ex c b := by
  obtain ⟨e, h1, h2, h3, h4, h5⟩ := h
  exact ⟨e, h1, h2, h3, h4, h5.symm⟩
theorem zFT (hs : sOk s) {e : Nat} (he : e < zM (sZ s)) : zF (sZ s) e < sN s ∧ zT (sZ s) e < sN s ∧ sN s ≤ 8 := ⟨(hs.2.1.2.2.2.2 e he).1, (hs.2.1.2.2.2.2 e he).2.1, hs.2.1.1⟩
theorem pr_bt (hs : sOk s) {e i : Nat} (he : e < zM (sZ s)) (hi : i < 32) : bt (pr s e) i = (decide (i = zF (sZ s) e) || decide (i = zT (sZ s) e)) := by
  have := zFT hs he
  unfold pr
  rw [b_or, b_1shl (by omega) hi, b_1shl (by omega) hi]
theorem pr_in (hs : sOk s) {e : Nat} (he : e < zM (sZ s)) : pr s e &&& S = pr s e ↔ bt S (zF (sZ s) e) = true ∧ bt S (zT (sZ s) e) = true := by
  have hz := zFT hs he
  constructor
  · intro h
    have k : ∀ i, i < 32 → bt (pr s e) i = true → bt S i = true := fun i hi hb => by
      have := congrArg (fun x => bt x i) h
      simp only [b_and] at this
      rw [hb, Bool.true_and] at this
      exact this
    exact ⟨k _ (by omega) (by rw [pr_bt hs he (by omega)]; simp), k _ (by omega) (by rw [pr_bt hs he (by omega)]; simp)⟩
  · intro h
    refine b_ext (fun i hi => ?_)
    rw [b_and]
    cases hb : bt (pr s e) i
    · rfl
    · rw [Bool.true_and]
      rw [pr_bt hs he hi, Bool.or_eq_true, decide_eq_true_eq, decide_eq_true_eq] at hb
      rcases hb with hb | hb
      · rw [hb]; exact h.1
      · rw [hb]; exact h.2
theorem pr_no (hs : sOk s) {e : Nat} {w : Int32} (he : e < zM (sZ s)) : ¬ pr s e &&& w = 0 ↔ bt w (zF (sZ s) e) = true ∨ bt w (zT (sZ s) e) = true := by
  have hz := zFT hs he
  constructor
  · intro h
    refine Classical.byContradiction (fun hc => h (b_ext (fun i hi => ?_)))
    rw [b_and, b_0]
    cases hb : bt (pr s e) i
    · rfl
    · rw [Bool.true_and]
      rw [pr_bt hs he hi, Bool.or_eq_true, decide_eq_true_eq, decide_eq_true_eq] at hb
      cases hw : bt w i
      · rfl
      · rcases hb with hb | hb
        · exact absurd (Or.inl (by rw [← hb]; exact hw)) hc
        · exact absurd (Or.inr (by rw [← hb]; exact hw)) hc
  · intro h q
    have k : ∀ i, i < 32 → bt (pr s e) i = true → bt w i = false := fun i hi hb => by
      have := congrArg (fun x => bt x i) q
      simp only [b_and, b_0] at this
      rw [hb, Bool.true_and] at this
      exact this
    rcases h with h | h
    · rw [k _ (by omega) (by rw [pr_bt hs he (by omega)]; simp)] at h; cases h
    · rw [k _ (by omega) (by rw [pr_bt hs he (by omega)]; simp)] at h; cases h
theorem pI_mono {v : Int32} {t : Nat} (h : bt v t = true) : ∀ k, bt (pI s S ex k v) t = true
  | 0 => h
  | k + 1 => by
    have ih := pI_mono h k
    rw [pI]
    by_cases hc : ¬ nI k = ex ∧ pr s k &&& S = pr s k ∧ ¬ pr s k &&& pI s S ex k v = 0
    · rw [if_pos hc, b_or, ih, Bool.true_or]
    · rw [if_neg hc]; exact ih
theorem pI_up {v : Int32} {t k : Nat} (h : bt (pI s S ex k v) t = true) : ∀ j, bt (pI s S ex (k + j) v) t = true
  | 0 => h
  | j + 1 => by
    have ih := pI_up h j
    rw [show k + (j + 1) = k + j + 1 by omega, pI]
    by_cases hc : ¬ nI (k + j) = ex ∧ pr s (k + j) &&& S = pr s (k + j) ∧ ¬ pr s (k + j) &&& pI s S ex (k + j) v = 0
    · rw [if_pos hc, b_or, ih, Bool.true_or]
    · rw [if_neg hc]; exact ih
theorem pI_sound (hs : sOk s) {v : Int32} {a : Nat} (h : ∀ t, t < 32 → bt v t = true → Rch (edg s S ex) a t) : ∀ k, k ≤ zM (sZ s) → ∀ t, t < 32 → bt (pI s S ex k v) t = true → Rch (edg s S ex) a t
  | 0, _, t, ht, hb => h t ht hb
  | k + 1, hk, t, ht, hb => by
    have ih := pI_sound hs h k (by omega)
    rw [pI] at hb
    by_cases hc : ¬ nI k = ex ∧ pr s k &&& S = pr s k ∧ ¬ pr s k &&& pI s S ex k v = 0
    · rw [if_pos hc, b_or, Bool.or_eq_true] at hb
      have hz := zFT hs (show k < zM (sZ s) by omega)
      obtain ⟨c1, c2, c3⟩ := hc
      rw [pr_in hs (by omega)] at c2
      rw [pr_no hs (by omega)] at c3
      rcases hb with hb | hb
      · exact ih t ht hb
      · rw [pr_bt hs (by omega) ht, Bool.or_eq_true, decide_eq_true_eq, decide_eq_true_eq] at hb
        have hF : Rch (edg s S ex) a (zF (sZ s) k) := by
          rcases c3 with c3 | c3
          · exact ih _ (by omega) c3
          · exact Rch_s (ih _ (by omega) c3) ⟨k, by omega, c1, c2.1, c2.2, Or.inr ⟨rfl, rfl⟩⟩
        have hT : Rch (edg s S ex) a (zT (sZ s) k) := by
          rcases c3 with c3 | c3
          · exact Rch_s (ih _ (by omega) c3) ⟨k, by omega, c1, c2.1, c2.2, Or.inl ⟨rfl, rfl⟩⟩
          · exact ih _ (by omega) c3
        rcases hb with hb | hb
        · rw [hb]; exact hF
        · rw [hb]; exact hT
    · rw [if_neg hc] at hb; exact ih t ht hb
theorem pI_fix (hs : sOk s) {v : Int32} (h : pI s S ex (zM (sZ s)) v = v) {b c : Nat} (hb : bt v b = true) (he : edg s S ex b c) : bt v c = true := by
  obtain ⟨e, h1, h2, h3, h4, h5⟩ := he
  have hz := zFT hs h1
  have hw : bt (pI s S ex e v) b = true := pI_mono hb e
  have hc : ¬ nI e = ex ∧ pr s e &&& S = pr s e ∧ ¬ pr s e &&& pI s S ex e v = 0 := by
    refine ⟨h2, (pr_in hs h1).mpr ⟨h3, h4⟩, (pr_no hs h1).mpr ?_⟩
    rcases h5 with ⟨q1, q2⟩ | ⟨q1, q2⟩
    · exact Or.inl (by rw [q1]; exact hw)
    · exact Or.inr (by rw [q2]; exact hw)
  have k : ∀ t, t < 32 → bt (pr s e) t = true → bt v t = true := fun t ht hp => by
    have : bt (pI s S ex (e + 1) v) t = true := by rw [pI, if_pos hc, b_or, hp, Bool.or_true]
    have := pI_up this (zM (sZ s) - (e + 1))
    rw [show e + 1 + (zM (sZ s) - (e + 1)) = zM (sZ s) by omega, h] at this
    exact this
  rcases h5 with ⟨q1, q2⟩ | ⟨q1, q2⟩
  · rw [← q2]; exact k _ (by omega) (by rw [pr_bt hs h1 (by omega)]; simp)
  · rw [← q1]; exact k _ (by omega) (by rw [pr_bt hs h1 (by omega)]; simp)
theorem Rch_lt (hs : sOk s) {a t : Nat} (ha : a < sN s) (h : Rch (edg s S ex) a t) : t < sN s := by
  refine Rch_cl (S := fun t => t < sN s) ha (fun b c _ he => ?_) h
  obtain ⟨e, h1, _, _, _, h5⟩ := he
  have hz := zFT hs h1
  rcases h5 with ⟨q1, q2⟩ | ⟨q1, q2⟩
  · rw [← q2]; exact hz.2.1
  · rw [← q1]; exact hz.1
theorem itr_sound (hs : sOk s) {a : Nat} (ha : a < sN s) : ∀ j t, t < 32 → bt (itr s S ex a j) t = true → Rch (edg s S ex) a t
  | 0, t, ht, hb => by
    have h8 : sN s ≤ 8 := hs.2.1.1
    rw [itr, b_1shl (by omega) ht, decide_eq_true_eq] at hb
    rw [hb]; exact Rch_r
  | j + 1, t, ht, hb => pI_sound hs (itr_sound hs ha j) (zM (sZ s)) (Nat.le_refl _) t ht hb
theorem itr_st {a j : Nat} (h : itr s S ex a (j + 1) = itr s S ex a j) : ∀ i, itr s S ex a (j + i) = itr s S ex a j
  | 0 => rfl
  | i + 1 => by rw [show j + (i + 1) = j + i + 1 by omega, itr, itr_st h i]; exact h
theorem itr_8 (hs : sOk s) {a : Nat} (ha : a < sN s) {t : Nat} (ht : t < 32) : bt (itr s S ex a 8) t = true ↔ Rch (edg s S ex) a t := by
  have h8 : sN s ≤ 8 := hs.2.1.1
  refine ⟨itr_sound hs ha 8 t ht, fun h => ?_⟩
  obtain ⟨k, hk, e⟩ := chain (S := fun k t => bt (itr s S ex a k) t) (n := sN s) (fun k t _ hb => pI_mono hb _) (cnt_pos (t := a) (by show bt (itr s S ex a 0) a = true; rw [itr, b_1shl (by omega) (by omega), decide_eq_true rfl]) _ ha)
  have e2 : itr s S ex a (k + 1) = itr s S ex a k := b_ext (fun i hi => by
    by_cases hN : i < sN s
    · exact (e i hN).symm
    · have z : ∀ j, bt (itr s S ex a j) i = false := fun j => by
        cases hb : bt (itr s S ex a j) i
        · rfl
        · exact absurd (Rch_lt hs ha (itr_sound hs ha j i hi hb)) hN
      rw [z, z])
  have e8 : itr s S ex a 8 = itr s S ex a k := by
    have := itr_st e2 (8 - k)
    rw [show k + (8 - k) = 8 by omega] at this
    exact this
  rw [e8]
  refine Rch_cl (S := fun t => bt (itr s S ex a k) t = true) ?_ (fun b c hb he => pI_fix hs (by rw [itr] at e2; exact e2) hb he) h
  have : ∀ j, bt (itr s S ex a j) a = true := fun j => by
    induction j with
    | zero => rw [itr, b_1shl (by omega) (by omega), decide_eq_true rfl]
    | succ j ih => exact pI_mono ih _
  exact this k
end RCH
section RCC
variable {s : ST} {d : Nat} {Q : gQ} {X : gX} {H : gH} {x : Nat} {P : Nat → Nat} {I A : Nat → Nat → Int32} {S ex : Int32}
theorem cs_reached (hs : sOk s) (hr : cRep s P I A) {a : Nat} (ha : a < sN s) (h : Q (some (.int (itr s S ex a 8))) (gset H x cck P I A)) : meth (d + 1) m_Land_reached [.ref (x + P 1), .int (nI a), .int S, .int ex] (gset H x cck P I A) Q X := by
  have hm := @mo_Land_reached (meth d) (meth_smono d)
  have h8 : sN s ≤ 8 := hs.2.1.1
  have hM : zM (sZ s) ≤ 12 := hs.2.1.2.1
  have eM : I (P 1) 1 = nI (zM (sZ s)) := hr.2.2.1.2.1
  have eE := hr.2.2.1.2.2.2
  have h1 := pOk_1 hr.1
  have outer : ∀ j, j ≤ 8 → ∀ v5 : Int32, (0 < j → v5 = itr s S ex a (j - 1)) → (j = 0 → v5 = 0) → gWp (gTab (tb_Land_reached (meth d))) Q X 11 [some (.ref (x + P 1)), some (.int (nI a)), some (.int S), some (.int ex), some (.int (itr s S ex a j)), some (.int v5), some (.int (nI j)), none, none] [] (gset H x cck P I A) := by
    refine gdown ?_ ?_
    · intro v5 _ _
      exact wb_Land_reached_11 hm ⟨fun _ => wb_Land_reached_104 hm h, fun q => absurd (nI_le (a := 8) (by omega) (by omega)) q⟩
    · intro j hj ih v5 e1 e0
      refine wb_Land_reached_11 hm ⟨fun q => absurd q (nI_ge (b := 8) hj (by omega)), fun _ => ⟨fun q => wb_Land_reached_104 hm ?_, fun q => ?_⟩⟩
      · rcases Nat.eq_zero_or_pos j with z | z
        · have := congrArg (fun y => bt y a) q
          simp only [e0 z, b_0] at this
          rw [z, itr, b_1shl (by omega) (by omega), decide_eq_true rfl] at this
          cases this
        · have e := e1 z
          rw [e] at q
          have st := itr_st (s := s) (S := S) (ex := ex) (a := a) (j := j - 1) (by rw [show j - 1 + 1 = j by omega]; exact q) (8 - (j - 1))
          rw [show j - 1 + (8 - (j - 1)) = 8 by omega] at st
          rw [q, ← st]
          exact h
      · have inner : ∀ k, k ≤ zM (sZ s) → gWp (gTab (tb_Land_reached (meth d))) Q X 32 [some (.ref (x + P 1)), some (.int (nI a)), some (.int S), some (.int ex), some (.int (pI s S ex k (itr s S ex a j))), some (.int (itr s S ex a j)), some (.int (nI j)), some (.int (nI k)), none] [] (gset H x cck P I A) := by
          refine gdown ?_ ?_
          · refine wb_Land_reached_32 hm h1 ⟨fun _ => ?_, fun q => absurd (by rw [eM]; exact nI_le (Nat.le_refl _) (by omega)) q⟩
            rw [nI_1]
            exact ih (itr s S ex a j) (fun _ => rfl) (fun z => absurd z (by omega))
          · intro k hk ihk
            rw [← nI_1, pI] at ihk
            have iv : vp_in (nI k) 12 := vp_in_nI (by omega) (by omega)
            refine wb_Land_reached_32 hm h1 ⟨fun q => absurd q (by rw [eM]; exact nI_ge hk (by omega)), fun _ => ?_⟩
            rw [nI_clamp (by omega), (eE k hk).1, (eE k hk).2, show ((1 : Int32) <<< (nI (zF (sZ s) k) &&& 31)) ||| ((1 : Int32) <<< (nI (zT (sZ s) k) &&& 31)) = pr s k from rfl]
            refine ⟨iv, iv, fun q1 => wb_Land_reached_92 hm ?_, fun q1 => ⟨fun q2 => wb_Land_reached_92 hm ?_, fun q2 => ⟨fun q3 => wb_Land_reached_92 hm ?_, fun q3 => wb_Land_reached_92 hm ?_⟩⟩⟩
            · rw [if_neg (fun z => z.1 q1)] at ihk; exact ihk
            · rw [if_neg (fun z => q2 z.2.1)] at ihk; exact ihk
            · rw [if_neg (fun z => z.2.2 q3)] at ihk; exact ihk
            · rw [if_pos ⟨q1, Classical.not_not.mp q2, q3⟩] at ihk; exact ihk
        exact inner 0 (Nat.zero_le _)
  exact me_Land_reached (wb_Land_reached_0 hm (outer 0 (Nat.zero_le _) 0 (fun z => absurd z (by omega)) (fun _ => rfl)))
end RCC
