/-! ===== L2: the lexer of the reference ===== -/
def rS (b : Nat → Int32) (n : Nat) (o : PO) (I : Nat → Nat → Int32) : Prop := I 0 3 = nI n ∧ ∃ p, p ≤ n ∧ I 0 4 = nI p ∧ (match o with
  | .inl e => I 0 5 = nI e.2 ∧ I 0 6 = nI e.1 ∧ e.2 ≤ n ∧ 1 ≤ e.1 ∧ e.1 ≤ 3
  | .inr s => I 0 5 = -1 ∧ sk b n p = s)
/-- the reference stands at the token itself -/
def rX (b : Nat → Int32) (n s : Nat) (I : Nat → Nat → Int32) : Prop := I 0 3 = nI n ∧ I 0 4 = nI s ∧ I 0 5 = -1 ∧ tkP b n s
def hv (b : Nat → Int32) (n s : Nat) : Int32 := if n ≤ s then 0 else b s
def tR (I I' : Nat → Nat → Int32) : Prop := ∀ f, f ≠ 4 → f ≠ 5 → f ≠ 6 → I' 0 f = I 0 f
theorem tR_r {I : Nat → Nat → Int32} : tR I I := fun _ _ _ _ => rfl
theorem tR_t {I I' I'' : Nat → Nat → Int32} (h : tR I I') (k : tR I' I'') : tR I I'' := fun f a b c => (k f a b c).trans (h f a b c)
theorem tR_I {I I' : Nat → Nat → Int32} {g : Nat} {a : Int32} (h : tR I I') (hg : g = 4 ∨ g = 5 ∨ g = 6) : tR I (upI I' 0 g a) := fun f h4 h5 h6 => by rw [upI_f (by omega)]; exact h f h4 h5 h6
theorem rX_S {b : Nat → Int32} {n s : Nat} {I : Nat → Nat → Int32} (h : rX b n s I) : rS b n (.inr s) I := ⟨h.1, s, h.2.2.2.1, h.2.1, h.2.2.1, sk_id h.2.2.2⟩
theorem nI_nm1 {k : Nat} (h : k < 2 ^ 31) : ¬ nI k = -1 := by
  intro q
  have := congrArg Int32.toInt q
  rw [nI_toInt h] at this
  have e : (-1 : Int32).toInt = -1 := rfl
  omega
theorem hv_dg {b : Nat → Int32} {n s : Nat} : dg (hv b n s) = true ↔ tk b n s = 1 := by
  unfold hv
  rcases tk_cases b n s with ⟨h, t, _⟩ | ⟨h, h1, t, _⟩ | ⟨h, h1, _, t, _⟩ | ⟨h, h1, _, t, _⟩
  · rw [if_pos h, t]; decide
  · rw [if_neg (by omega), t, h1]; decide
  · rw [if_neg (by omega), t, h1]; decide
  · rw [if_neg (by omega), t, h1]; decide
theorem hv_sg {b : Nat → Int32} {n s : Nat} {c : Int32} (h1 : dg c = false) (h2 : sm c = false) (h3 : c ≠ 0) : hv b n s = c ↔ tk b n s = 3 ∧ b s = c := by
  unfold hv
  rcases tk_cases b n s with ⟨h, t, _⟩ | ⟨h, k1, t, _⟩ | ⟨h, _, k1, t, _⟩ | ⟨h, _, _, t, _⟩
  · rw [if_pos h, t]; exact ⟨fun q => absurd q.symm h3, fun q => absurd q.1 (by decide)⟩
  · rw [if_neg (by omega), t]; exact ⟨fun q => (by rw [q, h1] at k1; cases k1), fun q => absurd q.1 (by decide)⟩
  · rw [if_neg (by omega), t]; exact ⟨fun q => (by rw [q, h2] at k1; cases k1), fun q => absurd q.1 (by decide)⟩
  · rw [if_neg (by omega), t]; exact ⟨fun q => ⟨rfl, q⟩, fun q => q.2⟩
section L2RL
variable {d n : Nat} {Q : gQ} {X : gX} {H : gH} {x : Nat} {P : Nat → Nat} {I A : Nat → Nat → Int32} {b : Nat → Int32} {o : PO} {s : Nat}
theorem i01_1 : ¬ i01 true = 0 := by decide
theorem sp_R_fine (hn : n ≤ 600) (hc : rS b n o I) (h : Q (some (.int (i01 (osnd o)))) (gset H x mck P I A)) : meth (d + 1) m_R_fine [.ref (x + 0)] (gset H x mck P I A) Q X := by
  have hm := @mo_R_fine (meth d) (meth_smono d)
  obtain ⟨h3, p, hp, h4, ho⟩ := hc
  refine me_R_fine (wb_R_fine_0 hm ⟨fun c => wb_R_fine_13 hm ⟨rfl, ?_⟩, fun c => wb_R_fine_13 hm ⟨rfl, ?_⟩⟩)
  · cases o with
    | inl e => exact h
    | inr s => exact absurd ho.1 c
  · cases o with
    | inl e => exact absurd (by rw [ho.1]; exact nI_nm1 (by have := ho.2.2.1; omega)) c
    | inr s => exact h
theorem sp_R_wrong {k q : Nat} (hk : 1 ≤ k ∧ k ≤ 3) (hq : q ≤ n) (hn : n ≤ 600) (hc : rS b n o I) (h : ∀ I', tR I I' → rS b n (match o with | .inl e => .inl e | .inr _ => .inl (k, q)) I' → I' 0 4 = I 0 4 → Q none (gset H x mck P I' A)) : meth (d + 1) m_R_wrong [.ref (x + 0), .int (nI k), .int (nI q)] (gset H x mck P I A) Q X := by
  have hm := @mo_R_wrong (meth d) (meth_smono d)
  have hc' := hc
  obtain ⟨h3, p, hp, h4, ho⟩ := hc
  refine me_R_wrong (wb_R_wrong_0 hm ⟨fun c => ?_, fun c => ?_⟩)
  · cases o with
    | inl e => exact absurd c (by rw [ho.1]; exact nI_nm1 (by have := ho.2.2.1; omega))
    | inr s => exact h _ (tR_I (tR_I tR_r (by simp)) (by simp)) ⟨by rw [upI_f (by decide), upI_f (by decide), h3], p, hp, by rw [upI_f (by decide), upI_f (by decide), h4], by rw [upI_f (by decide), upI_s], upI_s, hq, hk.1, hk.2⟩ (by rw [upI_f (by decide), upI_f (by decide)])
  · cases o with
    | inl e => exact h I tR_r hc' rfl
    | inr s => exact absurd ho.1 c
theorem sp_R_isSmall {v : Int32} (h : Q (some (.int (i01 (sm v)))) (gset H x mck P I A)) : meth (d + 1) m_R_isSmall [.int v] (gset H x mck P I A) Q X := by
  have hm := @mo_R_isSmall (meth d) (meth_smono d)
  refine me_R_isSmall (wb_R_isSmall_0 hm ⟨fun c => wb_R_isSmall_16 hm (wb_R_isSmall_17 hm ⟨rfl, ?_⟩), fun c1 => ⟨fun c => wb_R_isSmall_16 hm (wb_R_isSmall_17 hm ⟨rfl, ?_⟩), fun c => wb_R_isSmall_17 hm ⟨rfl, ?_⟩⟩⟩)
  · rw [show sm v = false by unfold sm; rw [decide_eq_true c]; rfl] at h; exact h
  · rw [show sm v = false by unfold sm; rw [decide_eq_true c]; simp] at h; exact h
  · rw [sm_t.mpr ⟨c1, c⟩] at h; exact h
theorem sp_R_isDigit {v : Int32} (h : Q (some (.int (i01 (dg v)))) (gset H x mck P I A)) : meth (d + 1) m_R_isDigit [.int v] (gset H x mck P I A) Q X := by
  have hm := @mo_R_isDigit (meth d) (meth_smono d)
  refine me_R_isDigit (wb_R_isDigit_0 hm ⟨fun c => wb_R_isDigit_16 hm (wb_R_isDigit_17 hm ⟨rfl, ?_⟩), fun c1 => ⟨fun c => wb_R_isDigit_16 hm (wb_R_isDigit_17 hm ⟨rfl, ?_⟩), fun c => wb_R_isDigit_17 hm ⟨rfl, ?_⟩⟩⟩)
  · rw [show dg v = false by unfold dg; rw [decide_eq_true c]; rfl] at h; exact h
  · rw [show dg v = false by unfold dg; rw [decide_eq_true c]; simp] at h; exact h
  · rw [dg_t.mpr ⟨c1, c⟩] at h; exact h
theorem sp_R_here_g (hn : n ≤ 600) (hA : A 2 = b) (h3 : I 0 3 = nI n) : ∀ (k p : Nat), n - p = k → p ≤ n → Q (some (.int (hv b n (sk b n p)))) (gset H x mck P (upI I 0 4 (nI (sk b n p))) A) → gWp (gTab (tb_R_here (meth d))) Q X 0 [some (.ref (x + 0))] [] (gset H x mck P (upI I 0 4 (nI p)) A) := by
  have hm := @mo_R_here (meth d) (meth_smono d)
  have fin : ∀ p, p ≤ n → sk b n p = p → Q (some (.int (hv b n (sk b n p)))) (gset H x mck P (upI I 0 4 (nI (sk b n p))) A) → gWp (gTab (tb_R_here (meth d))) Q X 38 [some (.ref (x + 0))] [] (gset H x mck P (upI I 0 4 (nI p)) A) := by
    intro p hp hs h
    rw [hs] at h
    refine wb_R_here_38 hm ?_
    rw [upI_s, upI_f (by decide), h3]
    refine ⟨fun c => wb_R_here_62 hm ?_, fun c => ?_⟩
    · rw [nI_leI (by omega) (by omega)] at c
      unfold hv at h
      rw [if_pos c] at h
      exact h
    · have : p < n := by
        have : ¬ n ≤ p := fun q => c (nI_le q (by omega))
        omega
      refine ⟨vp_in_nI (by omega) (by omega), wb_R_here_62 hm ?_⟩
      rw [nI_clamp (by omega), hA]
      unfold hv at h
      rw [if_neg (by omega)] at h
      exact h
  intro k
  induction k with
  | zero =>
    intro p hk hp h
    refine wb_R_here_0 hm ⟨fun _ => fin p hp (en_ge (by omega)) h, fun c => absurd (by rw [upI_s, upI_f (by decide), h3]; exact nI_le (by omega) (by omega)) c⟩
  | succ k ih =>
    intro p hk hp h
    refine wb_R_here_0 hm ?_
    rw [upI_s, upI_f (by decide), h3, upI_I, nI_clamp (by omega), hA, nI_1]
    refine ⟨fun c => absurd c (nI_ge (by omega) (by omega)), fun _ => ⟨vp_in_nI (by omega) (by omega), fun c => fin p hp (en_no (by unfold bl; exact decide_eq_false c)) h, fun c => ih (p + 1) (by omega) (by omega) ?_⟩⟩
    rw [show sk b n p = sk b n (p + 1) from en_y (by omega) (by unfold bl; exact decide_eq_true (Classical.not_not.mp c))] at h
    exact h
theorem upI_id {I : Nat → Nat → Int32} {o f : Nat} {a : Int32} (h : I o f = a) : upI I o f a = I := by
  funext j
  unfold upI
  by_cases hj : j = o
  · rw [if_pos hj]; funext g; unfold upd; by_cases hg : g = f
    · rw [if_pos hg, hj, hg, h]
    · rw [if_neg hg]
  · rw [if_neg hj]
theorem sp_R_here (hn : n ≤ 600) (hA : A 2 = b) (hc : rS b n (.inr s) I) (h : ∀ I', tR I I' → rX b n s I' → Q (some (.int (hv b n s))) (gset H x mck P I' A)) : meth (d + 1) m_R_here [.ref (x + 0)] (gset H x mck P I A) Q X := by
  obtain ⟨h3, p, hp, h4, h5, hs⟩ := hc
  have hP := sk_P (b := b) hp
  have := sp_R_here_g (d := d) (Q := Q) (X := X) (H := H) (x := x) (P := P) hn hA h3 (n - p) p rfl hp (by rw [hs]; exact h _ (tR_I tR_r (by simp)) ⟨by rw [upI_f (by decide), h3], upI_s, by rw [upI_f (by decide), h5], by rw [← hs]; exact hP.1⟩)
  rw [upI_id h4] at this
  exact me_R_here this
theorem sp_R_hereF {e : Nat × Nat} (hn : n ≤ 600) (hA : A 2 = b) (hc : rS b n (.inl e) I) (h : ∀ v I', tR I I' → rS b n (.inl e) I' → Q (some (.int v)) (gset H x mck P I' A)) : meth (d + 1) m_R_here [.ref (x + 0)] (gset H x mck P I A) Q X := by
  obtain ⟨h3, p, hp, h4, h5, h6, h7⟩ := hc
  have hP := sk_P (b := b) hp
  have := sp_R_here_g (d := d) (Q := Q) (X := X) (H := H) (x := x) (P := P) hn hA h3 (n - p) p rfl hp (h _ _ (tR_I tR_r (by simp)) ⟨by rw [upI_f (by decide), h3], sk b n p, hP.1.1, upI_s, by rw [upI_f (by decide), h5], by rw [upI_f (by decide), h6], h7⟩)
  rw [upI_id h4] at this
  exact me_R_here this
theorem sp_R_isMore (hn : n ≤ 600) (hA : A 2 = b) (hc : rS b n (.inr s) I) (h : ∀ I', tR I I' → rX b n s I' → Q (some (.int (i01 (decide (s < n))))) (gset H x mck P I' A)) : meth (d + 2) m_R_isMore [.ref (x + 0)] (gset H x mck P I A) Q X := by
  have hm := @mo_R_isMore (meth (d + 1)) (meth_smono (d + 1))
  refine me_R_isMore (wb_R_isMore_0 hm (sp_R_here hn hA hc (fun I' t1 q1 => wb_R_isMore_4 hm ?_)))
  have hs := q1.2.2.2.1
  have := h I' t1 q1
  rw [q1.1, q1.2.1]
  refine ⟨fun c => wb_R_isMore_21 hm ⟨rfl, ?_⟩, fun c => wb_R_isMore_21 hm ⟨rfl, ?_⟩⟩
  · rw [nI_leI (by omega) (by omega)] at c
    rw [decide_eq_false (by omega)] at this
    exact this
  · rw [nI_leI (by omega) (by omega)] at c
    rw [decide_eq_true (by omega)] at this
    exact this
theorem sp_R_sign {c : Int32} (h1 : dg c = false) (h2 : sm c = false) (h3 : c ≠ 0) (hn : n ≤ 600) (hA : A 2 = b) (hc : rS b n o I) (h : ∀ I', tR I I' → rS b n (osign b n c o) I' → Q none (gset H x mck P I' A)) : meth (d + 2) m_R_sign [.ref (x + 0), .int c] (gset H x mck P I A) Q X := by
  have hm := @mo_R_sign (meth (d + 1)) (meth_smono (d + 1))
  refine me_R_sign (wb_R_sign_0 hm (sp_R_fine hn hc (wb_R_sign_4 hm ?_)))
  cases o with
  | inl e =>
    refine ⟨fun _ => wb_R_sign_24 hm (sp_R_fine hn hc (wb_R_sign_28 hm ⟨fun _ => wb_R_sign_41 hm (h I tR_r hc), fun q => absurd rfl q⟩)), fun q => absurd rfl q⟩
  | inr s =>
    refine ⟨fun q => absurd q i01_1, fun _ => sp_R_here hn hA hc (fun I' t1 q1 => wb_R_sign_11 hm ⟨fun q => ?_, fun q => ?_⟩)⟩
    · rw [hv_sg h1 h2 h3] at q
      have q1' := q1
      obtain ⟨x3, x4, x5, xp⟩ := q1
      refine wb_R_sign_24 hm (sp_R_fine hn (rX_S q1') (wb_R_sign_28 hm ⟨fun z => absurd z i01_1, fun _ => wb_R_sign_41 hm ?_⟩))
      rw [x4, nI_1]
      have hlt : s < n := by
        rcases tk_cases b n s with ⟨_, t, _⟩ | ⟨hl, _⟩ | ⟨hl, _⟩ | ⟨hl, _⟩
        · rw [t] at q; exact absurd q.1 (by decide)
        · exact hl
        · exact hl
        · exact hl
      have hte : te b n s = s + 1 := by
        rcases tk_cases b n s with ⟨_, t, _⟩ | ⟨_, _, t, _⟩ | ⟨_, _, _, t, _⟩ | ⟨_, _, _, _, t⟩
        · rw [t] at q; exact absurd q.1 (by decide)
        · rw [t] at q; exact absurd q.1 (by decide)
        · rw [t] at q; exact absurd q.1 (by decide)
        · exact t
      refine h _ (tR_I t1 (by simp)) ?_
      rw [osign_r, if_pos q]
      exact ⟨by rw [upI_f (by decide), x3], s + 1, by omega, upI_s, by rw [upI_f (by decide), x5], by unfold nx; rw [hte]⟩
    · rw [hv_sg h1 h2 h3] at q
      rw [q1.2.1]
      refine sp_R_wrong (k := 1) (q := s) (by omega) q1.2.2.2.1 hn (rX_S q1) (fun I2 t2 q2 _ => wb_R_sign_24 hm (sp_R_fine hn q2 (wb_R_sign_28 hm ⟨fun _ => wb_R_sign_41 hm (h I2 (tR_t t1 t2) ?_), fun z => absurd rfl z⟩)))
      rw [osign_r, if_neg q]
      exact q2
/-- a number's value as the reference reckons it -/
def rvOk (V : Nat) (v : Int32) : Prop := ∃ u, u < 100000 ∧ v = nI u ∧ (V ≤ 9999 → u = V) ∧ (9999 < V → 9999 < u)
set_option maxHeartbeats 1000000 in
theorem rn_41 (hn : n ≤ 600) (hA : A 2 = b) {v1 v2 v3 v4 : Int32} (s : Nat) : ∀ (m k : Nat) (v5 : Int32), n - (s + k) = m → s + k ≤ n → (∀ j, s ≤ j → j < s + k → dg (b j) = true) → rvOk (dvl b s k) v5 → I 0 3 = nI n →
    (∀ v, rvOk (nv b n s) v → gWp (gTab (tb_R_readNumber (meth (d + 2)))) Q X 114 [some (.ref (x + 0)), some (.int v1), some (.int v2), some (.int v3), some (.int v4), some (.int v)] [] (gset H x mck P (upI I 0 4 (nI (en dg b n s))) A)) → gWp (gTab (tb_R_readNumber (meth (d + 2)))) Q X 41 [some (.ref (x + 0)), some (.int v1), some (.int v2), some (.int v3), some (.int v4), some (.int v5)] [] (gset H x mck P (upI I 0 4 (nI (s + k))) A) := by
  have hm := @mo_R_readNumber (meth (d + 2)) (meth_smono (d + 2))
  have hen : ∀ k, s + k ≤ n → (∀ j, s ≤ j → j < s + k → dg (b j) = true) → en dg b n s = en dg b n (s + k) := by
    intro k
    induction k with
    | zero => intro _ _; rfl
    | succ k ih => intro h1 h2; rw [ih (by omega) (fun j a b => h2 j a (by omega)), en_y (by omega) (h2 (s + k) (by omega) (by omega))]; rfl
  intro m
  induction m with
  | zero =>
    intro k v5 hk hi hd hv h3 h
    have he : en dg b n s = s + k := by rw [hen k hi hd]; exact en_ge (by omega)
    unfold nv at h
    rw [he, Nat.add_sub_cancel_left] at h
    exact wb_R_readNumber_41 hm ⟨fun _ => h v5 hv, fun c => absurd (by rw [upI_s, upI_f (by decide), h3]; exact nI_le (by omega) (by omega)) c⟩
  | succ m ih =>
    intro k v5 hk hi hd hv h3 h
    refine wb_R_readNumber_41 hm ?_
    rw [upI_s, upI_f (by decide), h3, nI_clamp (by omega), hA]
    refine ⟨fun c => absurd c (nI_ge (by omega) (by omega)), fun _ => ⟨vp_in_nI (by omega) (by omega), sp_R_isDigit (d := d + 1) (wb_R_readNumber_64 hm ⟨fun c => ?_, fun c => ?_⟩)⟩⟩
    · have hq : dg (b (s + k)) = false := by
        cases hq : dg (b (s + k))
        · rfl
        · rw [hq] at c; exact absurd c (by decide)
      have he : en dg b n s = s + k := by rw [hen k hi hd]; exact en_no hq
      unfold nv at h
      rw [he, Nat.add_sub_cancel_left] at h
      exact h v5 hv
    · have hq : dg (b (s + k)) = true := by
        cases hq : dg (b (s + k))
        · rw [hq] at c; exact absurd rfl c
        · rfl
      have go : ∀ v, rvOk (dvl b s (k + 1)) v → gWp (gTab (tb_R_readNumber (meth (d + 2)))) Q X 99 [some (.ref (x + 0)), some (.int v1), some (.int v2), some (.int v3), some (.int v4), some (.int v5)] [.int v] (gset H x mck P (upI I 0 4 (nI (s + k))) A) := by
        intro v hv'
        refine wb_R_readNumber_99 hm ?_
        rw [upI_s, upI_I, nI_1]
        refine ih (k + 1) v (by omega) (by omega) (fun j q1 q2 => ?_) hv' h3 h
        by_cases hj : j = s + k
        · rw [hj]; exact hq
        · exact hd j q1 (by omega)
      obtain ⟨c0, h48, h57, hc0⟩ := dg_n hq
      obtain ⟨u, u1, rfl, u2, u3⟩ := hv
      have e2 : dvl b s (k + 1) = 10 * dvl b s k + (c0 - 48) := by rw [dvl, hc0, nI_clamp (by omega)]
      refine ⟨fun c1 => ⟨by rw [upI_s]; exact vp_in_nI (by omega) (by omega), go _ ?_⟩, fun c1 => go _ ⟨10000, by omega, rfl, fun z => ?_, fun _ => by omega⟩⟩
      · rw [upI_s, nI_clamp (by omega), hA, hc0]
        rw [show (9999 : Int32) = nI 9999 from rfl, nI_leI (by omega) (by omega)] at c1
        refine ⟨10 * u + c0 - 48, by omega, ?_, fun z => ?_, fun z => ?_⟩
        · rw [show (10 : Int32) * nI u = nI (10 * u) from pk_mul 10 u, nI_add, show (48 : Int32) = nI 48 from rfl, nI_sub (by omega)]
        · rw [e2] at z ⊢
          have := u2 (by omega)
          omega
        · rw [e2] at z
          by_cases hx : dvl b s k ≤ 9999
          · have := u2 hx; omega
          · have := u3 (by omega); omega
      · rw [show (9999 : Int32) = nI 9999 from rfl, nI_leI (by omega) (by omega)] at c1
        rw [e2] at z
        by_cases hx : dvl b s k ≤ 9999
        · have := u2 hx; omega
        · omega
set_option maxHeartbeats 1000000 in
theorem sp_R_readNumber {lo hi : Nat} {v1 v2 : Int32} (e1 : v1 = nI lo) (e2 : v2 = nI hi - 1) (hlo : lo ≤ 1000) (hhi : hi ≤ 1000) (hn : n ≤ 600) (hA : A 2 = b) (hc : rS b n o I) (h : ∀ I', tR I I' → rS b n (onum b n lo hi o).2 I' → Q (some (.int (nI (onum b n lo hi o).1))) (gset H x mck P I' A)) : meth (d + 3) m_R_readNumber [.ref (x + 0), .int v1, .int v2] (gset H x mck P I A) Q X := by
  have hm := @mo_R_readNumber (meth (d + 2)) (meth_smono (d + 2))
  subst e1
  subst e2
  refine me_R_readNumber (wb_R_readNumber_0 hm (sp_R_fine (d := d + 1) hn hc (wb_R_readNumber_4 hm ?_)))
  cases o with
  | inl e => exact ⟨fun c => absurd rfl c, fun _ => h I tR_r hc⟩
  | inr s =>
    refine ⟨fun _ => sp_R_here (d := d + 1) hn hA hc (fun I' t1 q1 => wb_R_readNumber_13 hm (sp_R_isDigit (d := d + 1) (wb_R_readNumber_27 hm ⟨fun c => ?_, fun c => ?_⟩))), fun c => absurd i01_1 c⟩
    · have hdt : dg (hv b n s) = true := by
        cases hq : dg (hv b n s)
        · rw [hq] at c; exact absurd rfl c
        · rfl
      have htk := hv_dg.mp hdt
      obtain ⟨x3, x4, x5, xp⟩ := q1
      have hte : s < n ∧ te b n s = en dg b n s := by
        rcases tk_cases b n s with ⟨_, t, _⟩ | ⟨hl, _, _, t⟩ | ⟨_, _, _, t, _⟩ | ⟨_, _, _, t, _⟩
        · rw [t] at htk; exact absurd htk (by decide)
        · exact ⟨hl, t⟩
        · rw [t] at htk; exact absurd htk (by decide)
        · rw [t] at htk; exact absurd htk (by decide)
      have hen : en dg b n s ≤ n := en_n xp.1
      have key := rn_41 (d := d) (Q := Q) (X := X) (H := H) (x := x) (P := P) (I := I') (A := A) (v1 := nI lo) (v2 := nI hi - 1) (v3 := hv b n s) (v4 := I' 0 4) hn hA s (n - s) 0 0 rfl (by omega) (fun j q1 q2 => by omega) ⟨0, by omega, rfl, fun _ => rfl, fun z => absurd z (by show ¬ 9999 < dvl b s 0; unfold dvl; omega)⟩ x3 (fun v hv' => ?_)
      · rw [upI_id (show I' 0 4 = nI (s + 0) from x4)] at key
        exact key
      · obtain ⟨u, u1, rfl, u2, u3⟩ := hv'
        have bad : ¬ (lo ≤ nv b n s ∧ nv b n s < hi) → gWp (gTab (tb_R_readNumber (meth (d + 2)))) Q X 126 [some (.ref (x + 0)), some (.int (nI lo)), some (.int (nI hi - 1)), some (.int (hv b n s)), some (.int (I' 0 4)), some (.int (nI u))] [] (gset H x mck P (upI I' 0 4 (nI (en dg b n s))) A) := by
          intro hno
          rw [x4]
          refine wb_R_readNumber_126 hm (sp_R_wrong (d := d + 1) (o := .inr (sk b n (en dg b n s))) (b := b) (n := n) (k := 2) (q := s) (by omega) xp.1 hn ⟨by rw [upI_f (by decide), x3], en dg b n s, hen, upI_s, by rw [upI_f (by decide), x5], rfl⟩ (fun I2 t2 q2 _ => wb_R_readNumber_133 hm ?_))
          have := h I2 (tR_t (tR_I t1 (by simp)) t2)
          unfold onum at this
          rw [onumh_r, if_pos htk, if_neg hno] at this
          exact this q2
        refine wb_R_readNumber_114 hm ⟨fun c1 => bad (fun q => ?_), fun c1 => ⟨fun c2 => ?_, fun c2 => bad (fun q => ?_)⟩⟩
        · rw [nI_ltI (by omega) (by omega)] at c1
          have := u2 (by omega)
          omega
        · rw [nI_ltI (by omega) (by omega)] at c1
          rw [nI_m1 (by omega) (by omega)] at c2
          have hV : nv b n s ≤ 9999 := by
            by_cases hx : nv b n s ≤ 9999
            · exact hx
            · have := u3 (by omega); omega
          have hu := u2 hV
          have := h _ (tR_I t1 (g := 4) (a := nI (en dg b n s)) (by simp))
          unfold onum at this
          rw [onumh_r, if_pos htk, if_pos (by omega)] at this
          rw [hu]
          exact this ⟨by rw [upI_f (by decide), x3], en dg b n s, hen, upI_s, by rw [upI_f (by decide), x5], by unfold nx; rw [hte.2]⟩
        · rw [nI_m1 (by omega) (by omega)] at c2
          have := u2 (by omega)
          omega
    · have hdf : ¬ tk b n s = 1 := by
        intro q
        rw [hv_dg.mpr q] at c
        exact c (by decide)
      rw [q1.2.1]
      refine sp_R_wrong (d := d + 1) (k := 1) (q := s) (by omega) q1.2.2.2.1 hn (rX_S q1) (fun I2 t2 q2 _ => wb_R_readNumber_39 hm ?_)
      have := h I2 (tR_t t1 t2)
      unfold onum at this
      rw [onumh_r, if_neg hdf] at this
      exact this q2
end L2RL
