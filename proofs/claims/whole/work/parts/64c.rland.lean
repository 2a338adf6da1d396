/-! ===== L2: a state's text, the reference ===== -/
def lRl (z : LZ) (I A : Nat → Nat → Int32) : Prop := I 0 16 = nI (zN z) ∧ I 0 17 = nI (zM z) ∧ I 0 18 = nI (zK z) ∧ (∀ t, t < zN z → A 3 t = nI (zV z t) ∧ A 4 t = nI (zB z t) ∧ A 5 t = nI (zC z t)) ∧ ∀ e, e < zM z → A 6 (2 * e) = nI (zF z e) ∧ A 6 (2 * e + 1) = nI (zT z e)
def lfR (I I' : Nat → Nat → Int32) : Prop := ∀ f, f ≠ 4 → f ≠ 5 → f ≠ 6 → f ≠ 16 → f ≠ 17 → f ≠ 18 → I' 0 f = I 0 f
def lfB (A A' : Nat → Nat → Int32) : Prop := Fr [3, 4, 5, 6] A A'
theorem lfR_r {I : Nat → Nat → Int32} : lfR I I := fun _ _ _ _ _ _ _ => rfl
theorem lfR_t {I I' I'' : Nat → Nat → Int32} (h : lfR I I') (k : lfR I' I'') : lfR I I'' := fun f a b c d e g => (k f a b c d e g).trans (h f a b c d e g)
theorem lfR_T {I I' : Nat → Nat → Int32} (h : tR I I') : lfR I I' := fun f a b c _ _ _ => h f a b c
theorem lfR_I {I I' : Nat → Nat → Int32} {g : Nat} {a : Int32} (h : lfR I I') (hg : g = 16 ∨ g = 17 ∨ g = 18) : lfR I (upI I' 0 g a) := fun f h1 h2 h3 h4 h5 h6 => by rw [upI_f (by omega)]; exact h f h1 h2 h3 h4 h5 h6
theorem lRl_T {z : LZ} {I I' A : Nat → Nat → Int32} (h : tR I I') (hz : lRl z I A) : lRl z I' A := by
  obtain ⟨h1, h2, h3, h4⟩ := hz
  exact ⟨by rw [h 16 (by decide) (by decide) (by decide)]; exact h1, by rw [h 17 (by decide) (by decide) (by decide)]; exact h2, by rw [h 18 (by decide) (by decide) (by decide)]; exact h3, h4⟩
theorem rS_I {b : Nat → Int32} {n : Nat} {o : PO} {I : Nat → Nat → Int32} {f : Nat} {a : Int32} (hf : f ≠ 3 ∧ f ≠ 4 ∧ f ≠ 5 ∧ f ≠ 6) (h : rS b n o I) : rS b n o (upI I 0 f a) := by
  obtain ⟨h3, p, hp, h4, ho⟩ := h
  refine ⟨by rw [upI_f (by omega)]; exact h3, p, hp, by rw [upI_f (by omega)]; exact h4, ?_⟩
  cases o with
  | inl e => exact ⟨by rw [upI_f (by omega)]; exact ho.1, by rw [upI_f (by omega)]; exact ho.2.1, ho.2.2⟩
  | inr s => exact ⟨by rw [upI_f (by omega)]; exact ho.1, ho.2⟩
theorem oword_3 {b : Nat → Int32} {n s : Nat} : oword b n lwW s = if isW b n s (gtx 5) = true then some 0 else if isW b n s (gtx 6) = true then some 1 else if isW b n s (gtx 7) = true then some 2 else none := rfl
def rdE (p : Nat) : PO → Nat × Nat
  | .inl r => r
  | .inr _ => (2, p)
def rdX (z : LZ) (a c p : Nat) : PO → PO
  | .inl r => .inl r
  | .inr s => if a = c ∨ hasR (zF z) (zT z) a c (zM z) = true then .inl (2, p) else .inr s
section L2RD
variable {d n : Nat} {Q : gQ} {X : gX} {H : gH} {x : Nat} {P : Nat → Nat} {I A : Nat → Nat → Int32} {b : Nat → Int32} {o : PO} {z : LZ}
theorem sp_R_readTown {N : Nat} (hN : I 0 16 = nI N) (hN8 : N ≤ 8) (hn : n ≤ 600) (hA : A 2 = b) (hc : rS b n o I) (h : ∀ I', tR I I' → rS b n (onum b n 0 N o).2 I' → Q (some (.int (nI (onum b n 0 N o).1))) (gset H x mck P I' A)) : meth (d + 4) m_R_readTown [.ref (x + 0)] (gset H x mck P I A) Q X := by
  have hm := @mo_R_readTown (meth (d + 3)) (meth_smono (d + 3))
  refine me_R_readTown (wb_R_readTown_0 hm ?_)
  rw [hN]
  exact sp_R_readNumber (lo := 0) rfl rfl (by omega) (by omega) hn hA hc (fun I' t1 q1 => wb_R_readTown_11 hm (h I' t1 q1))
set_option maxHeartbeats 1000000 in
theorem rd_41 {a c p : Nat} {z : LZ} (hn : n ≤ 600) (hz : lRl z I A) (hk : zOk z) (ha : a < 8) (hc8 : c < 8) (hp : p ≤ n) (o0 : PO) :
    ∀ (f e : Nat) (J : Nat → Nat → Int32) (o : PO), e + f = zM z → tR I J → rS b n o J → (osnd o = true → o = o0 ∧ hasR (zF z) (zT z) a c e = false) → (∀ r, o = .inl r → r = rdE p o0 ∧ (osnd o0 = true → a = c ∨ hasR (zF z) (zT z) a c e = true)) → (osnd o = true → a ≠ c) →
    (∀ J' v4, tR I J' → rS b n (rdX z a c p o0) J' → gWp (gTab (tb_R_readRoad (meth (d + 4)))) Q X 117 [some (.ref (x + 0)), some (.int (nI a)), some (.int (nI p)), some (.int (nI c)), some (.int v4), none, none] [] (gset H x mck P J' A)) →
    gWp (gTab (tb_R_readRoad (meth (d + 4)))) Q X 41 [some (.ref (x + 0)), some (.int (nI a)), some (.int (nI p)), some (.int (nI c)), some (.int (nI e)), none, none] [] (gset H x mck P J A) := by
  have hm := @mo_R_readRoad (meth (d + 4)) (meth_smono (d + 4))
  have hasup : ∀ e e', e ≤ e' → hasR (zF z) (zT z) a c e = true → hasR (zF z) (zT z) a c e' = true := by
    intro e e' he h
    induction e' with
    | zero => rw [show e = 0 by omega] at h; exact h
    | succ e' ih =>
      by_cases h2 : e = e' + 1
      · rw [← h2]; exact h
      · rw [hasR, ih (by omega)]; rfl
  -- the end, whichever way
  have fin : ∀ (e : Nat) (J : Nat → Nat → Int32) (o : PO), e ≤ zM z → tR I J → rS b n o J → (osnd o = true → o = o0 ∧ hasR (zF z) (zT z) a c e = false) → (∀ r, o = .inl r → r = rdE p o0 ∧ (osnd o0 = true → a = c ∨ hasR (zF z) (zT z) a c e = true)) → (osnd o = true → a ≠ c) → (osnd o = true → e = zM z) →
    rS b n (rdX z a c p o0) J := by
    intro e J o he t1 q1 h1 h2 h3 h4
    cases o with
    | inl r =>
      obtain ⟨e1, e2⟩ := h2 r rfl
      cases o0 with
      | inl r0 =>
        have e1 : r = r0 := e1
        rw [← e1]
        exact q1
      | inr s =>
        have e1 : r = (2, p) := e1
        show rS b n (if a = c ∨ hasR (zF z) (zT z) a c (zM z) = true then .inl (2, p) else .inr s) J
        rw [if_pos ((e2 rfl).imp id (hasup e (zM z) he)), ← e1]
        exact q1
    | inr s =>
      obtain ⟨e1, e2⟩ := h1 rfl
      rw [h4 rfl] at e2
      rw [← e1]
      show rS b n (if a = c ∨ hasR (zF z) (zT z) a c (zM z) = true then .inl (2, p) else .inr s) J
      rw [if_neg (fun q => q.elim (h3 rfl) (fun q => by rw [e2] at q; cases q))]
      exact q1
  intro f
  induction f with
  | zero =>
    intro e J o he t1 q1 h1 h2 h3 h
    have j17 : J 0 17 = nI (zM z) := by rw [t1 17 (by decide) (by decide) (by decide)]; exact hz.2.1
    have hm12 := hk.2.1
    refine wb_R_readRoad_41 hm ⟨fun _ => h J _ t1 (fin e J o (by omega) t1 q1 h1 h2 h3 (fun _ => by omega)), fun c => absurd (by rw [j17]; exact nI_le (by omega) (by omega)) c⟩
  | succ f ih =>
    intro e J o he t1 q1 h1 h2 h3 h
    have j17 : J 0 17 = nI (zM z) := by rw [t1 17 (by decide) (by decide) (by decide)]; exact hz.2.1
    have hm12 := hk.2.1
    refine wb_R_readRoad_41 hm ⟨fun c => absurd c (by rw [j17]; exact nI_ge (by omega) (by omega)), fun _ => sp_R_fine hn q1 (wb_R_readRoad_54 hm ?_)⟩
    cases ho : o with
    | inl r => exact ⟨fun _ => h J _ t1 (fin e J o (by omega) t1 q1 h1 h2 h3 (fun q => by rw [ho] at q; cases q)), fun c => absurd rfl c⟩
    | inr s =>
      have hs : osnd o = true := by rw [ho]; rfl
      obtain ⟨g1, g2⟩ := h1 hs
      have hac := h3 hs
      have e2 : (2 : Int32) * nI e + 1 = nI (2 * e + 1) := by rw [n_2, nI_1]
      have v1 : vp_in ((2 : Int32) * nI e) 24 := by rw [n_2]; exact vp_in_nI (by omega) (by omega)
      have v2 : vp_in ((2 : Int32) * nI e + 1) 24 := by rw [e2]; exact vp_in_nI (by omega) (by omega)
      have c1 : ((2 : Int32) * nI e).toNatClampNeg = 2 * e := by rw [n_2, nI_clamp (by omega)]
      have c2 : ((2 : Int32) * nI e + 1).toNatClampNeg = 2 * e + 1 := by rw [e2, nI_clamp (by omega)]
      have hzE := hz.2.2.2.2 e (by omega)
      have hkE := hk.2.2.2.2 e (by omega)
      have hk8 := hk.1
      have w1 : (nI (zF z e) = nI a) ↔ zF z e = a := nI_eq (by omega) (by omega)
      have w2 : (nI (zT z e) = nI c) ↔ zT z e = c := nI_eq (by omega) (by omega)
      have w3 : (nI (zF z e) = nI c) ↔ zF z e = c := nI_eq (by omega) (by omega)
      have w4 : (nI (zT z e) = nI a) ↔ zT z e = a := nI_eq (by omega) (by omega)
      have no : ∀ v5 v6, ¬ (zF z e = a ∧ zT z e = c) → ¬ (zF z e = c ∧ zT z e = a) → gWp (gTab (tb_R_readRoad (meth (d + 4)))) Q X 111 [some (.ref (x + 0)), some (.int (nI a)), some (.int (nI p)), some (.int (nI c)), some (.int (nI e)), some (.int v5), some (.int v6)] [] (gset H x mck P J A) := by
        intro v5 v6 n1 n2
        refine wb_R_readRoad_111 hm ?_
        rw [nI_1]
        have hf : hasR (zF z) (zT z) a c (e + 1) = false := by rw [hasR, g2, decide_eq_false n1, decide_eq_false n2]; rfl
        exact ih (e + 1) J o (by omega) t1 q1 (fun _ => ⟨g1, hf⟩) (fun r q => by rw [ho] at q; cases q) h3 h
      have yes : ∀ v5 v6, (zF z e = a ∧ zT z e = c) ∨ (zF z e = c ∧ zT z e = a) → gWp (gTab (tb_R_readRoad (meth (d + 4)))) Q X 105 [some (.ref (x + 0)), some (.int (nI a)), some (.int (nI p)), some (.int (nI c)), some (.int (nI e)), some (.int v5), some (.int v6)] [] (gset H x mck P J A) := by
        intro v5 v6 hy
        rw [ho] at q1
        refine wb_R_readRoad_105 hm (sp_R_wrong (k := 2) (q := p) (by omega) hp hn q1 (fun I2 t2 q2 _ => wb_R_readRoad_111 hm ?_))
        rw [nI_1]
        have hf : hasR (zF z) (zT z) a c (e + 1) = true := by
          rw [hasR]
          rcases hy with hy | hy
          · rw [decide_eq_true hy]; simp
          · rw [decide_eq_true hy]; simp
        refine ih (e + 1) I2 (.inl (2, p)) (by omega) (tR_t t1 t2) q2 (fun q => by cases q) (fun r q => ?_) (fun q => by cases q) h
        cases q
        refine ⟨?_, fun _ => Or.inr hf⟩
        rw [← g1, ho]; rfl
      refine ⟨fun q => absurd q i01_1, fun _ => ⟨v1, v2, ?_⟩⟩
      rw [c1, c2, hzE.1, hzE.2]
      have g93 : ¬ (zF z e = a ∧ zT z e = c) → gWp (gTab (tb_R_readRoad (meth (d + 4)))) Q X 93 [some (.ref (x + 0)), some (.int (nI a)), some (.int (nI p)), some (.int (nI c)), some (.int (nI e)), some (.int (nI (zF z e))), some (.int (nI (zT z e)))] [] (gset H x mck P J A) := by
        intro n1
        exact wb_R_readRoad_93 hm ⟨fun q => no _ _ n1 (fun r => q (w3.mpr r.1)), fun q => ⟨fun q2 => no _ _ n1 (fun r => q2 (w4.mpr r.2)), fun q2 => yes _ _ (Or.inr ⟨w3.mp (Classical.not_not.mp q), w4.mp (Classical.not_not.mp q2)⟩)⟩⟩
      exact ⟨fun q => g93 (fun r => q (w1.mpr r.1)), fun q => ⟨fun q2 => yes _ _ (Or.inl ⟨w1.mp (Classical.not_not.mp q), w2.mp q2⟩), fun q2 => g93 (fun r => q2 (w2.mpr r.2))⟩⟩
set_option maxHeartbeats 1000000 in
theorem sp_R_readRoad (hn : n ≤ 600) (hA : A 2 = b) (hc : rS b n o I) (hz : lRl z I A) (hk : zOk z) (hM : zM z < 12)
    (h : ∀ I' A', lfR I I' → lfB A A' → rS b n (oadv b n (rdO z (onum b n 0 (zN z) o).1 (onumh b n 0 (zN z) (onum b n 0 (zN z) o).2).1 (onumh b n 0 (zN z) (onum b n 0 (zN z) o).2).2)) I' → (osnd (rdO z (onum b n 0 (zN z) o).1 (onumh b n 0 (zN z) (onum b n 0 (zN z) o).2).1 (onumh b n 0 (zN z) (onum b n 0 (zN z) o).2).2) = true → lRl (pcl1 b n z o).1 I' A') → Q none (gset H x mck P I' A')) : meth (d + 5) m_R_readRoad [.ref (x + 0)] (gset H x mck P I A) Q X := by
  have hm := @mo_R_readRoad (meth (d + 4)) (meth_smono (d + 4))
  have hN := hk.1
  have hm12 := hk.2.1
  unfold pcl1 at h
  refine me_R_readRoad (wb_R_readRoad_0 hm (sp_R_readTown hz.1 hN hn hA hc (fun I1 t1 q1 => wb_R_readRoad_4 hm ?_)))
  have b1' := onumh_le (b := b) (n := n) (lo := 0) (hi := zN z) (o := o)
  have b1 : (onum b n 0 (zN z) o).1 < 8 := by show (onumh b n 0 (zN z) o).1 < 8; omega
  generalize h1 : onum b n 0 (zN z) o = r1 at q1 h b1 ⊢
  have hz1 := lRl_T t1 hz
  -- the end: write the road
  have fin : ∀ (a c p : Nat) (v4 : Int32) J (o' : PO), a = r1.1 → c = (onumh b n 0 (zN z) r1.2).1 → tR I J → rS b n o' J → o' = oadv b n (rdO z r1.1 (onumh b n 0 (zN z) r1.2).1 (onumh b n 0 (zN z) r1.2).2) → gWp (gTab (tb_R_readRoad (meth (d + 4)))) Q X 117 [some (.ref (x + 0)), some (.int (nI a)), some (.int (nI p)), some (.int (nI c)), some (.int v4), none, none] [] (gset H x mck P J A) := by
    intro a c p v4 J o' ea ec t1 q1 eo
    subst ea
    subst ec
    rw [eo] at q1
    have hzJ := lRl_T t1 hz
    refine wb_R_readRoad_117 hm ?_
    rw [hzJ.2.1, show (2 : Int32) * nI (zM z) = nI (2 * zM z) from n_2, nI_1, nI_1, nI_clamp (by omega), nI_clamp (by omega)]
    refine ⟨vp_in_nI (by omega) (by omega), vp_in_nI (by omega) (by omega), h _ _ (lfR_I (lfR_T t1) (by simp)) (fr_A (fr_A fr_r (by simp)) (by simp)) (rS_I (by decide) q1) (fun hs => ?_)⟩
    rw [if_pos hs]
    refine ⟨by rw [upI_f (by decide)]; exact hzJ.1, by rw [upI_s]; rfl, by rw [upI_f (by decide)]; exact hzJ.2.2.1, fun t ht => ?_, fun e he => ?_⟩
    · rw [upA_n (by decide), upA_n (by decide), upA_n (by decide), upA_n (by decide), upA_n (by decide), upA_n (by decide)]
      exact hzJ.2.2.2.1 t ht
    · have he : e < zM z + 1 := he
      show _ = nI (updN (zF z) (zM z) r1.1 e) ∧ _ = nI (updN (zT z) (zM z) (onumh b n 0 (zN z) r1.2).1 e)
      rw [upA_s, upA_s]
      by_cases hh : e = zM z
      · rw [hh, upd_at, upd_ne (by omega), upd_at, updN_s, updN_s]; exact ⟨rfl, rfl⟩
      · rw [upd_ne (by omega), upd_ne (by omega), upd_ne (by omega), upd_ne (by omega), updN_n hh, updN_n hh]
        exact hzJ.2.2.2.2 e (by omega)
  rcases r1 with ⟨r1a, r1o⟩
  cases r1o with
  | inl e =>
    have hr : ∀ c, oadv b n (rdO z r1a c (.inl e)) = .inl e := by
      intro c
      unfold rdO
      by_cases hq : r1a = c ∨ hasR (zF z) (zT z) r1a c (zM z) = true
      · rw [if_pos hq]; rfl
      · rw [if_neg hq]; rfl
    refine sp_R_hereF hn hA q1 (fun v I2 t2 q2 => wb_R_readRoad_9 hm ?_)
    obtain ⟨p, hp, h4, _⟩ := q2.2
    rw [h4]
    have hz2 := lRl_T t2 hz1
    refine sp_R_readTown hz2.1 hN hn hA q2 (fun I3 t3 q3 => wb_R_readRoad_19 hm (sp_R_fine hn q3 (wb_R_readRoad_24 hm ⟨fun _ => wb_R_readRoad_38 hm ?_, fun c => absurd rfl c⟩)))
    have hz3 := lRl_T t3 hz2
    refine rd_41 (z := z) (a := r1a) (c := 0) (p := p) hn hz3 hk b1 (by omega) hp (.inl e) (zM z) 0 I3 (.inl e) (by omega) tR_r q3 (fun q => by cases q) (fun r q => by cases q; exact ⟨rfl, fun q => by cases q⟩) (fun q => by cases q) (fun J' v4 t4 q4 => fin r1a 0 p v4 J' (.inl e) rfl rfl (tR_t t1 (tR_t t2 (tR_t t3 t4))) q4 (hr _).symm)
  | inr s =>
    refine sp_R_here hn hA q1 (fun I2 t2 q2 => wb_R_readRoad_9 hm ?_)
    have hz2 := lRl_T t2 hz1
    have hs := q2.2.2.2.1
    rw [q2.2.1]
    refine sp_R_readTown hz2.1 hN hn hA (rX_S q2) (fun I3 t3 q3 => wb_R_readRoad_19 hm ?_)
    have b2' := onumh_le (b := b) (n := n) (lo := 0) (hi := zN z) (o := .inr s)
    have hz3 := lRl_T t3 hz2
    have t13 := tR_t t1 (tR_t t2 t3)
    have e2 : onum b n 0 (zN z) (.inr s) = ((onumh b n 0 (zN z) (.inr s)).1, oadv b n (onumh b n 0 (zN z) (.inr s)).2) := rfl
    rw [e2] at q3 ⊢
    have hcases : (∃ e, (onumh b n 0 (zN z) (.inr s)).2 = .inl e) ∨ (onumh b n 0 (zN z) (.inr s)).2 = .inr s := by
      rw [onumh_r]
      by_cases h1 : tk b n s = 1
      · rw [if_pos h1]
        by_cases h2 : 0 ≤ nv b n s ∧ nv b n s < zN z
        · rw [if_pos h2]; exact Or.inr rfl
        · rw [if_neg h2]; exact Or.inl ⟨_, rfl⟩
      · rw [if_neg h1]; exact Or.inl ⟨_, rfl⟩
    generalize hr2 : onumh b n 0 (zN z) (.inr s) = r2 at q3 b2' hcases fin ⊢
    rcases r2 with ⟨c, r2o⟩
    have c8 : c < 8 := by omega
    rcases hcases with ⟨e, he⟩ | he
    · have he : r2o = .inl e := he
      subst he
      have hr : ∀ c, oadv b n (rdO z r1a c (.inl e)) = .inl e := by
        intro c
        unfold rdO
        by_cases hq : r1a = c ∨ hasR (zF z) (zT z) r1a c (zM z) = true
        · rw [if_pos hq]; rfl
        · rw [if_neg hq]; rfl
      refine sp_R_fine hn q3 (wb_R_readRoad_24 hm ⟨fun _ => wb_R_readRoad_38 hm ?_, fun c => absurd rfl c⟩)
      exact rd_41 (z := z) (a := r1a) (c := c) (p := s) hn hz3 hk b1 c8 hs (.inl e) (zM z) 0 I3 (.inl e) (by omega) tR_r q3 (fun q => by cases q) (fun r q => by cases q; exact ⟨rfl, fun q => by cases q⟩) (fun q => by cases q) (fun J' v4 t4 q4 => fin r1a c s v4 J' (.inl e) rfl rfl (tR_t t13 t4) q4 (hr _).symm)
    · have he : r2o = .inr s := he
      subst he
      have q3 : rS b n (.inr (nx b n s)) I3 := q3
      have hac : nI r1a = nI c ↔ r1a = c := nI_eq (by omega) (by omega)
      have hend : ∀ J' v4, tR I3 J' → rS b n (if r1a = c ∨ hasR (zF z) (zT z) r1a c (zM z) = true then .inl (2, s) else .inr (nx b n s)) J' → gWp (gTab (tb_R_readRoad (meth (d + 4)))) Q X 117 [some (.ref (x + 0)), some (.int (nI r1a)), some (.int (nI s)), some (.int (nI c)), some (.int v4), none, none] [] (gset H x mck P J' A) := by
        intro J' v4 t4 q4
        refine fin r1a c s v4 J' _ rfl rfl (tR_t t13 t4) q4 ?_
        unfold rdO
        by_cases hq : r1a = c ∨ hasR (zF z) (zT z) r1a c (zM z) = true
        · rw [if_pos hq, if_pos hq]; rfl
        · rw [if_neg hq, if_neg hq]; rfl
      refine sp_R_fine hn q3 (wb_R_readRoad_24 hm ⟨fun q => absurd q i01_1, fun _ => ⟨fun q => wb_R_readRoad_38 hm ?_, fun q => ?_⟩⟩)
      · exact rd_41 (z := z) (a := r1a) (c := c) (p := s) hn hz3 hk b1 c8 hs (.inr (nx b n s)) (zM z) 0 I3 (.inr (nx b n s)) (by omega) tR_r q3 (fun _ => ⟨rfl, rfl⟩) (fun r q => by cases q) (fun _ r => q (hac.mpr r)) hend
      · refine sp_R_wrong (k := 2) (q := s) (by omega) hs hn q3 (fun I4 t4 q4 _ => wb_R_readRoad_38 hm ?_)
        have hq := hac.mp (Classical.not_not.mp q)
        refine rd_41 (z := z) (a := r1a) (c := c) (p := s) hn (lRl_T t4 hz3) hk b1 c8 hs (.inr (nx b n s)) (zM z) 0 I4 (.inl (2, s)) (by omega) tR_r q4 (fun q => by cases q) (fun r q => by cases q; exact ⟨rfl, fun _ => Or.inl hq⟩) (fun q => by cases q) (fun J' v4 t5 q5 => hend J' v4 (tR_t t4 t5) q5)
end L2RD
