/-! ===== L2: a book's text ===== -/
/-- lines; by town -1 or the party -/
abbrev BZ : Type := Nat × (Nat → Int32)
section BP
variable (b : Nat → Int32) (n N : Nat)
def bfst (z : BZ) (s : Nat) : PO := if z.2 (onumh b n 0 N (.inr s)).1 ≠ -1 then ofail 2 (onumh b n 0 N (.inr s)).2 else (onumh b n 0 N (.inr s)).2
def pline (z : BZ) (s : Nat) : BZ × PO := ((z.1 + 1, upd z.2 (onumh b n 0 N (.inr s)).1 (nI (onum b n 0 3 (oadv b n (bfst b n N z s))).1)), osign b n 59 (onum b n 0 3 (oadv b n (bfst b n N z s))).2)
def bloop : Nat → BZ × PO → BZ × PO
  | 0, r => r
  | k + 1, r => match r.2 with
    | .inl _ => r
    | .inr s => if n ≤ s then r else bloop k (pline b n N r.1 s)
def pbook (o : PO) : BZ × PO := bloop b n N 60 ((0, fun _ => -1), o)
end BP
def bOk (N : Nat) (z : BZ) : Prop := (∀ t, z.2 t = -1 ∨ ∃ p, p ≤ 2 ∧ z.2 t = nI p) ∧ ∀ t, N ≤ t → z.2 t = -1
def bC (q : Nat) (z : BZ) (I A : Nat → Nat → Int32) : Prop := I q 2 = nI z.1 ∧ (∀ t, t < 8 → (bt (I q 3) t = true ↔ z.2 t ≠ -1)) ∧ ∀ t, t < 8 → z.2 t ≠ -1 → A (q + 1) t = z.2 t
def bqI (q : Nat) (I I' : Nat → Nat → Int32) : Prop := Fr [1, q] I I' ∧ I' 1 1 = I 1 1
theorem bqI_T {q : Nat} {I I' : Nat → Nat → Int32} (h : tT I I') : bqI q I I' := ⟨fr_m h.1 (by simp), h.2⟩
theorem bqI_t {q : Nat} {I I' I'' : Nat → Nat → Int32} (h : bqI q I I') (k : bqI q I' I'') : bqI q I I'' := ⟨fr_t h.1 k.1, k.2.trans h.2⟩
section BPG
variable {b : Nat → Int32} {n N : Nat}
theorem bloop_inl {k : Nat} {z : BZ} {e : Nat × Nat} : bloop b n N k (z, .inl e) = (z, .inl e) := by cases k <;> rfl
theorem bloop_r {k s : Nat} {z : BZ} : bloop b n N (k + 1) (z, .inr s) = if n ≤ s then (z, .inr s) else bloop b n N k (pline b n N z s) := rfl
theorem pline_pos {z : BZ} {s s' : Nat} (hs : s ≤ n) (h : (pline b n N z s).2 = .inr s') : s < s' ∧ s' ≤ n ∧ (onumh b n 0 N (.inr s)).1 < N ∧ (onum b n 0 3 (oadv b n (bfst b n N z s))).1 ≤ 2 ∧ z.2 (onumh b n 0 N (.inr s)).1 = -1 := by
  unfold pline at h
  obtain ⟨s3, e3, k3, _, e3'⟩ := osign_ok h
  obtain ⟨s2, e2⟩ := onum_in e3
  rw [e2] at e3 ⊢
  have ho : osnd (bfst b n N z s) = true := by rw [← oadv_snd (b := b) (n := n), e2]; rfl
  by_cases hz : z.2 (onumh b n 0 N (.inr s)).1 ≠ -1
  · unfold bfst at ho
    rw [if_pos hz, osnd_fail] at ho
    cases ho
  · have hb : bfst b n N z s = (onumh b n 0 N (.inr s)).2 := by unfold bfst; rw [if_neg hz]
    rw [hb] at ho e2
    have ok := onumh_ok ho
    have p1 := onum_pos (b := b) (lo := 0) (hi := N) hs (s' := s2) (by unfold onum; exact e2)
    have p2 := onum_pos p1.2.1 e3
    have hp := nx_P (b := b) p2.2.1
    have hl := hp.2.2 (tk_3 k3).1
    exact ⟨by omega, by rw [e3']; exact hp.1.1, ok.2.1, by omega, Classical.not_not.mp hz⟩
theorem pline_ok {z : BZ} {s s' : Nat} (hs : s ≤ n) (hz : bOk N z) (h : (pline b n N z s).2 = .inr s') : bOk N (pline b n N z s).1 := by
  obtain ⟨_, _, h1, h2, _⟩ := pline_pos hs h
  refine ⟨fun t => ?_, fun t ht => ?_⟩
  · show upd z.2 _ _ t = -1 ∨ ∃ p, p ≤ 2 ∧ upd z.2 _ _ t = nI p
    by_cases ht : t = (onumh b n 0 N (.inr s)).1
    · rw [ht, upd_at]; exact Or.inr ⟨_, h2, rfl⟩
    · rw [upd_ne ht]; exact hz.1 t
  · show upd z.2 _ _ t = -1
    rw [upd_ne (by omega)]; exact hz.2 t ht
theorem bloop_ok : ∀ (k : Nat) (r : BZ × PO), (∀ s, r.2 = .inr s → s ≤ n ∧ bOk N r.1) → ∀ s', (bloop b n N k r).2 = .inr s' → s' ≤ n ∧ bOk N (bloop b n N k r).1
  | 0, r, h, s', e => h s' e
  | k + 1, (z, .inl er), h, s', e => by cases e
  | k + 1, (z, .inr s), h, s', e => by
    rw [bloop_r] at e ⊢
    by_cases hs : n ≤ s
    · rw [if_pos hs] at e ⊢; exact h s' e
    · rw [if_neg hs] at e ⊢
      refine bloop_ok k _ (fun s2 e2 => ?_) s' e
      have := h s rfl
      exact ⟨(pline_pos this.1 e2).2.1, pline_ok this.1 this.2 e2⟩
theorem pbook_ok {o : PO} {s' : Nat} (ho : ∀ s, o = .inr s → s ≤ n) (h : (pbook b n N o).2 = .inr s') : bOk N (pbook b n N o).1 := (bloop_ok 60 _ (fun s e => ⟨ho s e, fun _ => Or.inl rfl, fun _ _ => rfl⟩) s' h).2
end BPG
section L2BK
variable {d n N q : Nat} {Q : gQ} {X : gX} {H : gH} {x : Nat} {P : Nat → Nat} {I A : Nat → Nat → Int32} {b : Nat → Int32}
theorem sp_Book_clear (hq : cck q = (0 + 2, 0)) (h : Q none (gset H x cck P (upI (upI I q 2 0) q 3 0) A)) : meth (d + 1) m_Book_clear [.ref (x + q)] (gset H x cck P I A) Q X := by
  have hm := @mo_Book_clear (meth d) (meth_smono d)
  exact me_Book_clear (wb_Book_clear_0 hm hq h)
theorem sp_Book_holds {t : Nat} (hq : cck q = (0 + 2, 0)) (ht : t < 32) (h : Q (some (.int (i01 (bt (I q 3) t)))) (gset H x cck P I A)) : meth (d + 1) m_Book_holds [.ref (x + q), .int (nI t)] (gset H x cck P I A) Q X := by
  have hm := @mo_Book_holds (meth d) (meth_smono d)
  refine me_Book_holds (wb_Book_holds_0 hm hq ⟨fun c => wb_Book_holds_17 hm ⟨rfl, ?_⟩, fun c => wb_Book_holds_17 hm ⟨rfl, ?_⟩⟩)
  · rw [b_at1 ht] at c
    cases hb : bt (I q 3) t
    · rw [hb] at h; exact h
    · exact absurd hb c
  · rw [Classical.not_not, b_at1 ht] at c
    rw [c] at h
    exact h
set_option maxHeartbeats 1000000 in
theorem sp_Book_readLine {s : Nat} {z : BZ} (hq : cck q = (0 + 2, 0)) (hn : n ≤ 600) (hN8 : N ≤ 8) (hA : A 2 = b) (hc : cS b n (.inr s) I) (hs : s ≤ n) (hz : bC q z I A)
    (h : ∀ I' A', bqI q I I' → Fr [q + 1] A A' → cS b n (pline b n N z s).2 I' → (osnd (pline b n N z s).2 = true → bC q (pline b n N z s).1 I' A') → Q none (gset H x cck P I' A')) : meth (d + 4) m_Book_readLine [.ref (x + q), .ref (x + 1), .int (nI N)] (gset H x cck P I A) Q X := by
  have hm := @mo_Book_readLine (meth (d + 3)) (meth_smono (d + 3))
  have dK := cck_K hq
  have q1 : q ≠ 1 := by omega
  have hpp := fun s' (e : (pline b n N z s).2 = .inr s') => pline_pos (b := b) (N := N) (z := z) hs e
  unfold pline bfst at h hpp
  refine me_Book_readLine (wb_Book_readLine_0 hm (sp_Tape_numberHere (lo := 0) (hi := N) rfl rfl (by omega) (by omega) hn hc (fun I1 t1 k1 => wb_Book_readLine_8 hm hq ?_)))
  have b1' := onumh_le (b := b) (n := n) (lo := 0) (hi := N) (o := .inr s)
  generalize hr1 : onumh b n 0 N (.inr s) = r1 at k1 h hpp b1' ⊢
  have b1 : r1.1 < 8 := by omega
  have i1 : I1 q = I q := t1.1 q (by simp; exact q1)
  -- from 22
  have g22 : ∀ I2 (o2 : PO), tT I I2 → cS b n o2 I2 → (if z.2 r1.1 ≠ -1 then ofail 2 r1.2 else r1.2) = o2 → gWp (gTab (tb_Book_readLine (meth (d + 3)))) Q X 22 [some (.ref (x + q)), some (.ref (x + 1)), some (.int (nI N)), some (.int (nI r1.1))] [] (gset H x cck P I2 A) := by
    intro I2 o2 t2 k2 e2
    rw [e2] at h hpp
    refine wb_Book_readLine_22 hm (sp_Tape_advance hn hA k2 (fun I3 t3 k3 => wb_Book_readLine_26 hm hq (sp_Tape_number (lo := 0) (hi := 3) rfl rfl (by omega) (by omega) hn hA k3 (fun I4 t4 k4 => wb_Book_readLine_37 hm hq ?_))))
    generalize hr2 : onum b n 0 3 (oadv b n o2) = r2 at k4 h hpp
    have t24 := tT_t t2 (tT_t t3 t4)
    have i4 : I4 q = I q := t24.1 q (by simp; exact q1)
    rw [nI_clamp (by omega)]
    refine ⟨vp_in_nI (by omega) (by omega), ?_⟩
    rw [upI_f (show (2 : Nat) ≠ 3 by decide), i4, hz.1, nI_1]
    refine sp_Tape_sign hn (by rw [upA_n (by omega)]; exact hA) (cS_ne q1 (cS_ne q1 k4)) (fun I5 t5 k5 => wb_Book_readLine_66 hm (h I5 _ (bqI_t (bqI_T t24) (bqI_t ⟨fr_I (fr_I fr_r (by simp)) (by simp), by rw [upI_n (Ne.symm q1), upI_n (Ne.symm q1)]⟩ (bqI_T t5))) (fr_A fr_r (by simp)) k5 (fun ho => ?_)))
    cases ho' : osign b n 59 r2.2 with
    | inl er => rw [ho'] at ho; cases ho
    | inr s' =>
      obtain ⟨_, _, g1, g2, g3⟩ := hpp s' ho'
      have i5 : I5 q = upI (upI I4 q 3 (I q 3 ||| (1 : Int32) <<< (nI r1.1 &&& 31))) q 2 (nI (z.1 + 1)) q := t5.1 q (by simp; exact q1)
      refine ⟨by rw [i5, upI_s], fun t ht => ?_, fun t ht hne => ?_⟩
      · rw [i5, upI_f (by decide), upI_s, b_or, b_1shl (by omega) (by omega)]
        show _ ↔ upd z.2 r1.1 (nI r2.1) t ≠ -1
        by_cases he : t = r1.1
        · rw [he, upd_at, decide_eq_true rfl, Bool.or_true]
          exact ⟨fun _ => nI_nm1 (by omega), fun _ => rfl⟩
        · rw [upd_ne he, decide_eq_false he, Bool.or_false]
          exact hz.2.1 t ht
      · have hne : upd z.2 r1.1 (nI r2.1) t ≠ -1 := hne
        show _ = upd z.2 r1.1 (nI r2.1) t
        rw [upA_s]
        by_cases he : t = r1.1
        · rw [he, upd_at, upd_at]
        · rw [upd_ne he] at hne ⊢
          rw [upd_ne he]
          exact hz.2.2 t ht hne
  have hbt := hz.2.1 r1.1 b1
  refine sp_Book_holds hq (by omega) (wb_Book_readLine_14 hm ⟨fun c => g22 I1 r1.2 t1 k1 ?_, fun c => sp_Tape_fail (k := 2) (by omega) hn k1 (fun I2 t2 k2 => g22 I2 (ofail 2 r1.2) (tT_t t1 t2) k2 ?_)⟩)
  · have hb := b_i00 c
    rw [i1] at hb
    rw [if_neg (fun q => by rw [hbt.mpr q] at hb; cases hb)]
  · have hb := b_i01 c
    rw [i1] at hb
    rw [if_pos (hbt.mp hb)]
set_option maxHeartbeats 1000000 in
theorem sp_Book_read {o : PO} (hq : cck q = (0 + 2, 0)) (hn : n ≤ 60) (hN8 : N ≤ 8) (hA : A 2 = b) (hc : cS b n o I) (ho : ∀ s, o = .inr s → s ≤ n)
    (h : ∀ I' A', bqI q I I' → Fr [q + 1] A A' → cS b n (pbook b n N o).2 I' → (osnd (pbook b n N o).2 = true → bC q (pbook b n N o).1 I' A') → Q none (gset H x cck P I' A')) : meth (d + 5) m_Book_read [.ref (x + q), .ref (x + 1), .int (nI N)] (gset H x cck P I A) Q X := by
  have hm := @mo_Book_read (meth (d + 4)) (meth_smono (d + 4))
  have dK := cck_K hq
  have q1 : q ≠ 1 := by omega
  have loop : ∀ (f i : Nat) (r : BZ × PO) (I1 A1 : Nat → Nat → Int32), i + f = 60 → bqI q I I1 → Fr [q + 1] A A1 → cS b n r.2 I1 → bloop b n N f r = pbook b n N o → (∀ s, r.2 = .inr s → s ≤ n ∧ bC q r.1 I1 A1) → gWp (gTab (tb_Book_read (meth (d + 4)))) Q X 6 [some (.ref (x + q)), some (.ref (x + 1)), some (.int (nI N)), some (.int (nI i))] [] (gset H x cck P I1 A1) := by
    intro f
    induction f with
    | zero =>
      intro i r I1 A1 hi f1 f2 c1 e p1
      rw [← e] at h
      refine wb_Book_read_6 hm ⟨fun _ => wb_Book_read_38 hm (h I1 A1 f1 f2 c1 (fun hs => ?_)), fun c => absurd (nI_le (a := 60) (by omega) (by omega)) c⟩
      have hs : osnd r.2 = true := hs
      cases hr : r.2 with
      | inl e => rw [hr] at hs; cases hs
      | inr s => exact (p1 s hr).2
    | succ f ih =>
      intro i r I1 A1 hi f1 f2 c1 e p1
      refine wb_Book_read_6 hm ⟨fun c => absurd c (nI_ge (b := 60) (by omega) (by omega)), fun _ => sp_Tape_sound c1 (wb_Book_read_16 hm hq ?_)⟩
      rcases r with ⟨z1, ro⟩
      cases ro with
      | inl er =>
        rw [bloop_inl] at e
        rw [← e] at h
        exact ⟨fun _ => wb_Book_read_38 hm (h I1 A1 f1 f2 c1 (fun q => by cases q)), fun c => absurd rfl c⟩
      | inr s =>
        obtain ⟨ps, p2⟩ := p1 s rfl
        rw [bloop_r] at e
        refine ⟨fun c => absurd c i01_1, fun _ => ⟨fun c => ?_, fun c => ?_⟩⟩
        · rw [if_pos ((ct_end c1).mp c)] at e
          rw [← e] at h
          exact wb_Book_read_38 hm (h I1 A1 f1 f2 c1 (fun _ => p2))
        · rw [if_neg (fun q => c ((ct_end c1).mpr q))] at e
          refine sp_Book_readLine hq (by omega) hN8 (by rw [f2 2 (by simp; omega)]; exact hA) c1 ps p2 (fun I2 A2 g1 g2 k2 p3 => wb_Book_read_32 hm ?_)
          rw [nI_1]
          exact ih (i + 1) _ I2 A2 (by omega) (bqI_t f1 g1) (fr_t f2 g2) k2 e (fun s' e' => ⟨(pline_pos ps e').2.1, p3 (by rw [e']; rfl)⟩)
  refine me_Book_read (wb_Book_read_0 hm hq (sp_Book_clear hq (wb_Book_read_4 hm (loop 60 0 _ _ A rfl ⟨fr_I (fr_I fr_r (by simp)) (by simp), by rw [upI_n (Ne.symm q1), upI_n (Ne.symm q1)]⟩ fr_r (cS_ne q1 (cS_ne q1 hc)) rfl (fun s e => ⟨ho s e, ?_⟩)))))
  refine ⟨by rw [upI_f (by decide), upI_s]; rfl, fun t ht => ?_, fun t _ hne => absurd rfl hne⟩
  rw [upI_s, b_0]
  exact ⟨fun q => (by cases q), fun q => absurd rfl q⟩
/-- the reference's loop of lines -/
theorem rb_67 {o : PO} {v1 : Int32} (hn : n ≤ 60) (hN8 : N ≤ 8) : ∀ (f i : Nat) (r : BZ × PO) (I A : Nat → Nat → Int32), i + f = 60 → (∀ s, r.2 = .inr s → i ≤ s) → A 2 = b → I 0 19 = nI N → rS b n r.2 I → bloop b n N f r = pbook b n N o → (∀ s, r.2 = .inr s → s ≤ n ∧ ∀ t, t < 8 → A 21 t = r.1.2 t) →
    (∀ I' A' v, tR I I' → Fr [21] A A' → rS b n (pbook b n N o).2 I' → (osnd (pbook b n N o).2 = true → v = nI (pbook b n N o).1.1 ∧ ∀ t, t < 8 → A' 21 t = (pbook b n N o).1.2 t) → gWp (gTab (tb_R_book (meth (d + 3)))) Q X 167 [some (.ref (x + 0)), some (.int v1), some (.int v), none, none, none] [] (gset H x mck P I' A')) →
    gWp (gTab (tb_R_book (meth (d + 3)))) Q X 67 [some (.ref (x + 0)), some (.int v1), some (.int (nI r.1.1)), none, none, none] [] (gset H x mck P I A) := by
  have hm := @mo_R_book (meth (d + 3)) (meth_smono (d + 3))
  have hn6 : n ≤ 600 := by omega
  intro f
  induction f with
  | zero =>
    intro i r I A hi is hA h19 hc e p1 h
    have e : r = pbook b n N o := e
    rw [← e] at h
    refine wb_R_book_67 hm (sp_R_fine hn6 hc (wb_R_book_71 hm ?_))
    rcases r with ⟨z1, ro⟩
    cases ro with
    | inl er => exact ⟨fun _ => h I A _ tR_r fr_r hc (fun q => by cases q), fun c => absurd rfl c⟩
    | inr s =>
      obtain ⟨ps, p2⟩ := p1 s rfl
      have := is s rfl
      refine ⟨fun q => absurd q i01_1, fun _ => sp_R_isMore hn6 hA hc (fun I1 t1 k1 => wb_R_book_78 hm ⟨fun c => h I1 A _ t1 fr_r (rX_S k1) (fun _ => ⟨rfl, p2⟩), fun c => ?_⟩)⟩
      have := b_i01 c
      rw [decide_eq_true_eq] at this
      omega
  | succ f ih =>
    intro i r I A hi is hA h19 hc e p1 h
    refine wb_R_book_67 hm (sp_R_fine hn6 hc (wb_R_book_71 hm ?_))
    rcases r with ⟨z1, ro⟩
    cases ro with
    | inl er =>
      rw [bloop_inl] at e
      rw [← e] at h
      exact ⟨fun _ => h I A _ tR_r fr_r hc (fun q => by cases q), fun c => absurd rfl c⟩
    | inr s =>
      obtain ⟨ps, p2⟩ := p1 s rfl
      have is2 := is s rfl
      rw [bloop_r] at e
      refine ⟨fun q => absurd q i01_1, fun _ => sp_R_isMore hn6 hA hc (fun I1 t1 k1 => wb_R_book_78 hm ⟨fun c => ?_, fun c => ?_⟩)⟩
      · have hs := b_i00 c
        rw [decide_eq_false_iff_not] at hs
        rw [if_pos (by omega)] at e
        rw [← e] at h
        exact h I1 A _ t1 fr_r (rX_S k1) (fun _ => ⟨rfl, p2⟩)
      · have hs := b_i01 c
        rw [decide_eq_true_eq] at hs
        rw [if_neg (by omega)] at e
        have hpp := fun s' (e : (pline b n N z1 s).2 = .inr s') => pline_pos (b := b) (N := N) (z := z1) ps e
        have hih := fun I2 A2 => ih (i + 1) (pline b n N z1 s) I2 A2 (by omega)
        refine sp_R_here hn6 hA (rX_S k1) (fun I2 t2 k2 => wb_R_book_85 hm ?_)
        have t12 := tR_t t1 t2
        rw [k2.2.1, t12 19 (by decide) (by decide) (by decide), h19]
        refine sp_R_readNumber (lo := 0) (hi := N) rfl rfl (by omega) (by omega) hn6 hA (rX_S k2) (fun I3 t3 k3 => wb_R_book_102 hm (sp_R_fine hn6 k3 (wb_R_book_108 hm ?_)))
        have t13 := tR_t t12 t3
        have b1' := onumh_le (b := b) (n := n) (lo := 0) (hi := N) (o := .inr s)
        rw [show onum b n 0 N (.inr s) = ((onumh b n 0 N (.inr s)).1, oadv b n (onumh b n 0 N (.inr s)).2) from rfl] at k3 ⊢
        dsimp only at k3 ⊢
        unfold pline bfst at e hpp hih
        have hcs : (∃ e, (onumh b n 0 N (.inr s)).2 = .inl e) ∨ (onumh b n 0 N (.inr s)).2 = .inr s := by
          rw [onumh_r]
          by_cases h1 : tk b n s = 1
          · rw [if_pos h1]
            by_cases h2 : 0 ≤ nv b n s ∧ nv b n s < N
            · rw [if_pos h2]; exact Or.inr rfl
            · rw [if_neg h2]; exact Or.inl ⟨_, rfl⟩
          · rw [if_neg h1]; exact Or.inl ⟨_, rfl⟩
        generalize hr1 : onumh b n 0 N (.inr s) = r1 at k3 e hpp hih b1' hcs ⊢
        have b1 : r1.1 < 8 := by omega
        -- from 128
        have g128 : ∀ I4 (o4 : PO), tR I I4 → rS b n o4 I4 → oadv b n (if z1.2 r1.1 ≠ -1 then ofail 2 r1.2 else r1.2) = o4 → gWp (gTab (tb_R_book (meth (d + 3)))) Q X 128 [some (.ref (x + 0)), some (.int v1), some (.int (nI z1.1)), some (.int (nI s)), some (.int (nI r1.1)), none] [] (gset H x mck P I4 A) := by
          intro I4 o4 t4 k4 e4
          rw [e4] at e hpp hih
          refine wb_R_book_128 hm (sp_R_readNumber (lo := 0) (hi := 3) rfl rfl (by omega) (by omega) hn6 hA k4 (fun I5 t5 k5 => wb_R_book_134 hm (sp_R_sign (by decide) (by decide) (by decide) hn6 hA k5 (fun I6 t6 k6 => wb_R_book_142 hm (sp_R_fine hn6 k6 (wb_R_book_146 hm ?_))))))
          generalize hr2 : onum b n 0 3 o4 = r2 at k6 e hpp hih ⊢
          have t16 := tR_t t4 (tR_t t5 t6)
          rw [nI_clamp (by omega), nI_1]
          refine ⟨fun c => ⟨vp_in_nI (by omega) (by omega), ?_⟩, fun c => ?_⟩
          · have ho := b_i01 c
            refine hih I6 _ (fun s' e' => by have := hpp s' e'; omega) (by rw [upA_n (by decide)]; exact hA) (by rw [t16 19 (by decide) (by decide) (by decide)]; exact h19) k6 e (fun s' e' => ⟨(hpp s' e').2.1, fun t ht => ?_⟩) (fun I7 A7 v t7 f7 k7 p7 => h I7 A7 v (tR_t t16 t7) (fr_t (fr_A fr_r (by simp)) f7) k7 p7)
            rw [upA_s]
            show upd (A 21) r1.1 (nI r2.1) t = upd z1.2 r1.1 (nI r2.1) t
            by_cases he : t = r1.1
            · rw [he, upd_at, upd_at]
            · rw [upd_ne he, upd_ne he]; exact p2 t ht
          · have ho := b_i00 (Classical.not_not.mp c)
            cases ho' : osign b n 59 r2.2 with
            | inr s' => rw [ho'] at ho; cases ho
            | inl er =>
              rw [ho'] at e k6
              rw [bloop_inl] at e
              rw [← e] at h
              exact h I6 A _ t16 fr_r k6 (fun q => by cases q)
        rcases hcs with ⟨er, he⟩ | he
        · rw [he] at k3 g128 ⊢
          refine ⟨fun _ => g128 I3 (.inl er) t13 k3 ?_, fun c => absurd rfl c⟩
          by_cases hz : z1.2 r1.1 ≠ -1
          · rw [if_pos hz]; rfl
          · rw [if_neg hz]; rfl
        · rw [he] at k3 g128 ⊢
          refine ⟨fun q => absurd q i01_1, fun _ => ⟨vp_in_nI (by omega) (by omega), ?_⟩⟩
          rw [nI_clamp (by omega), p2 r1.1 b1]
          refine ⟨fun c => g128 I3 (.inr (nx b n s)) t13 k3 ?_, fun c => ?_⟩
          · rw [if_neg (fun q => q c)]; rfl
          · refine sp_R_wrong (k := 2) (q := s) (by omega) ps hn6 k3 (fun I4 t4 k4 _ => g128 I4 (.inl (2, s)) (tR_t t13 t4) k4 ?_)
            rw [if_pos c]; rfl
end L2BK
