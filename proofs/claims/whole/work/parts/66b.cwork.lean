/-! ===== L2: a work's text, the class ===== -/
def cPw (E : Nat → Prop) (A : Nat → Nat → Int32) (g : PG) (i : Nat) : Prop := A 36 i = nI (g.1 i) ∧ (g.1 i ≤ 1 ∨ g.1 i = 5 → A 37 i = nI (g.2.1 i)) ∧ (g.1 i = 0 ∨ (g.1 i = 5 ∧ ¬ E i) → A 38 i = nI (g.2.2.1 i)) ∧ (g.1 i = 0 → A 39 i = g.2.2.2 i)
def dqI (I I' : Nat → Nat → Int32) : Prop := Fr [1, 35] I I' ∧ I' 1 1 = I 1 1 ∧ ∀ f, f ≠ 4 → I' 35 f = I 35 f
def dqA (A A' : Nat → Nat → Int32) : Prop := Fr [36, 37, 38, 39] A A'
theorem dqI_r {I : Nat → Nat → Int32} : dqI I I := ⟨fr_r, rfl, fun _ _ => rfl⟩
theorem dqI_t {I I' I'' : Nat → Nat → Int32} (h : dqI I I') (k : dqI I' I'') : dqI I I'' := ⟨fr_t h.1 k.1, k.2.1.trans h.2.1, fun f hf => (k.2.2 f hf).trans (h.2.2 f hf)⟩
theorem dqI_T {I I' : Nat → Nat → Int32} (h : tT I I') : dqI I I' := ⟨fr_m h.1 (by simp), h.2, fun f _ => by rw [h.1 35 (by decide)]⟩
theorem dqI_4 {I : Nat → Nat → Int32} {a : Int32} : dqI I (upI I 35 4 a) := ⟨fr_I fr_r (by simp), by rw [upI_n (by decide)], fun f hf => by rw [upI_f hf]⟩
def szUp (I : Nat → Nat → Int32) : Prop := ∃ k, k ≤ 38 ∧ I 35 4 = nI k
theorem szUp_T {I I' : Nat → Nat → Int32} (h : tT I I') (k : szUp I) : szUp I' := by
  obtain ⟨j, h1, h2⟩ := k
  exact ⟨j, h1, by rw [h.1 35 (by decide)]; exact h2⟩
def deedSp (b : Nat → Int32) (n N dd op : Nat) (St : PZ → Nat → PZ × PO) : Prop :=
  ∀ (d : Nat), dd ≤ d → ∀ (Q : gQ) (X : gX) (H : gH) (x : Nat) (P : Nat → Nat) (I A : Nat → Nat → Int32) (s : Nat) (z : PZ) (E : Nat → Prop), A 2 = b → cS b n (.inr s) I → s ≤ n → 4 * z.2 ≤ s → I 35 4 = nI z.2 → (∀ i, i < z.2 → cPw E A z.1 i) → (∀ i, E i → i < z.2) →
    (∀ I' A', dqI I I' → dqA A A' → cS b n (St z s).2 I' → szUp I' → (osnd (St z s).2 = true → I' 35 4 = nI (St z s).1.2 ∧ ∀ i, i < (St z s).1.2 → cPw E A' (St z s).1.1 i) → Q none (gset H x cck P I' A')) → meth d m_Deeds_readStep [.ref (x + 35), .ref (x + 1), .int (nI N), .int (nI op)] (gset H x cck P I A) Q X
theorem cPw_agr {E : Nat → Prop} {A A' : Nat → Nat → Int32} {g g' : PG} {i : Nat} (h : cPw E A g i) (ha : agr g g' i) (e36 : A' 36 i = A 36 i) (e37 : A' 37 i = A 37 i) (e38 : A' 38 i = A 38 i) (e39 : A' 39 i = A 39 i) : cPw E A' g' i := by
  obtain ⟨a1, a2, a3, a4⟩ := ha
  unfold cPw at h ⊢
  rw [e36, e37, e38, e39, ← a1, ← a2, ← a3, ← a4]
  exact h
section L2DC
variable {n N : Nat} {b : Nat → Int32}
/-- the loop of steps in brackets -/
theorem dl_held {dd op : Nat} {St : PZ → Nat → PZ × PO} (hn : n ≤ 150) (hSt : deedSp b n N dd op St) {g : Nat} (hG : wGood n N g St) (hdd : 3 ≤ dd) (d0 : Nat) (hd0 : dd + 1 ≤ d0) (Q : gQ) (X : gX) (H : gH) (x : Nat) (P : Nat → Nat) (I A : Nat → Nat → Int32) (o : PO) (z : PZ) (E : Nat → Prop) (hA : A 2 = b) (hc : cS b n o I) (hsz : szUp I) (hpos : ∀ s, osign b n 91 o = .inr s → s ≤ n ∧ 4 * z.2 ≤ s ∧ I 35 4 = nI z.2 ∧ (∀ i, i < z.2 → cPw E A z.1 i) ∧ ∀ i, E i → i < z.2)
    (h : ∀ I' A', dqI I I' → dqA A A' → cS b n (osign b n 93 (wloop (stopH b n) St 150 (z, osign b n 91 o)).2) I' → szUp I' → (osnd (osign b n 93 (wloop (stopH b n) St 150 (z, osign b n 91 o)).2) = true → I' 35 4 = nI (wloop (stopH b n) St 150 (z, osign b n 91 o)).1.2 ∧ ∀ i, i < (wloop (stopH b n) St 150 (z, osign b n 91 o)).1.2 → cPw E A' (wloop (stopH b n) St 150 (z, osign b n 91 o)).1.1 i) → Q none (gset H x cck P I' A')) : meth d0 m_Deeds_readHeld [.ref (x + 35), .ref (x + 1), .int (nI N), .int (nI op)] (gset H x cck P I A) Q X := by
  obtain ⟨d, rfl⟩ : ∃ d, d0 = d + 4 := ⟨d0 - 4, by omega⟩
  have hm := @mo_Deeds_readHeld (meth (d + 3)) (meth_smono (d + 3))
  have hn6 : n ≤ 600 := by omega
  have fin : ∀ v4 I1 A1 (r : PZ × PO), dqI I I1 → dqA A A1 → A1 2 = b → cS b n r.2 I1 → szUp I1 → r = wloop (stopH b n) St 150 (z, osign b n 91 o) → (osnd r.2 = true → I1 35 4 = nI r.1.2 ∧ ∀ i, i < r.1.2 → cPw E A1 r.1.1 i) → gWp (gTab (tb_Deeds_readHeld (meth (d + 3)))) Q X 46 [some (.ref (x + 35)), some (.ref (x + 1)), some (.int (nI N)), some (.int (nI op)), some (.int v4)] [] (gset H x cck P I1 A1) := by
    intro v4 I1 A1 r f1 f2 a1 c1 u1 e p1
    rw [← e] at h
    refine wb_Deeds_readHeld_46 hm (sp_Tape_sign hn6 a1 c1 (fun I2 t2 k2 => wb_Deeds_readHeld_52 hm (h I2 A1 (dqI_t f1 (dqI_T t2)) f2 k2 (szUp_T t2 u1) (fun ho => ?_))))
    obtain ⟨g1, g2⟩ := p1 (osign_snd ho)
    exact ⟨by rw [t2.1 35 (by decide)]; exact g1, g2⟩
  have loop : ∀ (f i : Nat) (r : PZ × PO) (I1 A1 : Nat → Nat → Int32), i + f = 150 → dqI I I1 → dqA A A1 → cS b n r.2 I1 → szUp I1 → wloop (stopH b n) St f r = wloop (stopH b n) St 150 (z, osign b n 91 o) → (∀ s, r.2 = .inr s → s ≤ n ∧ 4 * r.1.2 ≤ s ∧ I1 35 4 = nI r.1.2 ∧ (∀ i, i < r.1.2 → cPw E A1 r.1.1 i) ∧ ∀ i, E i → i < r.1.2) → gWp (gTab (tb_Deeds_readHeld (meth (d + 3)))) Q X 9 [some (.ref (x + 35)), some (.ref (x + 1)), some (.int (nI N)), some (.int (nI op)), some (.int (nI i))] [] (gset H x cck P I1 A1) := by
    intro f
    induction f with
    | zero =>
      intro i r I1 A1 hi f1 f2 c1 u1 e p1
      have a1 : A1 2 = b := by rw [f2 2 (by decide)]; exact hA
      refine wb_Deeds_readHeld_9 hm ⟨fun _ => fin _ I1 A1 r f1 f2 a1 c1 u1 e (fun ho => ?_), fun c => absurd (nI_le (a := 150) (by omega) (by omega)) c⟩
      cases hr : r.2 with
      | inl e => rw [hr] at ho; cases ho
      | inr s => exact ⟨(p1 s hr).2.2.1, (p1 s hr).2.2.2.1⟩
    | succ f ih =>
      intro i r I1 A1 hi f1 f2 c1 u1 e p1
      have a1 : A1 2 = b := by rw [f2 2 (by decide)]; exact hA
      refine wb_Deeds_readHeld_9 hm ⟨fun c => absurd c (nI_ge (b := 150) (by omega) (by omega)), fun _ => sp_Tape_sound c1 (wb_Deeds_readHeld_21 hm ?_)⟩
      rcases r with ⟨z1, ro⟩
      cases ro with
      | inl er =>
        rw [wloop_inl] at e
        exact ⟨fun _ => fin _ I1 A1 (z1, .inl er) f1 f2 a1 c1 u1 e (fun q => by cases q), fun c => absurd rfl c⟩
      | inr s =>
        obtain ⟨ps, p4, p5, p6, hE1⟩ := p1 s rfl
        have ds : decide (I1 1 5 = 3 ∧ I1 1 6 = 93) = stopH b n s := decide_eq_decide.mpr (ct_sign c1)
        rw [wloop_r] at e
        refine ⟨fun c => absurd c i01_1, fun _ => sp_Tape_atSign (wb_Deeds_readHeld_30 hm ⟨fun c => ?_, fun c => ?_⟩)⟩
        · rw [ds] at c
          rw [if_pos (b_i01 c)] at e
          exact fin _ I1 A1 (z1, .inr s) f1 f2 a1 c1 u1 e (fun _ => ⟨p5, p6⟩)
        · rw [ds] at c
          have hst := b_i00 (Classical.not_not.mp c)
          rw [if_neg (by rw [hst]; decide)] at e
          refine hSt (d + 3) (by omega) _ _ _ _ _ _ _ s z1 E a1 c1 ps p4 p5 p6 hE1 (fun I2 A2 g1 g2 k2 u2 p2 => wb_Deeds_readHeld_40 hm ?_)
          rw [nI_1]
          have hGs := fun s' => hG z1 s s' ps p4
          refine ih (i + 1) (St z1 s) I2 A2 (by omega) (dqI_t f1 g1) (fr_t f2 g2) k2 u2 e (fun s' e' => ?_)
          obtain ⟨b1, b2, b3, b4, b5, _⟩ := hGs s' e'
          have := p2 (by rw [e']; rfl)
          exact ⟨b2, b3, this.1, this.2, fun j hj => by have q : j < z1.2 := hE1 j hj; omega⟩
  refine me_Deeds_readHeld (wb_Deeds_readHeld_0 hm (sp_Tape_sign hn6 hA hc (fun I1 t1 k1 => wb_Deeds_readHeld_6 hm (loop 150 0 (z, osign b n 91 o) I1 A rfl (dqI_T t1) fr_r k1 (szUp_T t1 hsz) rfl (fun s e => ?_)))))
  obtain ⟨a1, a2, a3, a4⟩ := hpos s e
  exact ⟨a1, a2, by rw [t1.1 35 (by decide)]; exact a3, a4⟩
theorem cPw_push {E : Nat → Prop} {A A' : Nat → Nat → Int32} {z : PZ} {w a c : Nat} {t : Int32} (h : ∀ i, i < z.2 → cPw E A z.1 i) (o36 : ∀ i, i < z.2 → A' 36 i = A 36 i) (o37 : ∀ i, i < z.2 → A' 37 i = A 37 i) (o38 : ∀ i, i < z.2 → A' 38 i = A 38 i) (o39 : ∀ i, i < z.2 → A' 39 i = A 39 i) (h36 : A' 36 z.2 = nI w) (h37 : w ≤ 1 ∨ w = 5 → A' 37 z.2 = nI a) (h38 : w = 0 ∨ (w = 5 ∧ ¬ E z.2) → A' 38 z.2 = nI c) (h39 : w = 0 → A' 39 z.2 = t) : ∀ i, i < z.2 + 1 → cPw E A' (zpush z w a c t).1 i := by
  intro i hi
  by_cases he : i = z.2
  · subst he
    have e1 : (zpush z w a c t).1.1 z.2 = w := updN_s
    have e2 : (zpush z w a c t).1.2.1 z.2 = a := updN_s
    have e3 : (zpush z w a c t).1.2.2.1 z.2 = c := updN_s
    have e4 : (zpush z w a c t).1.2.2.2 z.2 = t := upd_at
    unfold cPw
    rw [e1, e2, e3, e4]
    exact ⟨h36, h37, h38, h39⟩
  · have hi2 : i < z.2 := by omega
    exact cPw_agr (h i hi2) (agr_push hi2) (o36 i hi2) (o37 i hi2) (o38 i hi2) (o39 i hi2)
set_option maxHeartbeats 2000000 in
theorem dl_step {S : Option (PZ × PO → PZ × PO)} {dd op g : Nat} (hn : n ≤ 150) (hN8 : N ≤ 8) (hS : ∀ F, S = some F → op < 6 ∧ ∃ St g', F = wloop (stopH b n) St 150 ∧ deedSp b n N dd (op + 1) St ∧ wGood n N g' St ∧ wGoodL n N g F) (hNo : S = none → op = 6) (hop : op ≤ 6) (hdd : 6 ≤ dd) : deedSp b n N (dd + 2) op (pstep b n N S) := by
  intro d0 hd0 Q X H x P I A s z E hA hc hs hz4 hsz hcp hE h
  obtain ⟨d, rfl⟩ : ∃ d, d0 = d + 8 := ⟨d0 - 8, by omega⟩
  have hm := @mo_Deeds_readStep (meth (d + 7)) (meth_smono (d + 7))
  have hn6 : n ≤ 600 := by omega
  have hu : szUp I := ⟨z.2, by omega, hsz⟩
  -- behind a fault, from 25
  have f25 : ∀ I1 v4 e, tT I I1 → cS b n (.inl e) I1 → (pstep b n N S z s).2 = .inl e → gWp (gTab (tb_Deeds_readStep (meth (d + 7)))) Q X 25 [some (.ref (x + 35)), some (.ref (x + 1)), some (.int (nI N)), some (.int (nI op)), some (.int v4), none] [] (gset H x cck P I1 A) := by
    intro I1 v4 e t1 k1 he
    rw [he] at h
    exact wb_Deeds_readStep_25 hm (sp_Tape_sound k1 (wb_Deeds_readStep_29 hm ⟨fun _ => wb_Deeds_readStep_41 hm (h I1 A (dqI_T t1) fr_r k1 (szUp_T t1 hu) (fun q => by cases q)), fun c => absurd rfl c⟩))
  refine me_Deeds_readStep (wb_Deeds_readStep_0 hm (sp_wordHere (ti := 2) (ws := dwW) (by omega) (by decide +kernel) (by decide +kernel) hA hn6 hc (fun w hw => ?_) (fun hw I1 t1 k1 => wb_Deeds_readStep_6 hm ⟨fun _ => f25 I1 _ (1, s) t1 k1 (by unfold pstep; rw [hw]), fun c => absurd (by decide) c⟩)))
  obtain ⟨w6, t3, t4, t5, t6⟩ := dw_3 hs hw
  have eP : pstep b n N S z s = pstepW b n N S z s w := by unfold pstep; rw [hw]
  rw [eP] at h f25
  have w5 : nI w = 5 ↔ w = 5 := nI_eq (b := 5) (by omega) (by omega)
  have w0 : nI w = 0 ↔ w = 0 := nI_eq (b := 0) (by omega) (by omega)
  have w1 : nI w = 1 ↔ w = 1 := nI_eq (b := 1) (by omega) (by omega)
  have c6 : nI op < 6 ↔ op < 6 := nI_ltI (b := 6) (by omega) (by omega)
  have hk : z.2 < 38 := by omega
  have iv : vp_in (nI z.2) 38 := vp_in_nI (by omega) (by omega)
  -- the sign at the end
  have end_ : ∀ I1 A1 (z1 : PZ) (o1 : PO) v5, pstepW b n N S z s w = (z1, osign b n 59 o1) → dqI I I1 → dqA A A1 → cS b n o1 I1 → szUp I1 → (osnd o1 = true → I1 35 4 = nI z1.2 ∧ ∀ i, i < z1.2 → cPw E A1 z1.1 i) → gWp (gTab (tb_Deeds_readStep (meth (d + 7)))) Q X 187 [some (.ref (x + 35)), some (.ref (x + 1)), some (.int (nI N)), some (.int (nI op)), some (.int (nI w)), some (.int v5)] [] (gset H x cck P I1 A1) := by
    intro I1 A1 z1 o1 v5 e f1 f2 k1 u1 p1
    rw [e] at h
    refine wb_Deeds_readStep_187 hm (sp_Tape_sign hn6 (by rw [f2 2 (by decide)]; exact hA) k1 (fun I2 t2 k2 => wb_Deeds_readStep_193 hm (h I2 A1 (dqI_t f1 (dqI_T t2)) f2 k2 (szUp_T t2 u1) (fun ho => ?_))))
    obtain ⟨g1, g2⟩ := p1 (osign_snd ho)
    exact ⟨by rw [t2.1 35 (by decide)]; exact g1, g2⟩
  -- from 25, sound
  have g25 : ¬ (w = 5 ∧ op = 6) → gWp (gTab (tb_Deeds_readStep (meth (d + 7)))) Q X 25 [some (.ref (x + 35)), some (.ref (x + 1)), some (.int (nI N)), some (.int (nI op)), some (.int (nI w)), none] [] (gset H x cck P I A) := by
    intro hno
    refine wb_Deeds_readStep_25 hm (sp_Tape_sound hc (wb_Deeds_readStep_29 hm ⟨fun c => absurd c i01_1, fun _ => ⟨fun _ => sp_Tape_advance hn6 hA hc (fun I1 t1 k1 => wb_Deeds_readStep_46 hm ?_), fun c => absurd (by rw [hsz]; exact nI_lt (b := 38) hk (by omega)) c⟩⟩))
    have j4 : I1 35 4 = nI z.2 := by rw [t1.1 35 (by decide)]; exact hsz
    rw [j4, nI_clamp (by omega), nI_1]
    have f1 : dqI I (upI I1 35 4 (nI (z.2 + 1))) := dqI_t (dqI_T t1) dqI_4
    have u1 : szUp (upI I1 35 4 (nI (z.2 + 1))) := ⟨z.2 + 1, by omega, upI_s⟩
    have k1' : cS b n (.inr (nx b n s)) (upI I1 35 4 (nI (z.2 + 1))) := cS_ne (by decide) k1
    have A2' : (upA A 36 z.2 (nI w)) 2 = b := by rw [upA_n (by decide)]; exact hA
    have up38 : ∀ I', tT (upI I1 35 4 (nI (z.2 + 1))) I' → I' 35 4 = nI (z.2 + 1) := fun I' t => by rw [t.1 35 (by decide), upI_s]
    refine ⟨iv, fun c0 => ⟨fun c1 => ⟨fun c5 => ?_, fun c5 => ?_⟩, fun c1 => ?_⟩, fun c0 => ?_⟩
    · have n0 : w ≠ 0 := fun q => c0 (w0.mpr q)
      have n1 : w ≠ 1 := fun q => c1 (w1.mpr q)
      have n5 : w ≠ 5 := fun q => c5 (w5.mpr q)
      refine end_ _ _ (zpush z w 0 0 0) (.inr (nx b n s)) _ (by unfold pstepW; rw [if_neg n0, if_neg n1, if_neg n5]) f1 (fr_A fr_r (by simp)) k1' u1 (fun _ => ⟨upI_s, ?_⟩)
      refine cPw_push hcp (fun i hi => ?_) (fun i hi => ?_) (fun i hi => ?_) (fun i hi => ?_) ?_ (fun q => by omega) (fun q => by omega) (fun q => by omega)
      · rw [upA_s, upd_ne (by omega)]
      · rw [upA_n (by decide)]
      · rw [upA_n (by decide)]
      · rw [upA_n (by decide)]
      · rw [upA_s, upd_at]
    · have e5 : w = 5 := w5.mp (Classical.not_not.mp c5)
      cases S with
      | none => exact absurd ⟨e5, hNo rfl⟩ hno
      | some F =>
        obtain ⟨ho6, St, g', hF, hSt, hG, hGL⟩ := hS F rfl
        have eA : pstepW b n N (some F) z s w = pagain b n (some F) z s := by unfold pstepW; rw [if_neg (by omega), if_neg (by omega), if_pos e5]
        unfold pagain at eA
        dsimp only at eA
        refine sp_Tape_number (lo := 0) (hi := 31) rfl rfl (by omega) (by omega) hn6 A2' k1' (fun I2 t2 k2 => wb_Deeds_readStep_166 hm ?_)
        have r30 := onumh_le (b := b) (n := n) (lo := 0) (hi := 31) (o := .inr (nx b n s))
        have hpo := @onum_pos b n 0 31 (nx b n s)
        generalize hr1 : onum b n 0 31 (.inr (nx b n s)) = r1 at k2 eA hpo ⊢
        rw [nI_clamp (by omega)]
        refine ⟨iv, ?_⟩
        rw [nI_1]
        have t2s := up38 I2 t2
        -- the cells ahead of the body
        have cE : ∀ i, i < z.2 + 1 → cPw (fun i => E i ∨ i = z.2) (upA (upA A 36 z.2 (nI w)) 37 z.2 (nI r1.1)) (zpush z 5 r1.1 0 0).1 i := by
          refine cPw_push (A := A) (fun i hi => ?_) (fun i hi => ?_) (fun i hi => ?_) (fun i hi => ?_) (fun i hi => ?_) ?_ (fun q => ?_) (fun q => ?_) (fun q => by omega)
          · have := hcp i hi
            exact ⟨this.1, this.2.1, fun q => this.2.2.1 (q.imp id (fun r => ⟨r.1, fun e => r.2 (Or.inl e)⟩)), this.2.2.2⟩
          · rw [upA_n (by decide), upA_s, upd_ne (by omega)]
          · rw [upA_s, upd_ne (by omega), upA_n (by decide)]
          · rw [upA_n (by decide), upA_n (by decide)]
          · rw [upA_n (by decide), upA_n (by decide)]
          · rw [upA_n (by decide), upA_s, upd_at, e5]
          · rw [upA_s, upd_at]
          · rcases q with q | q
            · omega
            · exact absurd (Or.inr rfl) q.2
        refine dl_held (E := fun i => E i ∨ i = z.2) (z := zpush z 5 r1.1 0 0) (o := r1.2) hn hSt hG (by omega) (d + 7) (by omega) _ _ _ _ _ _ _ (by rw [upA_n (by decide)]; exact A2') k2 ⟨z.2 + 1, by omega, t2s⟩ (fun s2 e2 => ?_) (fun I3 A3 f3 g3 k3 u3 p3 => wb_Deeds_readStep_176 hm ⟨iv, ?_⟩)
        · obtain ⟨s1, e1, kk, _, e1'⟩ := osign_ok e2
          have p1 := hpo t5 e1
          have hp := nx_P (b := b) p1.2.1
          have hl := hp.2.2 (tk_3 kk).1
          refine ⟨by rw [e1']; exact hp.1.1, by show 4 * (z.2 + 1) ≤ s2; omega, t2s, cE, fun i hi => ?_⟩
          rcases hi with hi | hi
          · have := hE i hi; show i < z.2 + 1; omega
          · show i < z.2 + 1; omega
        · rw [← hF] at k3 p3
          generalize ho2 : osign b n 91 r1.2 = o2 at k3 p3 eA
          have agk : ∀ s', (F (zpush z 5 r1.1 0 0, o2)).2 = .inr s' → agr (zpush z 5 r1.1 0 0).1 (F (zpush z 5 r1.1 0 0, o2)).1.1 z.2 ∧ z.2 < (F (zpush z 5 r1.1 0 0, o2)).1.2 ∧ (F (zpush z 5 r1.1 0 0, o2)).1.2 ≤ 38 := by
            intro s' e'
            cases ho : o2 with
            | inl er => rw [ho, hGL.1] at e'; cases e'
            | inr s2 =>
              rw [ho] at e' ho2
              obtain ⟨s1, e1, kk, _, e1'⟩ := osign_ok ho2
              have p1 := hpo t5 e1
              have hp := nx_P (b := b) p1.2.1
              have hl := hp.2.2 (tk_3 kk).1
              obtain ⟨a1, a2, a3, a4, a5, _⟩ := hGL.2 _ s2 s' (by rw [e1']; exact hp.1.1) (by show 4 * (z.2 + 1) ≤ s2; omega) e'
              have a4 : z.2 + 1 ≤ (F (zpush z 5 r1.1 0 0, .inr s2)).1.2 := a4
              exact ⟨a5 z.2 (by show z.2 < z.2 + 1; omega), by omega, by omega⟩
          generalize hr2 : F (zpush z 5 r1.1 0 0, o2) = r2 at k3 p3 eA agk
          rw [nI_clamp (by omega)]
          refine end_ I3 _ (zsec r2.1 z.2 r2.1.2) (osign b n 93 r2.2) _ eA (dqI_t f1 (dqI_t (dqI_T t2) f3)) (fr_A (fr_t (fr_A (fr_A fr_r (by simp)) (by simp)) g3) (by simp)) k3 u3 (fun ho => ?_)
          obtain ⟨q1, q2⟩ := p3 ho
          have hr2s := osign_snd ho
          cases hh : r2.2 with
          | inl er => rw [hh] at hr2s; cases hr2s
          | inr s' =>
            obtain ⟨ag, al, _⟩ := agk s' hh
            refine ⟨q1, fun i hi => ?_⟩
            have hi : i < r2.1.2 := hi
            have qi := q2 i hi
            by_cases he : i = z.2
            · subst he
              have k5 : r2.1.1.1 z.2 = 5 := by rw [← ag.1]; exact updN_s
              refine ⟨by rw [upA_n (by decide)]; exact qi.1, fun q => by rw [upA_n (by decide)]; exact qi.2.1 q, fun _ => ?_, fun q => ?_⟩
              · rw [upA_s, upd_at, q1]
                show _ = nI (updN _ z.2 r2.1.2 z.2)
                rw [updN_s]
              · have q : r2.1.1.1 z.2 = 0 := q
                omega
            · refine ⟨by rw [upA_n (by decide)]; exact qi.1, fun q => by rw [upA_n (by decide)]; exact qi.2.1 q, fun q => ?_, fun q => by rw [upA_n (by decide)]; exact qi.2.2.2 q⟩
              rw [upA_s, upd_ne he]
              show _ = nI (updN _ z.2 r2.1.2 i)
              rw [updN_n he]
              exact qi.2.2.1 (q.imp id (fun r => ⟨r.1, fun e => e.elim r.2 he⟩))
    · have e1 : w = 1 := w1.mp (Classical.not_not.mp c1)
      have eS : pstepW b n N S z s w = pschool b n N z (.inr (nx b n s)) := by unfold pstepW; rw [if_neg (by omega), if_pos e1]
      unfold pschool at eS
      refine sp_Tape_number (lo := 0) (hi := N) rfl rfl (by omega) (by omega) hn6 A2' k1' (fun I2 t2 k2 => wb_Deeds_readStep_143 hm ?_)
      rw [nI_clamp (by omega)]
      refine ⟨iv, end_ I2 _ _ _ _ eS (dqI_t f1 (dqI_T t2)) (fr_A (fr_A fr_r (by simp)) (by simp)) k2 ⟨z.2 + 1, by omega, up38 I2 t2⟩ (fun _ => ⟨up38 I2 t2, ?_⟩)⟩
      refine cPw_push hcp (fun i hi => ?_) (fun i hi => ?_) (fun i hi => ?_) (fun i hi => ?_) ?_ (fun _ => ?_) (fun q => by omega) (fun q => by omega)
      · rw [upA_n (by decide), upA_s, upd_ne (by omega)]
      · rw [upA_s, upd_ne (by omega), upA_n (by decide)]
      · rw [upA_n (by decide), upA_n (by decide)]
      · rw [upA_n (by decide), upA_n (by decide)]
      · rw [upA_n (by decide), upA_s, upd_at, e1]
      · rw [upA_s, upd_at]
    · have e0 : w = 0 := w0.mp (Classical.not_not.mp c0)
      have eM : pstepW b n N S z s w = pmove b n N z (.inr (nx b n s)) := by unfold pstepW; rw [if_pos e0]
      unfold pmove at eM
      refine sp_Tape_number (lo := 0) (hi := N) rfl rfl (by omega) (by omega) hn6 A2' k1' (fun I2 t2 k2 => wb_Deeds_readStep_90 hm ?_)
      generalize hr1 : onum b n 0 N (.inr (nx b n s)) = r1 at k2 eM ⊢
      rw [nI_clamp (by omega)]
      refine ⟨iv, sp_Tape_number (lo := 0) (hi := N) rfl rfl (by omega) (by omega) hn6 (by rw [upA_n (by decide)]; exact A2') k2 (fun I3 t3 k3 => wb_Deeds_readStep_105 hm ?_)⟩
      generalize hr2 : onum b n 0 N r1.2 = r2 at k3 eM ⊢
      rw [nI_clamp (by omega)]
      refine ⟨iv, sp_Tape_number (lo := 1) (hi := 100) rfl rfl (by omega) (by omega) hn6 (by rw [upA_n (by decide), upA_n (by decide)]; exact A2') k3 (fun I4 t4 k4 => wb_Deeds_readStep_119 hm ?_)⟩
      generalize hr3 : onum b n 1 100 r2.2 = r3 at k4 eM ⊢
      rw [nI_clamp (by omega)]
      have t24 := tT_t t2 (tT_t t3 t4)
      refine ⟨iv, end_ I4 _ _ _ _ eM (dqI_t f1 (dqI_T t24)) (fr_A (fr_A (fr_A (fr_A fr_r (by simp)) (by simp)) (by simp)) (by simp)) k4 ⟨z.2 + 1, by omega, up38 I4 t24⟩ (fun _ => ⟨up38 I4 t24, ?_⟩)⟩
      refine cPw_push hcp (fun i hi => ?_) (fun i hi => ?_) (fun i hi => ?_) (fun i hi => ?_) ?_ (fun _ => ?_) (fun _ => ?_) (fun _ => ?_)
      · rw [upA_n (by decide), upA_n (by decide), upA_n (by decide), upA_s, upd_ne (by omega)]
      · rw [upA_n (by decide), upA_n (by decide), upA_s, upd_ne (by omega), upA_n (by decide)]
      · rw [upA_n (by decide), upA_s, upd_ne (by omega), upA_n (by decide), upA_n (by decide)]
      · rw [upA_s, upd_ne (by omega), upA_n (by decide), upA_n (by decide), upA_n (by decide)]
      · rw [upA_n (by decide), upA_n (by decide), upA_n (by decide), upA_s, upd_at, e0]
      · rw [upA_n (by decide), upA_n (by decide), upA_s, upd_at]
      · rw [upA_n (by decide), upA_s, upd_at]
      · rw [upA_s, upd_at]
  refine wb_Deeds_readStep_6 hm ⟨fun c => g25 (fun q => c (w5.mpr q.1)), fun c => ⟨fun c2 => g25 (fun q => by have := c6.mp c2; omega), fun c2 => ?_⟩⟩
  have e6 : op = 6 := by have : ¬ op < 6 := fun q => c2 (c6.mpr q); omega
  have e5 : w = 5 := w5.mp (Classical.not_not.mp c)
  refine sp_Tape_fail (k := 3) (by omega) hn6 hc (fun I1 t1 k1 => f25 I1 _ (3, s) t1 k1 ?_)
  unfold pstepW
  rw [if_neg (by omega), if_neg (by omega), if_pos e5]
  cases S with
  | none => rfl
  | some F => have := (hS F rfl).1; omega
theorem dl_all (hn : n ≤ 150) (hN8 : N ≤ 8) : ∀ g, g ≤ 6 → deedSp b n N (8 + 2 * g) (6 - g) (pstep b n N (wSub b n N g)) := by
  intro g
  induction g with
  | zero =>
    intro _
    exact dl_step (g := 0) (dd := 6) hn hN8 (fun F e => by cases e) (fun _ => rfl) (by omega) (by omega)
  | succ g ih =>
    intro hg
    have := dl_step (b := b) (n := n) (N := N) (S := wSub b n N (g + 1)) (g := g) (dd := 8 + 2 * g) (op := 6 - (g + 1)) hn hN8 (fun F e => ?_) (fun e => by cases e) (by omega) (by omega)
    · rw [show 8 + 2 * (g + 1) = 8 + 2 * g + 2 by omega]
      exact this
    · have hgl := wSub_good (g + 1) F e
      cases e
      refine ⟨by omega, _, g, rfl, ?_, pstep_good (fun F hF => wSub_good g F hF), hgl.2⟩
      rw [show 6 - (g + 1) + 1 = 6 - g by omega]
      exact ih (by omega)
set_option maxHeartbeats 1000000 in
theorem sp_Deeds_read {d : Nat} {Q : gQ} {X : gX} {H : gH} {x : Nat} {P : Nat → Nat} {I A : Nat → Nat → Int32} {o : PO} (hn : n ≤ 150) (hN8 : N ≤ 8) (hA : A 2 = b) (hc : cS b n o I) (ho : ∀ s, o = .inr s → s ≤ n)
    (h : ∀ I' A', dqI I I' → dqA A A' → cS b n (pwork b n N o).2 I' → (osnd (pwork b n N o).2 = true → I' 35 4 = nI (pwork b n N o).1.2 ∧ ∀ i, i < (pwork b n N o).1.2 → cPg A' (pwork b n N o).1.1 i) → Q none (gset H x cck P I' A')) : meth (d + 21) m_Deeds_read [.ref (x + 35), .ref (x + 1), .int (nI N)] (gset H x cck P I A) Q X := by
  have hm := @mo_Deeds_read (meth (d + 20)) (meth_smono (d + 20))
  have hn6 : n ≤ 600 := by omega
  have hSt := dl_all (b := b) hn hN8 6 (by omega)
  have hG := pstep_good (b := b) (n := n) (N := N) (S := wSub b n N 6) (g := 6) (fun F hF => wSub_good 6 F hF)
  have fin : ∀ I1 A1 (r : PZ × PO), dqI I I1 → dqA A A1 → cS b n r.2 I1 → r = pwork b n N o → (∀ s, r.2 = .inr s → s ≤ n ∧ 4 * r.1.2 ≤ s ∧ I1 35 4 = nI r.1.2 ∧ (∀ i, i < r.1.2 → cPw (fun _ => False) A1 r.1.1 i)) → Q none (gset H x cck P I1 A1) := by
    intro I1 A1 r f1 f2 c1 e p1
    rw [← e] at h
    refine h I1 A1 f1 f2 c1 (fun hs => ?_)
    cases hr : r.2 with
    | inl e => rw [hr] at hs; cases hs
    | inr s =>
      obtain ⟨_, _, a3, a4⟩ := p1 s hr
      refine ⟨a3, fun i hi => ?_⟩
      have := a4 i hi
      exact ⟨this.1, this.2.1, fun q => this.2.2.1 (q.imp id (fun r => ⟨r, id⟩)), this.2.2.2⟩
  have loop : ∀ (f i : Nat) (r : PZ × PO) (I1 A1 : Nat → Nat → Int32), i + f = 150 → dqI I I1 → dqA A A1 → cS b n r.2 I1 → wloop (stopE n) (pstep b n N (wSub b n N 6)) f r = pwork b n N o → (∀ s, r.2 = .inr s → s ≤ n ∧ 4 * r.1.2 ≤ s ∧ I1 35 4 = nI r.1.2 ∧ (∀ i, i < r.1.2 → cPw (fun _ => False) A1 r.1.1 i)) → gWp (gTab (tb_Deeds_read (meth (d + 20)))) Q X 7 [some (.ref (x + 35)), some (.ref (x + 1)), some (.int (nI N)), some (.int (nI i))] [] (gset H x cck P I1 A1) := by
    intro f
    induction f with
    | zero =>
      intro i r I1 A1 hi f1 f2 c1 e p1
      exact wb_Deeds_read_7 hm ⟨fun _ => wb_Deeds_read_41 hm (fin I1 A1 r f1 f2 c1 e p1), fun c => absurd (nI_le (a := 150) (by omega) (by omega)) c⟩
    | succ f ih =>
      intro i r I1 A1 hi f1 f2 c1 e p1
      refine wb_Deeds_read_7 hm ⟨fun c => absurd c (nI_ge (b := 150) (by omega) (by omega)), fun _ => sp_Tape_sound c1 (wb_Deeds_read_18 hm ?_)⟩
      rcases r with ⟨z1, ro⟩
      cases ro with
      | inl er =>
        rw [wloop_inl] at e
        exact ⟨fun _ => wb_Deeds_read_41 hm (fin I1 A1 (z1, .inl er) f1 f2 c1 e p1), fun c => absurd rfl c⟩
      | inr s =>
        obtain ⟨ps, p4, p5, p6⟩ := p1 s rfl
        rw [wloop_r] at e
        refine ⟨fun c => absurd c i01_1, fun _ => ⟨fun c => ?_, fun c => ?_⟩⟩
        · rw [if_pos (show stopE n s = true from decide_eq_true ((ct_end c1).mp c))] at e
          exact wb_Deeds_read_41 hm (fin I1 A1 (z1, .inr s) f1 f2 c1 e p1)
        · rw [if_neg (by unfold stopE; rw [decide_eq_false (fun q => c ((ct_end c1).mpr q))]; decide)] at e
          refine hSt (d + 20) (by omega) _ _ _ _ _ _ _ s z1 (fun _ => False) (by rw [f2 2 (by decide)]; exact hA) c1 ps p4 p5 p6 (fun _ q => q.elim) (fun I2 A2 g1 g2 k2 u2 p2 => wb_Deeds_read_35 hm ?_)
          rw [nI_1]
          refine ih (i + 1) _ I2 A2 (by omega) (dqI_t f1 g1) (fr_t f2 g2) k2 e (fun s' e' => ?_)
          obtain ⟨b1, b2, b3, b4, b5, _⟩ := hG z1 s s' ps p4 e'
          have := p2 (by rw [e']; rfl)
          exact ⟨b2, b3, this.1, this.2⟩
  refine me_Deeds_read (wb_Deeds_read_0 hm (loop 150 0 _ _ A rfl dqI_4 fr_r (cS_ne (by decide) hc) rfl (fun s e => ⟨ho s e, Nat.zero_le _, upI_s, fun i hi => absurd hi (Nat.not_lt_zero i)⟩)))
end L2DC
