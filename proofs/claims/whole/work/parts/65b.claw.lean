/-! ===== L2: a law's text, the class ===== -/
def sgc (a : Nat) : Nat := if a = 2 then 43 else if a = 3 then 45 else if a = 4 then 42 else if a = 5 then 47 else if a = 6 then 60 else if a = 7 then 62 else 37
/-- the class's code -/
def ccode (c : Nat × Nat) : Int32 := if c.1 = 0 then nI c.2 else if c.1 = 1 then nI (1000 + c.2) else nI (2000 + sgc c.1)
def codeAt (q : Nat) (cs : CO) (I A : Nat → Nat → Int32) : Prop := I q 3 = nI cs.length ∧ ∀ i, i < cs.length → A (q + 1) i = ccode (cs.getD i (0, 0))
def codeUp (q : Nat) (I : Nat → Nat → Int32) : Prop := ∃ k, k ≤ 150 ∧ I q 3 = nI k
def lqI (q : Nat) (I I' : Nat → Nat → Int32) : Prop := Fr [1, q] I I' ∧ I' 1 1 = I 1 1
def lqA (q : Nat) (A A' : Nat → Nat → Int32) : Prop := Fr [q + 1] A A'
theorem lqI_r {q : Nat} {I : Nat → Nat → Int32} : lqI q I I := ⟨fr_r, rfl⟩
theorem lqI_t {q : Nat} {I I' I'' : Nat → Nat → Int32} (h : lqI q I I') (k : lqI q I' I'') : lqI q I I'' := ⟨fr_t h.1 k.1, k.2.trans h.2⟩
theorem lqI_T {q : Nat} {I I' : Nat → Nat → Int32} (h : tT I I') : lqI q I I' := ⟨fr_m h.1 (by simp), h.2⟩
theorem codeAt_T {q : Nat} {cs : CO} {I I' A : Nat → Nat → Int32} (hq : q ≠ 1) (h : tT I I') (k : codeAt q cs I A) : codeAt q cs I' A := ⟨by rw [h.1 q (by simp; exact hq)]; exact k.1, k.2⟩
theorem codeUp_T {q : Nat} {I I' : Nat → Nat → Int32} (hq : q ≠ 1) (h : tT I I') (k : codeUp q I) : codeUp q I' := by
  obtain ⟨j, h1, h2⟩ := k
  exact ⟨j, h1, by rw [h.1 q (by simp; exact hq)]; exact h2⟩
theorem gd_last {cs : CO} {c : Nat × Nat} {i : Nat} (h : i < (cs ++ [c]).length) : (cs ++ [c]).getD i (0, 0) = if i = cs.length then c else cs.getD i (0, 0) := by
  rw [List.length_append] at h
  have h : i < cs.length + 1 := h
  rw [List.getD_eq_getElem?_getD, List.getD_eq_getElem?_getD]
  by_cases hi : i = cs.length
  · rw [if_pos hi, hi, List.getElem?_append_right (Nat.le_refl _)]; simp
  · rw [if_neg hi, List.getElem?_append_left (by omega)]
/-- what a reader of the law's text does -/
def lawSp (q : Nat) (b : Nat → Int32) (n : Nat) (M dd op : Nat) (F : PO → CO × PO) : Prop :=
  ∀ (d : Nat), dd ≤ d → ∀ (Q : gQ) (X : gX) (H : gH) (x : Nat) (P : Nat → Nat) (I A : Nat → Nat → Int32) (o : PO) (cs : CO), A 2 = b → cS b n o I → codeUp q I → (∀ s, o = .inr s → s ≤ n ∧ cs.length ≤ s ∧ codeAt q cs I A) →
    (∀ I' A', lqI q I I' → lqA q A A' → cS b n (F o).2 I' → codeUp q I' → (osnd (F o).2 = true → codeAt q (cs ++ (F o).1) I' A') → Q none (gset H x cck P I' A')) → meth d M [.ref (x + q), .ref (x + 1), .int (nI op)] (gset H x cck P I A) Q X
section L2LC
variable {d n q : Nat} {Q : gQ} {X : gX} {H : gH} {x : Nat} {P : Nat → Nat} {I A : Nat → Nat → Int32} {b : Nat → Int32}
theorem codeAt_emit {cs : CO} {c : Nat × Nat} (h : codeAt q cs I A) : codeAt q (cs ++ [c]) (upI I q 3 (nI (cs.length + 1))) (upA A (q + 1) cs.length (ccode c)) := by
  refine ⟨by rw [upI_s, List.length_append]; rfl, fun i hi => ?_⟩
  rw [upA_s, gd_last hi]
  by_cases he : i = cs.length
  · rw [if_pos he, he, upd_at]
  · rw [if_neg he, upd_ne he]
    rw [List.length_append] at hi
    exact h.2 i (by have : i < cs.length + 1 := hi; omega)
/-- emit, whatever has been read -/
theorem sp_Law_emit2 {o : PO} {cs : CO} {c : Nat × Nat} {v : Int32} (hq : cck q = (4 + 2, 0)) (hc : cS b n o I) (hu : codeUp q I) (hv : osnd o = true → v = ccode c) (hs : osnd o = true → codeAt q cs I A ∧ cs.length < 150)
    (h : ∀ I' A', lqI q I I' → lqA q A A' → cS b n o I' → codeUp q I' → (osnd o = true → codeAt q (cs ++ [c]) I' A') → Q none (gset H x cck P I' A')) : meth (d + 1) m_Law_emit [.ref (x + q), .int v] (gset H x cck P I A) Q X := by
  have dQ := cck_Q hq
  have q1 : q ≠ 1 := by omega
  obtain ⟨k, hk, e⟩ := hu
  by_cases h150 : k < 150
  · refine sp_Law_emit hq e h150 (h _ _ ⟨fr_I fr_r (by simp), by rw [upI_n (Ne.symm q1)]⟩ (fr_A fr_r (by simp)) (cS_ne q1 hc) ⟨k + 1, by omega, upI_s⟩ (fun ho => ?_))
    obtain ⟨h1, h2⟩ := hs ho
    have ek : k = cs.length := (nI_eq (by omega) (by omega)).mp (e.symm.trans h1.1)
    rw [ek, hv ho]
    exact codeAt_emit h1
  · have hm := @mo_Law_emit (meth d) (meth_smono d)
    refine me_Law_emit (wb_Law_emit_0 hm hq ⟨fun _ => wb_Law_emit_30 hm (h I A lqI_r fr_r hc ⟨k, hk, e⟩ (fun ho => ?_)), fun c => absurd (by rw [e]; exact nI_le (a := 150) (by omega) (by omega)) c⟩)
    obtain ⟨h1, h2⟩ := hs ho
    have ek : k = cs.length := (nI_eq (by omega) (by omega)).mp (e.symm.trans h1.1)
    omega
set_option maxHeartbeats 2000000 in
theorem lw_unit {S : Option (PO → CO × PO)} {dd op D : Nat} (hq : cck q = (4 + 2, 0)) (hn : n ≤ 150) (hS : ∀ F, S = some F → op < 6 ∧ lawSp q b n m_Law_readSum dd (op + 1) F ∧ pGood n F D) (hN : S = none → op = 6) (hop : op ≤ 6) (hdd : 6 ≤ dd) : lawSp q b n m_Law_readUnit (dd + 1) op (pU b n S) := by
  intro d0 hd0 Q X H x P I A o cs hA hc hu hpos h
  obtain ⟨d, rfl⟩ : ∃ d, d0 = d + 7 := ⟨d0 - 7, by omega⟩
  have hm := @mo_Law_readUnit (meth (d + 6)) (meth_smono (d + 6))
  have dQ := cck_Q hq
  have q1 : q ≠ 1 := by omega
  have hn6 : n ≤ 600 := by omega
  have c6 : nI op < 6 ↔ op < 6 := nI_ltI (b := 6) (by omega) (by omega)
  -- behind a fault, from 49
  have f49 : ∀ I1 v3 v4 e, tT I I1 → cS b n (.inl e) I1 → (pU b n S o).2 = .inl e → gWp (gTab (tb_Law_readUnit (meth (d + 6)))) Q X 49 [some (.ref (x + q)), some (.ref (x + 1)), some (.int (nI op)), some (.int v3), some (.int v4)] [] (gset H x cck P I1 A) := by
    intro I1 v3 v4 e t1 k1 he
    rw [he] at h
    exact wb_Law_readUnit_49 hm (sp_Tape_sound k1 (wb_Law_readUnit_53 hm ⟨fun c => absurd rfl c, fun _ => h I1 A (lqI_T t1) fr_r k1 (codeUp_T q1 t1 hu) (fun q => by cases q)⟩))
  have f18 : ∀ I1 v3 e, tT I I1 → cS b n (.inl e) I1 → (pU b n S o).2 = .inl e → gWp (gTab (tb_Law_readUnit (meth (d + 6)))) Q X 18 [some (.ref (x + q)), some (.ref (x + 1)), some (.int (nI op)), none, none] [.int v3] (gset H x cck P I1 A) := by
    intro I1 v3 e t1 k1 he
    have g38 : ∀ v4, gWp (gTab (tb_Law_readUnit (meth (d + 6)))) Q X 38 [some (.ref (x + q)), some (.ref (x + 1)), some (.int (nI op)), some (.int v3), some (.int v4)] [] (gset H x cck P I1 A) := fun v4 =>
      wb_Law_readUnit_38 hm ⟨fun _ => f49 I1 _ _ e t1 k1 he, fun _ => sp_Tape_fail (k := 3) (by omega) hn6 k1 (fun I2 t2 k2 => f49 I2 _ _ e (tT_t t1 t2) k2 he)⟩
    exact wb_Law_readUnit_18 hm (sp_Tape_atSign (wb_Law_readUnit_25 hm ⟨fun _ => g38 _, fun _ => ⟨fun _ => f49 I1 _ _ e t1 k1 he, fun _ => g38 _⟩⟩))
  refine me_Law_readUnit ?_
  cases o with
  | inl e =>
    exact wb_Law_readUnit_0 hm ⟨fun _ => f18 I _ e tT_r hc rfl, fun _ => sp_wordHereF (ti := 4) (ws := wlW) (by omega) (by decide +kernel) (by decide +kernel) hA hn6 hc (fun v I1 t1 k1 => wb_Law_readUnit_14 hm (f18 I1 _ e t1 k1 rfl))⟩
  | inr s =>
    obtain ⟨hs, hlen, hcode⟩ := hpos s rfl
    have hct : ct b n s I := hc
    have k5 : I 1 5 = tk b n s := hct.2.2.2.1
    have hp := nx_P (b := b) hs
    by_cases h2 : tk b n s = 2
    · refine wb_Law_readUnit_0 hm ⟨fun c => absurd (k5.trans h2) c, fun _ => sp_wordHere (ti := 4) (ws := wlW) (by omega) (by decide +kernel) (by decide +kernel) hA hn6 hc (fun w hw => wb_Law_readUnit_14 hm ?_) (fun hw I1 t1 k1 => wb_Law_readUnit_14 hm (f18 I1 _ (1, s) t1 k1 ?_))⟩
      · have hw12 : w < 12 := by have := (widx_lt hw).2; simpa [wlW] using this
        have hsn : s < n := tk_lt (by rw [h2]; decide)
        have hlt := hp.2.2 hsn
        have ePU : pU b n S (.inr s) = if w < 10 then ([(1, w)], .inr (nx b n s)) else pT b n S w s := by
          rw [pU_r, if_neg (by rw [h2]; decide), if_neg (by rw [h2]; rintro ⟨q, _⟩; exact absurd q (by decide)), hw]
          rfl
        rw [ePU] at h f49
        have w10 : nI w < 10 ↔ w < 10 := nI_ltI (b := 10) (by omega) (by omega)
        have w10' : (10 : Int32) ≤ nI w ↔ 10 ≤ w := nI_leI (a := 10) (by omega) (by omega)
        have wm1 : ¬ nI w = -1 := nI_nm1 (by omega)
        have na : decide (I 1 5 = 3 ∧ I 1 6 = 40) = false := decide_eq_false (by rw [k5, h2]; rintro ⟨q, _⟩; exact absurd q (by decide))
        -- from 49, sound
        have g49 : (∀ I1, tT I I1 → cS b n (.inr (nx b n s)) I1 → gWp (gTab (tb_Law_readUnit (meth (d + 6)))) Q X 98 [some (.ref (x + q)), some (.ref (x + 1)), some (.int (nI op)), some (.int (nI w)), some (.int (i01 (decide (I 1 5 = 3 ∧ I 1 6 = 40))))] [] (gset H x cck P I1 A)) → gWp (gTab (tb_Law_readUnit (meth (d + 6)))) Q X 49 [some (.ref (x + q)), some (.ref (x + 1)), some (.int (nI op)), some (.int (nI w)), some (.int (i01 (decide (I 1 5 = 3 ∧ I 1 6 = 40))))] [] (gset H x cck P I A) := by
          intro go
          refine wb_Law_readUnit_49 hm (sp_Tape_sound hc (wb_Law_readUnit_53 hm ⟨fun _ => ⟨fun _ => ⟨fun c => absurd (by rw [na]; rfl) c, fun _ => ⟨fun _ => wb_Law_readUnit_94 hm (sp_Tape_advance hn6 hA hc (fun I1 t1 k1 => go I1 t1 k1)), fun c => absurd wm1 c⟩⟩, fun c => absurd (by rw [k5, h2]; decide) c⟩, fun c => absurd i01_1 c⟩))
        by_cases hw10 : w < 10
        · rw [if_pos hw10] at h
          refine wb_Law_readUnit_18 hm (sp_Tape_atSign (wb_Law_readUnit_25 hm ⟨fun c => absurd (by rw [na]; rfl) c, fun _ => ⟨fun _ => g49 (fun I1 t1 k1 => ?_), fun c => absurd (w10.mpr hw10) c⟩⟩))
          refine wb_Law_readUnit_98 hm hq ⟨fun _ => ⟨fun c => absurd (w10'.mp c) (by omega), fun _ => ?_⟩, fun c => absurd (by rw [na]; rfl) c⟩
          rw [show (1000 : Int32) + nI w = nI (1000 + w) from nI_add 1000 w]
          refine sp_Law_emit2 (c := (1, w)) (cs := cs) hq k1 (codeUp_T q1 t1 hu) (fun _ => rfl) (fun _ => ⟨codeAt_T q1 t1 hcode, by omega⟩) (fun I2 A2 f1 f2 k2 u2 k3 => wb_Law_readUnit_135 hm (wb_Law_readUnit_193 hm (h I2 A2 (lqI_t (lqI_T t1) f1) f2 k2 u2 k3)))
        · rw [if_neg hw10] at h f49
          have g38 : gWp (gTab (tb_Law_readUnit (meth (d + 6)))) Q X 38 [some (.ref (x + q)), some (.ref (x + 1)), some (.int (nI op)), some (.int (nI w)), some (.int (i01 (decide (I 1 5 = 3 ∧ I 1 6 = 40))))] [] (gset H x cck P I A) := by
            cases S with
            | none => exact wb_Law_readUnit_38 hm ⟨fun c => absurd (c6.mp c) (by rw [hN rfl]; decide), fun _ => sp_Tape_fail (k := 3) (by omega) hn6 hc (fun I1 t1 k1 => f49 I1 _ _ (3, s) t1 k1 rfl)⟩
            | some F =>
              obtain ⟨ho6, hF, hG⟩ := hS F rfl
              refine wb_Law_readUnit_38 hm ⟨fun _ => g49 (fun I1 t1 k1 => ?_), fun c => absurd (c6.mpr ho6) c⟩
              refine wb_Law_readUnit_98 hm hq ⟨fun _ => ⟨fun _ => sp_Tape_sign hn6 hA k1 (fun I2 t2 k2 => wb_Law_readUnit_144 hm hq ?_), fun c => absurd (w10'.mpr (by omega)) c⟩, fun c => absurd (by rw [na]; rfl) c⟩
              rw [nI_1]
              have t12 := tT_t t1 t2
              unfold pT at h
              dsimp only at h
              generalize ho1 : osign b n 91 (.inr (nx b n s)) = o1 at k2 h
              have p1 : ∀ s1, o1 = .inr s1 → s1 ≤ n ∧ cs.length + 2 ≤ s1 := by
                intro s1 e
                rw [e] at ho1
                obtain ⟨s', e', t', _, e2⟩ := osign_ok ho1
                cases e'
                have hpp := nx_P (b := b) hp.1.1
                have := hpp.2.2 (tk_3 t').1
                rw [e2]
                exact ⟨hpp.1.1, by omega⟩
              refine hF (d + 6) (by omega) _ _ _ _ _ _ _ o1 cs hA k2 (codeUp_T q1 t12 hu) (fun s1 e => ⟨(p1 s1 e).1, by have := (p1 s1 e).2; omega, codeAt_T q1 t12 hcode⟩) (fun I3 A3 f1 f2 k3 u3 c3 => wb_Law_readUnit_152 hm (sp_Tape_sign hn6 (by rw [f2 2 (by simp; omega)]; exact hA) k3 (fun I4 t4 k4 => wb_Law_readUnit_158 hm hq ?_)))
              rw [nI_1]
              have g2 := fun s1 s2 (e : o1 = .inr s1) (e2 : (F (.inr s1)).2 = .inr s2) => hG.2 s1 s2 (p1 s1 e).1 e2
              have inl1 : ∀ e, o1 = .inl e → (F o1).2 = .inl e := fun e he => by rw [he, hG.1]
              generalize hr1 : F o1 = r1 at k3 c3 k4 h inl1 ⊢
              have p2 : ∀ s2, r1.2 = .inr s2 → s2 ≤ n ∧ (cs ++ r1.1).length + 2 ≤ s2 := by
                intro s2 e
                cases ho1' : o1 with
                | inl e' => rw [inl1 e' ho1'] at e; cases e
                | inr s1 =>
                  have := g2 s1 s2 ho1' (by rw [← ho1', hr1]; exact e)
                  rw [← ho1', hr1] at this
                  have := p1 s1 ho1'
                  rw [List.length_append]
                  omega
              generalize ho2 : osign b n 44 r1.2 = o2 at k4 h
              have p3 : ∀ s3, o2 = .inr s3 → s3 ≤ n ∧ (cs ++ r1.1).length + 2 ≤ s3 ∧ osnd r1.2 = true := by
                intro s3 e
                rw [e] at ho2
                obtain ⟨s', e', t', _, e2⟩ := osign_ok ho2
                have hpp := nx_P (b := b) (p2 s' e').1
                have := p2 s' e'
                rw [e2, e']
                exact ⟨hpp.1.1, by omega, rfl⟩
              have f14 : lqI q I I4 := lqI_t (lqI_T t12) (lqI_t f1 (lqI_T t4))
              refine hF (d + 6) (by omega) _ _ _ _ _ _ _ o2 (cs ++ r1.1) (by rw [f2 2 (by simp; omega)]; exact hA) k4 (codeUp_T q1 t4 u3) (fun s3 e => ⟨(p3 s3 e).1, by have := (p3 s3 e).2; omega, codeAt_T q1 t4 (c3 (p3 s3 e).2.2)⟩) (fun I5 A5 f3 f4 k5' u5 c5 => wb_Law_readUnit_166 hm (sp_Tape_sign hn6 (by rw [f4 2 (by simp; omega), f2 2 (by simp; omega)]; exact hA) k5' (fun I6 t6 k6 => wb_Law_readUnit_172 hm ?_)))
              have g4 := fun s1 s2 (e : o2 = .inr s1) (e2 : (F (.inr s1)).2 = .inr s2) => hG.2 s1 s2 (p3 s1 e).1 e2
              have inl2 : ∀ e, o2 = .inl e → (F o2).2 = .inl e := fun e he => by rw [he, hG.1]
              generalize hr2 : F o2 = r2 at k5' c5 k6 h inl2 ⊢
              have key : ∀ v, v = ccode (w - 4, 0) → ∀ s1 s2 : Int32, s1 + s2 = v → gWp (gTab (tb_Law_readUnit (meth (d + 6)))) Q X 189 [some (.ref (x + q)), some (.ref (x + 1)), some (.int (nI op)), some (.int (nI w)), some (.int (i01 (decide (I 1 5 = 3 ∧ I 1 6 = 40))))] [.int s2, .int s1, .ref (x + q)] (gset H x cck P I6 A5) := by
                intro v hv s1 s2 hv2
                refine wb_Law_readUnit_189 hm hq ?_
                rw [hv2]
                refine sp_Law_emit2 (c := (w - 4, 0)) (cs := cs ++ r1.1 ++ r2.1) hq k6 (codeUp_T q1 t6 u5) (fun _ => hv) (fun ho => ?_) (fun I7 A7 f5 f6 k7 u7 c7 => wb_Law_readUnit_193 hm (h I7 A7 (lqI_t f14 (lqI_t f3 (lqI_t (lqI_T t6) f5))) (fr_t f2 (fr_t f4 f6)) k7 u7 (fun ho => ?_)))
                · have hr2s := osign_snd ho
                  refine ⟨codeAt_T q1 t6 (c5 hr2s), ?_⟩
                  cases hh2 : r2.2 with
                  | inl e => rw [hh2] at hr2s; cases hr2s
                  | inr s2' =>
                    cases ho2' : o2 with
                    | inl e' => rw [inl2 e' ho2'] at hh2; cases hh2
                    | inr s3 =>
                      have := g4 s3 s2' ho2' (by rw [← ho2', hr2]; exact hh2)
                      rw [← ho2', hr2] at this
                      have := p3 s3 ho2'
                      rw [List.length_append]
                      omega
                · have := c7 ho
                  rw [List.append_assoc, List.append_assoc] at this
                  exact this
              refine ⟨fun c => key (nI 2062) ?_ 2000 62 (by decide), fun c => key (nI 2060) ?_ 2000 60 (by decide)⟩
              · have : ¬ w = 10 := fun q => c (by rw [q]; rfl)
                rw [show w = 11 by omega]; rfl
              · have : w = 10 := (nI_eq (b := 10) (by omega) (by omega)).mp (Classical.not_not.mp c)
                rw [this]; rfl
          exact wb_Law_readUnit_18 hm (sp_Tape_atSign (wb_Law_readUnit_25 hm ⟨fun c => absurd (by rw [na]; rfl) c, fun _ => ⟨fun c => absurd (w10.mp c) hw10, fun _ => g38⟩⟩))
      · rw [pU_r, if_neg (by rw [h2]; decide), if_neg (by rw [h2]; rintro ⟨q, _⟩; exact absurd q (by decide)), hw]
        rfl
    · have hnw : oword b n wlW s = none := by
        cases hw : oword b n wlW s with
        | none => rfl
        | some w => exact absurd (oword_tk hw) h2
      refine wb_Law_readUnit_0 hm ⟨fun _ => wb_Law_readUnit_18 hm (sp_Tape_atSign ?_), fun c => absurd (fun q => h2 (k5.symm.trans q)) c⟩
      by_cases hb : tk b n s = 3 ∧ b s = 40
      · have na : decide (I 1 5 = 3 ∧ I 1 6 = 40) = true := decide_eq_true ((ct_sign hct).mpr hb)
        have ePU : pU b n S (.inr s) = pB b n S s := by
          rw [pU_r, if_neg (by rw [hb.1]; decide), if_pos hb]
        rw [ePU] at h f49
        have hlt := hp.2.2 (tk_3 hb.1).1
        rw [na]
        refine wb_Law_readUnit_25 hm ⟨fun _ => ?_, fun c => absurd i01_1 c⟩
        cases S with
        | none => exact wb_Law_readUnit_38 hm ⟨fun c => absurd (c6.mp c) (by rw [hN rfl]; decide), fun _ => sp_Tape_fail (k := 3) (by omega) hn6 hc (fun I1 t1 k1 => f49 I1 _ _ (3, s) t1 k1 rfl)⟩
        | some F =>
          obtain ⟨ho6, hF, hG⟩ := hS F rfl
          unfold pB at h
          dsimp only at h
          refine wb_Law_readUnit_38 hm ⟨fun _ => wb_Law_readUnit_49 hm (sp_Tape_sound hc (wb_Law_readUnit_53 hm ⟨fun _ => ⟨fun _ => ⟨fun _ => wb_Law_readUnit_94 hm (sp_Tape_advance hn6 hA hc (fun I1 t1 k1 => wb_Law_readUnit_98 hm hq ⟨fun c => absurd c i01_1, fun _ => ?_⟩)), fun c => absurd i01_1 c⟩, fun c => absurd (by rw [k5, hb.1]; decide) c⟩, fun c => absurd i01_1 c⟩)), fun c => absurd (c6.mpr ho6) c⟩
          rw [nI_1]
          refine hF (d + 6) (by omega) _ _ _ _ _ _ _ (.inr (nx b n s)) cs hA k1 (codeUp_T q1 t1 hu) (fun s1 e => by cases e; exact ⟨hp.1.1, by omega, codeAt_T q1 t1 hcode⟩) (fun I2 A2 f1 f2 k2 u2 c2 => wb_Law_readUnit_111 hm (sp_Tape_sign hn6 (by rw [f2 2 (by simp; omega)]; exact hA) k2 (fun I3 t3 k3 => wb_Law_readUnit_117 hm (wb_Law_readUnit_193 hm (h I3 A2 (lqI_t (lqI_T t1) (lqI_t f1 (lqI_T t3))) f2 k3 (codeUp_T q1 t3 u2) (fun ho => codeAt_T q1 t3 (c2 (osign_snd ho))))))))
      · have na : decide (I 1 5 = 3 ∧ I 1 6 = 40) = false := decide_eq_false (fun q => hb ((ct_sign hct).mp q))
        rw [na]
        refine wb_Law_readUnit_25 hm ⟨fun c => absurd rfl c, fun _ => ⟨fun _ => wb_Law_readUnit_49 hm (sp_Tape_sound hc (wb_Law_readUnit_53 hm ⟨fun _ => ⟨fun c => ⟨fun c => absurd rfl c, fun _ => ⟨fun c => absurd rfl c, fun _ => ?_⟩⟩, fun c => ?_⟩, fun c => absurd i01_1 c⟩)), fun c => absurd (by decide) c⟩⟩
        · have ePU : pU b n S (.inr s) = ([], .inl (1, s)) := by
            rw [pU_r, if_neg (fun q => c (k5.trans q)), if_neg hb, hnw]
            rfl
          rw [ePU] at h
          exact sp_Tape_fail (k := 1) (by omega) hn6 hc (fun I1 t1 k1 => wb_Law_readUnit_93 hm (h I1 A (lqI_T t1) fr_r k1 (codeUp_T q1 t1 hu) (fun q => by cases q)))
        · have h1 : tk b n s = 1 := k5.symm.trans (Classical.not_not.mp c)
          have ePU : pU b n S (.inr s) = ([(0, (onum b n 0 1000 (.inr s)).1)], (onum b n 0 1000 (.inr s)).2) := by
            rw [pU_r, if_pos h1]
          rw [ePU] at h
          have hlt : s < n := tk_lt (by rw [h1]; decide)
          refine sp_Tape_number (lo := 0) (hi := 1000) rfl rfl (by omega) (by omega) hn6 hA hc (fun I1 t1 k1 => wb_Law_readUnit_74 hm hq ?_)
          exact sp_Law_emit2 (c := (0, (onum b n 0 1000 (.inr s)).1)) (cs := cs) hq k1 (codeUp_T q1 t1 hu) (fun _ => rfl) (fun _ => ⟨codeAt_T q1 t1 hcode, by omega⟩) (fun I2 A2 f1 f2 k2 u2 c2 => wb_Law_readUnit_77 hm (h I2 A2 (lqI_t (lqI_T t1) f1) f2 k2 u2 c2))
end L2LC
