/-! ===== L2: a law's text, the reference ===== -/
theorem isW_eq {b : Nat → Int32} {n s : Nat} {w : List Int32} (h : isW b n s w = true) (v : List Int32) : isW b n s v = decide (v = w) := by
  unfold isW isWg at h ⊢
  rw [decide_eq_true_eq] at h
  apply decide_eq_decide.mpr
  constructor
  · intro q
    have hl : v.length = w.length := by have := h.2.1; have := q.2.1; omega
    apply List.ext_getElem hl
    intro i h1 h2
    have a1 := h.2.2 i h2
    have a2 := q.2.2 i h1
    rw [List.getD_eq_getElem?_getD, List.getElem?_eq_getElem h2] at a1
    rw [List.getD_eq_getElem?_getD, List.getElem?_eq_getElem h1] at a2
    exact a2.symm.trans a1
  · intro q; rw [q]; exact h
theorem oword_of {b : Nat → Int32} {n s k : Nat} {ws : List (List Int32)} {w : List Int32} (h : isW b n s w = true) (hk : widx (fun v => decide (v = w)) ws 0 = some k) : oword b n ws s = some k := by
  unfold oword
  rw [show isW b n s = fun v => decide (v = w) from funext (fun v => isW_eq h v)]
  exact hk
theorem oword_no {b : Nat → Int32} {n s : Nat} {ws : List (List Int32)} (h : ∀ w ∈ ws, isW b n s w = false) : oword b n ws s = none := by
  unfold oword
  have key : ∀ (ws : List (List Int32)) (k : Nat), (∀ w ∈ ws, isW b n s w = false) → widx (isW b n s) ws k = none := by
    intro ws
    induction ws with
    | nil => intro k _; rfl
    | cons w ws ih =>
      intro k hw
      unfold widx
      rw [if_neg (by rw [hw w List.mem_cons_self]; decide)]
      exact ih _ (fun v hv => hw v (List.mem_cons_of_mem _ hv))
  exact key ws 0 h
def rcodeAt (cs : CO) (I A : Nat → Nat → Int32) : Prop := I 0 26 = nI cs.length ∧ ∀ i, i < cs.length → A 9 i = nI (cs.getD i (0, 0)).1 ∧ A 10 i = nI (cs.getD i (0, 0)).2
def rqI (I I' : Nat → Nat → Int32) : Prop := ∀ f, f ≠ 4 → f ≠ 5 → f ≠ 6 → f ≠ 26 → I' 0 f = I 0 f
def rq7 (I I' : Nat → Nat → Int32) : Prop := ∀ f, f ≠ 4 → f ≠ 5 → f ≠ 6 → f ≠ 26 → f ≠ 7 → I' 0 f = I 0 f
def rqB (A A' : Nat → Nat → Int32) : Prop := Fr [9, 10] A A'
theorem rqI_r {I : Nat → Nat → Int32} : rqI I I := fun _ _ _ _ _ => rfl
theorem rqI_t {I I' I'' : Nat → Nat → Int32} (h : rqI I I') (k : rqI I' I'') : rqI I I'' := fun f a b c d => (k f a b c d).trans (h f a b c d)
theorem rqI_T {I I' : Nat → Nat → Int32} (h : tR I I') : rqI I I' := fun f a b c _ => h f a b c
theorem rq7_t {I I' I'' : Nat → Nat → Int32} (h : rq7 I I') (k : rq7 I' I'') : rq7 I I'' := fun f a b c d e => (k f a b c d e).trans (h f a b c d e)
theorem rq7_I {I I' : Nat → Nat → Int32} (h : rqI I I') : rq7 I I' := fun f a b c d _ => h f a b c d
theorem rq7_T {I I' : Nat → Nat → Int32} (h : tR I I') : rq7 I I' := rq7_I (rqI_T h)
theorem rqI_7 {I I' : Nat → Nat → Int32} {a : Int32} (h : rq7 I I') (ha : a = I 0 7) : rqI I (upI I' 0 7 a) := fun f h4 h5 h6 h26 => by
  by_cases h7 : f = 7
  · rw [h7, upI_s, ha]
  · rw [upI_f h7]; exact h f h4 h5 h6 h26 h7
theorem rcodeAt_T {cs : CO} {I I' A : Nat → Nat → Int32} (h : tR I I') (k : rcodeAt cs I A) : rcodeAt cs I' A := ⟨by rw [h 26 (by decide) (by decide) (by decide)]; exact k.1, k.2⟩
theorem rcodeAt_7 {cs : CO} {I A : Nat → Nat → Int32} {a : Int32} (k : rcodeAt cs I A) : rcodeAt cs (upI I 0 7 a) A := ⟨by rw [upI_f (by decide)]; exact k.1, k.2⟩
def rlawSp (b : Nat → Int32) (n : Nat) (M dd op : Nat) (F : PO → CO × PO) : Prop :=
  ∀ (d : Nat), dd ≤ d → ∀ (Q : gQ) (X : gX) (H : gH) (x : Nat) (P : Nat → Nat) (I A : Nat → Nat → Int32) (o : PO) (cs : CO), A 2 = b → rS b n o I → I 0 7 = nI op → (∀ s, o = .inr s → s ≤ n ∧ cs.length ≤ s ∧ rcodeAt cs I A) →
    (∀ I' A', rqI I I' → rqB A A' → rS b n (F o).2 I' → (osnd (F o).2 = true → rcodeAt (cs ++ (F o).1) I' A') → Q none (gset H x mck P I' A')) → meth d M [.ref (x + 0)] (gset H x mck P I A) Q X
section L2LR
variable {d n : Nat} {Q : gQ} {X : gX} {H : gH} {x : Nat} {P : Nat → Nat} {I A : Nat → Nat → Int32} {b : Nat → Int32}
theorem sp_R_emit2 {o : PO} {cs : CO} {c : Nat × Nat} {v1 v2 : Int32} (hn : n ≤ 600) (hc : rS b n o I) (hv : osnd o = true → v1 = nI c.1 ∧ v2 = nI c.2) (hs : osnd o = true → rcodeAt cs I A ∧ cs.length < 150)
    (h : ∀ I' A', rqI I I' → rqB A A' → rS b n o I' → (osnd o = true → rcodeAt (cs ++ [c]) I' A') → Q none (gset H x mck P I' A')) : meth (d + 2) m_R_emit [.ref (x + 0), .int v1, .int v2] (gset H x mck P I A) Q X := by
  have hm := @mo_R_emit (meth (d + 1)) (meth_smono (d + 1))
  refine me_R_emit (wb_R_emit_0 hm (sp_R_fine hn hc (wb_R_emit_4 hm ?_)))
  cases o with
  | inl e => exact ⟨fun c => absurd rfl c, fun _ => h I A rqI_r fr_r hc (fun q => by cases q)⟩
  | inr s =>
    obtain ⟨h1, h2⟩ := hs rfl
    obtain ⟨e1, e2⟩ := hv rfl
    refine ⟨fun _ => ?_, fun c => absurd i01_1 c⟩
    rw [h1.1, nI_clamp (by omega), nI_1]
    refine ⟨vp_in_nI (by omega) (by omega), vp_in_nI (by omega) (by omega), h _ _ (fun f _ _ _ h26 => by rw [upI_f h26]) (fr_A (fr_A fr_r (by simp)) (by simp)) (rS_I (by decide) hc) (fun _ => ⟨by rw [upI_s, List.length_append]; rfl, fun i hi => ?_⟩)⟩
    rw [upA_n (o := 10) (j := 9) (by decide), upA_s, upA_s, upA_n (o := 9) (j := 10) (by decide), gd_last hi]
    by_cases he : i = cs.length
    · rw [if_pos he, he, upd_at, upd_at]; exact ⟨e1, e2⟩
    · rw [if_neg he, upd_ne he, upd_ne he]
      rw [List.length_append] at hi
      exact h1.2 i (by have : i < cs.length + 1 := hi; omega)
theorem sp_R_opensOne {s op k : Nat} (hn : n ≤ 600) (hc : rX b n s I) (h7 : I 0 7 = nI op) (hop : op ≤ 6) (hk : s + k = te b n s) (h : ∀ I', rq7 I I' → I' 0 7 = nI (op + 1) → I' 0 26 = I 0 26 → rS b n (if op = 6 then .inl (3, s) else .inr (nx b n s)) I' → Q none (gset H x mck P I' A)) : meth (d + 2) m_R_opensOne [.ref (x + 0), .int (nI k)] (gset H x mck P I A) Q X := by
  have hm := @mo_R_opensOne (meth (d + 1)) (meth_smono (d + 1))
  have hte := (te_n (b := b) hc.2.2.2.1).1
  have e6 : I 0 7 = 6 ↔ op = 6 := by rw [h7]; exact nI_eq (b := 6) (by omega) (by omega)
  refine me_R_opensOne (wb_R_opensOne_0 hm (sp_R_fine hn (rX_S hc) (wb_R_opensOne_4 hm ⟨fun q => absurd q i01_1, fun _ => ⟨fun c => wb_R_opensOne_25 hm (sp_R_fine hn (rX_S hc) (wb_R_opensOne_29 hm ⟨fun q => absurd q i01_1, fun _ => wb_R_opensOne_42 hm ?_⟩)), fun c => ?_⟩⟩)))
  · have hne : ¬ op = 6 := fun q => c (e6.mpr q)
    rw [if_neg hne] at h
    rw [upI_f (by decide), h7, nI_1, hc.2.1, nI_add, hk]
    refine h _ (fun f a1 a2 a3 a4 a5 => by rw [upI_f a5, upI_f a1]) upI_s (by rw [upI_f (by decide), upI_f (by decide)]) (rS_I (by decide) ⟨by rw [upI_f (by decide)]; exact hc.1, te b n s, hte, upI_s, by rw [upI_f (by decide)]; exact hc.2.2.1, rfl⟩)
  · have he : op = 6 := e6.mp (Classical.not_not.mp c)
    rw [if_pos he] at h
    rw [hc.2.1]
    refine sp_R_wrong (k := 3) (q := s) (by omega) hc.2.2.2.1 hn (rX_S hc) (fun I1 t1 q1 _ => wb_R_opensOne_25 hm (sp_R_fine hn q1 (wb_R_opensOne_29 hm ⟨fun _ => wb_R_opensOne_42 hm ?_, fun c => absurd rfl c⟩)))
    have j7 : I1 0 7 = nI op := by rw [t1 7 (by decide) (by decide) (by decide)]; exact h7
    rw [j7, nI_1]
    exact h _ (fun f a1 a2 a3 a4 a5 => by rw [upI_f a5]; exact t1 f a1 a2 a3) upI_s (by rw [upI_f (by decide)]; exact t1 26 (by decide) (by decide) (by decide)) (rS_I (by decide) q1)
theorem sp_R_unitF {e : Nat × Nat} (hn : n ≤ 600) (hc : rS b n (.inl e) I) (h : Q none (gset H x mck P I A)) : meth (d + 2) m_R_readUnit [.ref (x + 0)] (gset H x mck P I A) Q X := by
  have hm := @mo_R_readUnit (meth (d + 1)) (meth_smono (d + 1))
  exact me_R_readUnit (wb_R_readUnit_0 hm (sp_R_fine hn hc (wb_R_readUnit_4 hm ⟨fun c => absurd rfl c, fun _ => h⟩)))
theorem sp_R_prodF {e : Nat × Nat} (hn : n ≤ 600) (hc : rS b n (.inl e) I) (h : Q none (gset H x mck P I A)) : meth (d + 3) m_R_readProduct [.ref (x + 0)] (gset H x mck P I A) Q X := by
  have hm := @mo_R_readProduct (meth (d + 2)) (meth_smono (d + 2))
  exact me_R_readProduct (wb_R_readProduct_0 hm (sp_R_unitF hn hc (wb_R_readProduct_4 hm (sp_R_fine hn hc (wb_R_readProduct_8 hm ⟨fun _ => wb_R_readProduct_90 hm h, fun c => absurd rfl c⟩)))))
theorem sp_R_sumF {e : Nat × Nat} (hn : n ≤ 600) (hc : rS b n (.inl e) I) (h : Q none (gset H x mck P I A)) : meth (d + 4) m_R_readSum [.ref (x + 0)] (gset H x mck P I A) Q X := by
  have hm := @mo_R_readSum (meth (d + 3)) (meth_smono (d + 3))
  exact me_R_readSum (wb_R_readSum_0 hm (sp_R_prodF hn hc (wb_R_readSum_4 hm (sp_R_fine hn hc (wb_R_readSum_8 hm ⟨fun _ => wb_R_readSum_67 hm h, fun c => absurd rfl c⟩)))))
set_option maxHeartbeats 1000000 in
theorem sp_R_factHere {s : Nat} (hn : n ≤ 600) (hA : A 2 = b) (hc : rS b n (.inr s) I) (nl : isW b n s (gtx 16) = false) (nm : isW b n s (gtx 17) = false) (h : ∀ I', tR I I' → rX b n s I' → Q (some (.int (oI (oword b n wlW s)))) (gset H x mck P I' A)) : meth (d + 6) m_R_factHere [.ref (x + 0)] (gset H x mck P I A) Q X := by
  have hm := @mo_R_factHere (meth (d + 5)) (meth_smono (d + 5))
  refine me_R_factHere (wb_R_factHere_0 hm (sp_R_standsHere (i := 8) (by omega) (by decide +kernel) (by decide +kernel) hn hA hc (fun I1 t1 k1 => wb_R_factHere_6 hm ⟨fun c => sp_R_word hn hA (rX_S k1) (fun I2 t2 k2 => wb_R_factHere_15 hm ?_), fun c => ?_⟩)))
  · have h8 := b_i00 c
    have hs := k2.2.2.2.1
    have h := h I2 (tR_t t1 t2) k2
    have fin : ∀ i k, isW b n s (gtx i) = true → widx (fun v => decide (v = gtx i)) wlW 0 = some k → ∀ v, v = nI k → gWp (gTab (tb_R_factHere (meth (d + 5)))) Q X 145 [some (.ref (x + 0)), some (.int (nI (wvN b n s)))] [.int v] (gset H x mck P I2 A) := by
      intro i k hw hk v hv
      rw [oword_of hw hk] at h
      rw [hv]
      exact wb_R_factHere_145 hm h
    have we : ∀ i, letW (gtx i) = true → (nI (wvN b n s) = nI (ofN (gtx i)) ↔ isW b n s (gtx i) = true) := fun i hi => word_eq hs hi
    have wn : ∀ i, letW (gtx i) = true → ¬ nI (wvN b n s) = nI (ofN (gtx i)) → isW b n s (gtx i) = false := fun i hi hne => by
      cases hq : isW b n s (gtx i)
      · rfl
      · exact absurd ((we i hi).mpr hq) hne
    refine sp_R_of (i := 9) (by omega) (by decide +kernel) (wb_R_factHere_23 hm ⟨fun n9 => ?_, fun c => fin 9 0 ((we 9 (by decide +kernel)).mp (Classical.not_not.mp c)) (by decide +kernel) _ rfl⟩)
    refine sp_R_of (i := 10) (by omega) (by decide +kernel) (wb_R_factHere_37 hm ⟨fun n10 => ?_, fun c => fin 10 2 ((we 10 (by decide +kernel)).mp (Classical.not_not.mp c)) (by decide +kernel) _ rfl⟩)
    refine sp_R_of (i := 7) (by omega) (by decide +kernel) (wb_R_factHere_50 hm ⟨fun n7 => ?_, fun c => fin 7 3 ((we 7 (by decide +kernel)).mp (Classical.not_not.mp c)) (by decide +kernel) _ rfl⟩)
    refine sp_R_of (i := 11) (by omega) (by decide +kernel) (wb_R_factHere_64 hm ⟨fun n11 => ?_, fun c => fin 11 4 ((we 11 (by decide +kernel)).mp (Classical.not_not.mp c)) (by decide +kernel) _ rfl⟩)
    refine sp_R_of (i := 12) (by omega) (by decide +kernel) (wb_R_factHere_78 hm ⟨fun n12 => ?_, fun c => fin 12 5 ((we 12 (by decide +kernel)).mp (Classical.not_not.mp c)) (by decide +kernel) _ rfl⟩)
    refine sp_R_of (i := 13) (by omega) (by decide +kernel) (wb_R_factHere_92 hm ⟨fun n13 => ?_, fun c => fin 13 6 ((we 13 (by decide +kernel)).mp (Classical.not_not.mp c)) (by decide +kernel) _ rfl⟩)
    refine sp_R_of (i := 14) (by omega) (by decide +kernel) (wb_R_factHere_107 hm ⟨fun n14 => ?_, fun c => fin 14 7 ((we 14 (by decide +kernel)).mp (Classical.not_not.mp c)) (by decide +kernel) _ rfl⟩)
    refine sp_R_of (i := 5) (by omega) (by decide +kernel) (wb_R_factHere_121 hm ⟨fun n5 => ?_, fun c => fin 5 8 ((we 5 (by decide +kernel)).mp (Classical.not_not.mp c)) (by decide +kernel) _ rfl⟩)
    refine sp_R_of (i := 15) (by omega) (by decide +kernel) (wb_R_factHere_136 hm ⟨fun n15 => wb_R_factHere_145 hm ?_, fun c => fin 15 9 ((we 15 (by decide +kernel)).mp (Classical.not_not.mp c)) (by decide +kernel) _ rfl⟩)
    rw [oword_no (show ∀ w ∈ wlW, isW b n s w = false from ?_)] at h
    · exact h
    · intro w hw
      have e : wlW = [gtx 9, gtx 8, gtx 10, gtx 7, gtx 11, gtx 12, gtx 13, gtx 14, gtx 5, gtx 15, gtx 16, gtx 17] := by decide +kernel
      rw [e] at hw
      simp only [List.mem_cons, List.not_mem_nil, or_false] at hw
      rcases hw with rfl | rfl | rfl | rfl | rfl | rfl | rfl | rfl | rfl | rfl | rfl | rfl
      · exact wn 9 (by decide +kernel) n9
      · exact h8
      · exact wn 10 (by decide +kernel) n10
      · exact wn 7 (by decide +kernel) n7
      · exact wn 11 (by decide +kernel) n11
      · exact wn 12 (by decide +kernel) n12
      · exact wn 13 (by decide +kernel) n13
      · exact wn 14 (by decide +kernel) n14
      · exact wn 5 (by decide +kernel) n5
      · exact wn 15 (by decide +kernel) n15
      · exact nl
      · exact nm
  · have h := h I1 t1 k1
    rw [oword_of (b_i01 c) (show widx (fun v => decide (v = gtx 8)) wlW 0 = some 1 by decide +kernel)] at h
    exact h
set_option maxHeartbeats 2000000 in
theorem sp_R_readTwo {S : Option (PO → CO × PO)} {dd op D s k w : Nat} {cs : CO} (hn : n ≤ 150) (hS : ∀ F, S = some F → op < 6 ∧ rlawSp b n m_R_readSum dd (op + 1) F ∧ pGood n F D) (hN : S = none → op = 6) (hop : op ≤ 6) (hdd : 6 ≤ dd) (hd0 : dd + 1 ≤ d) (hA : A 2 = b) (hc : rX b n s I) (h7 : I 0 7 = nI op) (hk : s + k = te b n s) (hw : w = 10 ∨ w = 11) (hlen : cs.length ≤ s) (hsn : s < n) (hcode : rcodeAt cs I A)
    (h : ∀ I' A', rqI I I' → rqB A A' → rS b n (pT b n S w s).2 I' → (osnd (pT b n S w s).2 = true → rcodeAt (cs ++ (pT b n S w s).1) I' A') → Q none (gset H x mck P I' A')) : meth d m_R_readTwo [.ref (x + 0), .int (nI k), .int (nI (w - 4))] (gset H x mck P I A) Q X := by
  obtain ⟨d, rfl⟩ : ∃ d', d = d' + 7 := ⟨d - 7, by omega⟩
  have hm := @mo_R_readTwo (meth (d + 6)) (meth_smono (d + 6))
  have hn6 : n ≤ 600 := by omega
  have hs := hc.2.2.2.1
  have hp := nx_P (b := b) hs
  have hlt := hp.2.2 hsn
  refine me_R_readTwo (wb_R_readTwo_0 hm (sp_R_opensOne hn6 hc h7 hop hk (fun I1 f1 j7 j26 k1 => wb_R_readTwo_5 hm ?_)))
  cases S with
  | none =>
    have h6 := hN rfl
    rw [if_pos h6] at k1
    have hend : ∀ I', I' = upI I1 0 7 (I1 0 7 - 1) → rqI I I' := by
      intro I' e
      rw [e]
      refine rqI_7 f1 ?_
      rw [j7, h7, ← nI_1, show nI op + 1 - 1 = nI op by rw [nI_1]; exact nI_pred op]
    refine sp_R_sign (by decide) (by decide) (by decide) hn6 hA k1 (fun I2 t2 k2 => wb_R_readTwo_11 hm (sp_R_sumF hn6 k2 (wb_R_readTwo_15 hm (sp_R_sign (by decide) (by decide) (by decide) hn6 hA k2 (fun I3 t3 k3 => wb_R_readTwo_21 hm (sp_R_sumF hn6 k3 (wb_R_readTwo_25 hm (sp_R_sign (by decide) (by decide) (by decide) hn6 hA k3 (fun I4 t4 k4 => wb_R_readTwo_31 hm ?_)))))))))
    have g4 : I4 0 7 = nI (op + 1) := by rw [t4 7 (by decide) (by decide) (by decide), t3 7 (by decide) (by decide) (by decide), t2 7 (by decide) (by decide) (by decide)]; exact j7
    have f14 : rq7 I I4 := rq7_t f1 (rq7_T (tR_t t2 (tR_t t3 t4)))
    rw [g4, nI_pred op]
    refine sp_R_emit2 (c := (0, 0)) (cs := cs) hn6 (o := .inl (3, s)) (rS_I (by decide) k4) (fun q => by cases q) (fun q => by cases q) (fun I5 A5 f5 f6 k5 _ => wb_R_readTwo_47 hm (h I5 A5 (rqI_t (rqI_7 f14 h7.symm) f5) f6 k5 (fun q => by cases q)))
  | some F =>
    obtain ⟨ho6, hF, hG⟩ := hS F rfl
    rw [if_neg (by omega)] at k1
    unfold pT at h
    dsimp only at h
    have c1 : rcodeAt cs I1 A := ⟨by rw [j26]; exact hcode.1, hcode.2⟩
    refine sp_R_sign (by decide) (by decide) (by decide) hn6 hA k1 (fun I2 t2 k2 => wb_R_readTwo_11 hm ?_)
    have c2 := rcodeAt_T t2 c1
    have e7 : I2 0 7 = nI (op + 1) := by rw [t2 7 (by decide) (by decide) (by decide)]; exact j7
    generalize ho1 : osign b n 91 (.inr (nx b n s)) = o1 at k2 h
    have p1 : ∀ s1, o1 = .inr s1 → s1 ≤ n ∧ cs.length + 2 ≤ s1 := by
      intro s1 e
      rw [e] at ho1
      obtain ⟨s', e', t', _, e2⟩ := osign_ok ho1
      cases e'
      have hpp := nx_P (b := b) hp.1.1
      have := hpp.2.2 (tk_3 t').1
      rw [e2]
      exact ⟨hpp.1.1, by omega⟩
    refine hF (d + 6) (by omega) _ _ _ _ _ _ _ o1 cs hA k2 e7 (fun s1 e => ⟨(p1 s1 e).1, by have := (p1 s1 e).2; omega, c2⟩) (fun I3 A3 f3 g3 k3 c3 => wb_R_readTwo_15 hm (sp_R_sign (by decide) (by decide) (by decide) hn6 (by rw [g3 2 (by decide)]; exact hA) k3 (fun I4 t4 k4 => wb_R_readTwo_21 hm ?_)))
    have e7b : I4 0 7 = nI (op + 1) := by rw [t4 7 (by decide) (by decide) (by decide), f3 7 (by decide) (by decide) (by decide) (by decide)]; exact e7
    have g2 := fun s1 s2 (e : o1 = .inr s1) (e2 : (F (.inr s1)).2 = .inr s2) => hG.2 s1 s2 (p1 s1 e).1 e2
    have inl1 : ∀ e, o1 = .inl e → (F o1).2 = .inl e := fun e he => by rw [he, hG.1]
    generalize hr1 : F o1 = r1 at k3 c3 k4 h inl1 ⊢
    have p2 : ∀ s2, r1.2 = .inr s2 → s2 ≤ n ∧ (cs ++ r1.1).length + 2 ≤ s2 := by
      intro s2 e
      cases ho1' : o1 with
      | inl e' => rw [inl1 e' ho1'] at e; cases e
      | inr s1 =>
        have := g2 s1 s2 ho1' (by rw [← ho1', hr1]; exact e)
        rw [← ho1', hr1] at this
        have := p1 s1 ho1'
        rw [List.length_append]
        omega
    generalize ho2 : osign b n 44 r1.2 = o2 at k4 h
    have p3 : ∀ s3, o2 = .inr s3 → s3 ≤ n ∧ (cs ++ r1.1).length + 2 ≤ s3 ∧ osnd r1.2 = true := by
      intro s3 e
      rw [e] at ho2
      obtain ⟨s', e', t', _, e2⟩ := osign_ok ho2
      have hpp := nx_P (b := b) (p2 s' e').1
      have := p2 s' e'
      rw [e2, e']
      exact ⟨hpp.1.1, by omega, rfl⟩
    have f14 : rq7 I I4 := rq7_t f1 (rq7_t (rq7_T t2) (rq7_t (rq7_I f3) (rq7_T t4)))
    refine hF (d + 6) (by omega) _ _ _ _ _ _ _ o2 (cs ++ r1.1) (by rw [g3 2 (by decide)]; exact hA) k4 e7b (fun s3 e => ⟨(p3 s3 e).1, by have := (p3 s3 e).2; omega, rcodeAt_T t4 (c3 (p3 s3 e).2.2)⟩) (fun I5 A5 f5 g5 k5 c5 => wb_R_readTwo_25 hm (sp_R_sign (by decide) (by decide) (by decide) hn6 (by rw [g5 2 (by decide), g3 2 (by decide)]; exact hA) k5 (fun I6 t6 k6 => wb_R_readTwo_31 hm ?_)))
    have g4 := fun s1 s2 (e : o2 = .inr s1) (e2 : (F (.inr s1)).2 = .inr s2) => hG.2 s1 s2 (p3 s1 e).1 e2
    have inl2 : ∀ e, o2 = .inl e → (F o2).2 = .inl e := fun e he => by rw [he, hG.1]
    generalize hr2 : F o2 = r2 at k5 c5 k6 h inl2 ⊢
    have e7c : I6 0 7 = nI (op + 1) := by rw [t6 7 (by decide) (by decide) (by decide), f5 7 (by decide) (by decide) (by decide) (by decide)]; exact e7b
    rw [e7c, nI_pred op]
    refine sp_R_emit2 (c := (w - 4, 0)) (cs := cs ++ r1.1 ++ r2.1) hn6 (rS_I (by decide) k6) (fun _ => ⟨rfl, rfl⟩) (fun ho => ?_) (fun I7 A7 f7 g7 k7 c7 => wb_R_readTwo_47 hm (h I7 A7 (rqI_t (rqI_7 (rq7_t f14 (rq7_t (rq7_I f5) (rq7_T t6))) h7.symm) f7) (fr_t g3 (fr_t g5 g7)) k7 (fun ho => ?_)))
    · have hr2s := osign_snd ho
      refine ⟨rcodeAt_7 (rcodeAt_T t6 (c5 hr2s)), ?_⟩
      cases hh2 : r2.2 with
      | inl e => rw [hh2] at hr2s; cases hr2s
      | inr s2' =>
        cases ho2' : o2 with
        | inl e' => rw [inl2 e' ho2'] at hh2; cases hh2
        | inr s3 =>
          have := g4 s3 s2' ho2' (by rw [← ho2', hr2]; exact hh2)
          rw [← ho2', hr2] at this
          have := p3 s3 ho2'
          rw [List.length_append]
          omega
    · have := c7 ho
      rw [List.append_assoc, List.append_assoc] at this
      exact this
end L2LR
