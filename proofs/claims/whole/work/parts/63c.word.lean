/-! ===== L2: words of the class ===== -/
def isWg (b : Nat → Int32) (kd : Int32) (s p : Nat) (w : List Int32) : Bool := decide (kd = 2 ∧ p = s + w.length ∧ ∀ j, j < w.length → b (s + j) = w.getD j 0)
def isW (b : Nat → Int32) (n s : Nat) (w : List Int32) : Bool := isWg b (tk b n s) s (te b n s) w
def widx (f : List Int32 → Bool) : List (List Int32) → Nat → Option Nat
  | [], _ => none
  | w :: ws, k => if f w = true then some k else widx f ws (k + 1)
def flatW : List (List Int32) → List Int32
  | [] => []
  | w :: ws => w ++ 32 :: flatW ws
theorem gd_app {pre l : List Int32} {j : Nat} : (pre ++ l).getD (pre.length + j) 0 = l.getD j 0 := by
  rw [List.getD_eq_getElem?_getD, List.getD_eq_getElem?_getD, List.getElem?_append_right (by omega), Nat.add_sub_cancel_left]
theorem gd_in {w l : List Int32} {j : Nat} (h : j < w.length) : (w ++ l).getD j 0 = w.getD j 0 := by
  rw [List.getD_eq_getElem?_getD, List.getD_eq_getElem?_getD, List.getElem?_append_left h]
theorem gd_mem {w : List Int32} {j : Nat} (h : j < w.length) : w.getD j 0 ∈ w := by
  rw [List.getD_eq_getElem?_getD, List.getElem?_eq_getElem h]
  exact List.getElem_mem h
section L2WD
variable {d n ti s p : Nat} {Q : gQ} {X : gX} {H : gH} {x : Nat} {P : Nat → Nat} {I A : Nat → Nat → Int32} {b : Nat → Int32} {o : PO}
set_option maxHeartbeats 1000000 in
theorem wh_word (hti : ti < 22) (hs : I 1 4 = nI s) (hp : I 1 3 = nI p) (s6 : s ≤ 600) (p6 : p ≤ 600) (hA : A 2 = b) (w pre rest : List Int32) (k : Nat) (hT : gtx ti = pre ++ (w ++ 32 :: rest)) (hw : ∀ c ∈ w, c ≠ 32)
    (hy : isWg b (I 1 5) s p w = true → Q (some (.int (nI k))) (gset H x cck P I A)) (hn : isWg b (I 1 5) s p w = false → gWp (gTab (tb_Tape_wordHere (meth (d + 4)))) Q X 25 [some (.ref (x + 1)), some (.ref (1000000 + ti)), some (.int (nI (k + 1))), some (.int (nI s)), some (.int (i01 (decide (I 1 5 = 2)))), some (.int (nI (pre.length + w.length + 1))), none] [] (gset H x cck P I A)) :
    ∀ j, j ≤ w.length → ∀ same : Bool, (same = true ↔ (I 1 5 = 2 ∧ ∀ i, i < j → s + i < p ∧ b (s + i) = w.getD i 0)) → gWp (gTab (tb_Tape_wordHere (meth (d + 4)))) Q X 25 [some (.ref (x + 1)), some (.ref (1000000 + ti)), some (.int (nI k)), some (.int (nI (s + j))), some (.int (i01 same)), some (.int (nI (pre.length + j))), none] [] (gset H x cck P I A) := by
  have hm := @mo_Tape_wordHere (meth (d + 4)) (meth_smono (d + 4))
  have hl := gtx_lt ti hti
  have hlen : (gtx ti).length = pre.length + (w.length + (rest.length + 1)) := by rw [hT, List.length_append, List.length_append, List.length_cons]
  have hr : 1000000 ≤ 1000000 + ti ∧ 1000000 + ti < 1000000 + gNT := ⟨by omega, by show _ < 1000000 + 22; omega⟩
  refine gdown ?_ ?_
  · intro same hsame
    refine wb_Tape_wordHere_25 hm hr (sp_length (d := d + 2) hti (wb_Tape_wordHere_31 hm hr ⟨fun c => absurd c (nI_ge (by omega) (by omega)), fun _ => sp_charAt (d := d) hti (by omega) ?_⟩))
    rw [hT, gd_app, show (w ++ 32 :: rest).getD w.length 0 = 32 by simp]
    have go : isWg b (I 1 5) s p w = false → ∀ v4, gWp (gTab (tb_Tape_wordHere (meth (d + 4)))) Q X 101 [some (.ref (x + 1)), some (.ref (1000000 + ti)), some (.int (nI k)), some (.int (nI (s + w.length))), some (.int v4), some (.int (nI (pre.length + w.length))), some (.int 32)] [] (gset H x cck P I A) := by
      intro hf v4
      have := hn hf
      refine wb_Tape_wordHere_101 hm ⟨fun c => wb_Tape_wordHere_122 hm (wb_Tape_wordHere_124 hm ?_), fun c => wb_Tape_wordHere_122 hm (wb_Tape_wordHere_124 hm ?_)⟩
      · rw [nI_1, nI_1, hs]
        rw [decide_eq_false c] at this
        exact this
      · rw [nI_1, nI_1, hs]
        rw [decide_eq_true (Classical.not_not.mp c)] at this
        exact this
    refine wb_Tape_wordHere_40 hm ⟨fun _ => ⟨fun c => go ?_ _, fun c => ⟨fun c2 => go ?_ _, fun c2 => hy ?_⟩⟩, fun c => absurd rfl c⟩
    · unfold isWg
      refine decide_eq_false (fun q => ?_)
      have : same = true := hsame.mpr ⟨q.1, fun i hi => ⟨by have := q.2.1; omega, q.2.2 i hi⟩⟩
      rw [this] at c
      exact absurd c (by decide)
    · unfold isWg
      refine decide_eq_false (fun q => c2 ?_)
      rw [hp, q.2.1]
    · have ht : same = true := by
        cases same
        · exact absurd rfl c
        · rfl
      obtain ⟨q1, q2⟩ := hsame.mp ht
      have e : s + w.length = p := by
        rw [hp] at c2
        exact (nI_eq (by omega) (by omega)).mp (Classical.not_not.mp c2)
      unfold isWg
      exact decide_eq_true ⟨q1, e.symm, fun j hj => (q2 j hj).2⟩
  · intro j hj ih same hsame
    refine wb_Tape_wordHere_25 hm hr (sp_length (d := d + 2) hti (wb_Tape_wordHere_31 hm hr ⟨fun c => absurd c (nI_ge (by omega) (by omega)), fun _ => sp_charAt (d := d) hti (by omega) ?_⟩))
    rw [hT, gd_app, gd_in hj]
    have h32 : w.getD j 0 ≠ 32 := hw _ (gd_mem hj)
    have go : ∀ (v6 : Int32) (nw : Bool), (nw = true ↔ (I 1 5 = 2 ∧ ∀ i, i < j + 1 → s + i < p ∧ b (s + i) = w.getD i 0)) → ∀ sv, sv = i01 nw → gWp (gTab (tb_Tape_wordHere (meth (d + 4)))) Q X 78 [some (.ref (x + 1)), some (.ref (1000000 + ti)), some (.int (nI k)), some (.int (nI (s + j))), some (.int (i01 same)), some (.int (nI (pre.length + j))), some (.int v6)] [.int sv] (gset H x cck P I A) := by
      intro v6 nw hnw sv e
      subst e
      refine wb_Tape_wordHere_78 hm (wb_Tape_wordHere_124 hm ?_)
      rw [nI_1, nI_1]
      exact ih nw hnw
    refine wb_Tape_wordHere_40 hm ⟨fun c => absurd c h32, fun _ => ⟨fun c => wb_Tape_wordHere_77 hm (go _ false ⟨fun q => (by cases q), fun q => ?_⟩ _ rfl), fun c => ?_⟩⟩
    · have : same = true := hsame.mpr ⟨q.1, fun i hi => q.2 i (by omega)⟩
      rw [this] at c
      exact absurd c (by decide)
    · have ht : same = true := by
        cases same
        · exact absurd rfl c
        · rfl
      obtain ⟨q1, q2⟩ := hsame.mp ht
      rw [hp]
      refine ⟨fun c2 => wb_Tape_wordHere_77 hm (go _ false ⟨fun q => (by cases q), fun q => ?_⟩ _ rfl), fun c2 => ?_⟩
      · rw [nI_leI (by omega) (by omega)] at c2
        have := (q.2 j (by omega)).1
        omega
      · have hlt : s + j < p := by
          have : ¬ p ≤ s + j := fun q => c2 (nI_le q (by omega))
          omega
        refine ⟨vp_in_nI (by omega) (by omega), ?_⟩
        rw [nI_clamp (by omega), hA]
        refine ⟨fun c3 => wb_Tape_wordHere_77 hm (go _ false ⟨fun q => (by cases q), fun q => absurd (q.2 j (by omega)).2 c3⟩ _ rfl), fun c3 => go _ true ⟨fun _ => ⟨q1, fun i hi => ?_⟩, fun _ => rfl⟩ _ rfl⟩
        by_cases hij : i = j
        · rw [hij]; exact ⟨hlt, Classical.not_not.mp c3⟩
        · exact q2 i (by omega)
theorem wh_words (hti : ti < 22) (hs : I 1 4 = nI s) (hp : I 1 3 = nI p) (s6 : s ≤ 600) (p6 : p ≤ 600) (hA : A 2 = b) (hn : n ≤ 600) (hc : cS b n o I) : ∀ (ws : List (List Int32)) (pre : List Int32) (k : Nat), gtx ti = pre ++ flatW ws → (∀ w ∈ ws, ∀ c ∈ w, c ≠ 32) →
    (∀ k', widx (isWg b (I 1 5) s p) ws k = some k' → Q (some (.int (nI k'))) (gset H x cck P I A)) → (widx (isWg b (I 1 5) s p) ws k = none → ∀ I', tT I I' → cS b n (ofail 1 o) I' → Q (some (.int (-1))) (gset H x cck P I' A)) →
    gWp (gTab (tb_Tape_wordHere (meth (d + 4)))) Q X 25 [some (.ref (x + 1)), some (.ref (1000000 + ti)), some (.int (nI k)), some (.int (nI s)), some (.int (i01 (decide (I 1 5 = 2)))), some (.int (nI pre.length)), none] [] (gset H x cck P I A) := by
  have hm := @mo_Tape_wordHere (meth (d + 4)) (meth_smono (d + 4))
  have hl := gtx_lt ti hti
  have hr : 1000000 ≤ 1000000 + ti ∧ 1000000 + ti < 1000000 + gNT := ⟨by omega, by show _ < 1000000 + 22; omega⟩
  intro ws
  induction ws with
  | nil =>
    intro pre k hT hw hy hno
    have e : (gtx ti).length = pre.length := by rw [hT]; simp [flatW]
    refine wb_Tape_wordHere_25 hm hr (sp_length (d := d + 2) hti (wb_Tape_wordHere_31 hm hr ⟨fun _ => sp_Tape_fail (d := d + 3) (k := 1) (by omega) hn hc (fun I' t1 q1 => wb_Tape_wordHere_135 hm (hno rfl I' t1 q1)), fun c => absurd (nI_le (by omega) (by omega)) c⟩))
  | cons w ws ih =>
    intro pre k hT hw hy hno
    refine wh_word hti hs hp s6 p6 hA w pre (flatW ws) k hT (hw w List.mem_cons_self) (fun q => hy k ?_) (fun q => ?_) 0 (Nat.zero_le _) (decide (I 1 5 = 2)) (by rw [decide_eq_true_eq]; exact ⟨fun q => ⟨q, fun i hi => absurd hi (Nat.not_lt_zero i)⟩, fun q => q.1⟩)
    · unfold widx; rw [if_pos q]
    · have e : widx (isWg b (I 1 5) s p) (w :: ws) k = widx (isWg b (I 1 5) s p) ws (k + 1) := by
        rw [widx, if_neg (by rw [q]; decide)]
      rw [e] at hno hy
      have := ih (pre ++ (w ++ [32])) (k + 1) (by rw [hT, flatW]; simp) (fun w' h' => hw w' (List.mem_cons_of_mem _ h')) hy hno
      have hl2 : (pre ++ (w ++ [32])).length = pre.length + w.length + 1 := by simp; omega
      rw [hl2] at this
      exact this
/-- which word stands here -/
def oword (b : Nat → Int32) (n : Nat) (ws : List (List Int32)) (s : Nat) : Option Nat := widx (isW b n s) ws 0
def oI (k : Option Nat) : Int32 := match k with
  | some k => nI k
  | none => -1
theorem sp_wordHere {ws : List (List Int32)} (hti : ti < 22) (hT : gtx ti = flatW ws) (hws : ∀ w ∈ ws, ∀ c ∈ w, c ≠ 32) (hA : A 2 = b) (hn : n ≤ 600) (hc : cS b n (.inr s) I)
    (h1 : ∀ k, oword b n ws s = some k → Q (some (.int (nI k))) (gset H x cck P I A)) (h0 : oword b n ws s = none → ∀ I', tT I I' → cS b n (.inl (1, s)) I' → Q (some (.int (-1))) (gset H x cck P I' A)) : meth (d + 5) m_Tape_wordHere [.ref (x + 1), .ref (1000000 + ti)] (gset H x cck P I A) Q X := by
  have hm := @mo_Tape_wordHere (meth (d + 4)) (meth_smono (d + 4))
  have hc' := hc
  obtain ⟨h2, h3, h4, h5, h6, h6', h7, h8, hp⟩ := hc
  have ht := (te_n (b := b) hp.1).1
  have hs := hp.1
  have key := wh_words (d := d) (Q := Q) (X := X) (H := H) (x := x) (P := P) hti h4 h3 (by omega) (by omega) hA hn hc' ws [] 0 hT hws (by rw [h5]; exact h1) (by rw [h5]; exact h0)
  refine me_Tape_wordHere (wb_Tape_wordHere_0 hm ⟨fun c => wb_Tape_wordHere_20 hm ?_, fun c => wb_Tape_wordHere_20 hm ?_⟩)
  · rw [decide_eq_false c] at key; rw [h4]; exact key
  · rw [decide_eq_true (Classical.not_not.mp c)] at key; rw [h4]; exact key
/-- the same behind a fault: any answer of these, nothing changed -/
theorem sp_wordHereF {ws : List (List Int32)} {e : Nat × Nat} (hti : ti < 22) (hT : gtx ti = flatW ws) (hws : ∀ w ∈ ws, ∀ c ∈ w, c ≠ 32) (hA : A 2 = b) (hn : n ≤ 600) (hc : cS b n (.inl e) I)
    (h : ∀ v I', tT I I' → cS b n (.inl e) I' → Q (some (.int v)) (gset H x cck P I' A)) : meth (d + 5) m_Tape_wordHere [.ref (x + 1), .ref (1000000 + ti)] (gset H x cck P I A) Q X := by
  have hm := @mo_Tape_wordHere (meth (d + 4)) (meth_smono (d + 4))
  have hc' := hc
  obtain ⟨e1, e2, e7, e8, s', p', s6, p6, h4, h3⟩ := hc
  have key := wh_words (d := d) (Q := Q) (X := X) (H := H) (x := x) (P := P) hti h4 h3 s6 p6 hA hn hc' ws [] 0 hT hws (fun k _ => h _ I tT_r hc') (fun _ I' t1 q1 => h _ I' t1 q1)
  refine me_Tape_wordHere (wb_Tape_wordHere_0 hm ⟨fun c => wb_Tape_wordHere_20 hm ?_, fun c => wb_Tape_wordHere_20 hm ?_⟩)
  · rw [decide_eq_false c] at key; rw [h4]; exact key
  · rw [decide_eq_true (Classical.not_not.mp c)] at key; rw [h4]; exact key
theorem sp_Tape_drop (h : Q none (gset H x cck P (upI (upI (upI I 1 1 0) 1 7 0) 1 8 (-1)) A)) : meth (d + 1) m_Tape_drop [.ref (x + 1)] (gset H x cck P I A) Q X := by
  have hm := @mo_Tape_drop (meth d) (meth_smono d)
  exact me_Tape_drop (wb_Tape_drop_0 hm h)
theorem sp_Tape_open (hn : n ≤ 600) (hA : A 2 = b) (h : ∀ I', Fr [1] I I' → I' 1 1 = 0 → cS b n (.inr (sk b n 0)) I' → Q none (gset H x cck P I' A)) : meth (d + 2) m_Tape_open [.ref (x + 1), .int (nI n)] (gset H x cck P I A) Q X := by
  have hm := @mo_Tape_open (meth (d + 1)) (meth_smono (d + 1))
  refine me_Tape_open (wb_Tape_open_0 hm (sp_Tape_drop (wb_Tape_open_15 hm ?_)))
  rw [show (600 : Int32) = nI 600 from rfl, gmin_n (by omega) (by omega), Nat.min_eq_left hn]
  refine me_Tape_advance (adv_all (i := 0) hn hA (Nat.zero_le n) ?_ ?_ ?_ ?_ (fun I' t1 q1 => wb_Tape_open_24 hm (h I' (fr_t (fr_I (fr_I (fr_I (fr_I (fr_I fr_r (by simp)) (by simp)) (by simp)) (by simp)) (by simp)) t1.1) (by rw [t1.2]; simp [upI, upd]) q1)))
  all_goals simp [upI, upd]
  rfl
end L2WD
