/-! ===== L2: words of the reference ===== -/
def hshN (b : Nat → Int32) (s : Nat) : Nat → Nat
  | 0 => 0
  | k + 1 => 32 * hshN b s k + ((b (s + k)).toNatClampNeg - 96)
def wvN (b : Nat → Int32) (n s : Nat) : Nat := if en sm b n s - s ≤ 6 then hshN b s (en sm b n s - s) else 0
def gdf (w : List Int32) (j : Nat) : Int32 := w.getD j 0
def ofN (w : List Int32) : Nat := hshN (gdf w) 0 w.length
theorem bt_nI {m i : Nat} (h : i < 32) : bt (nI m) i = m.testBit i := by
  show (BitVec.ofNat 32 m).getLsbD i = _
  rw [BitVec.getLsbD_ofNat]
  simp [h]
theorem hsh_step {v y : Nat} (hv : v < 2 ^ 25) (hy : y < 32) : (nI v <<< ((5 : Int32) &&& 31)) ||| nI y = nI (32 * v + y) := by
  apply b_ext
  intro i hi
  rw [b_or, show ((5 : Int32)) = nI 5 from rfl, b_shl 5 (by omega) _ hi, bt_nI hi, bt_nI hi, show 32 * v + y = 2 ^ 5 * v + y by omega, Nat.testBit_two_pow_mul_add v (by omega)]
  by_cases h : i < 5
  · rw [if_pos h, decide_eq_false (by omega), Bool.false_and, Bool.false_or]
  · rw [if_neg h, decide_eq_true (by omega), Bool.true_and, bt_nI (by omega)]
    have : y.testBit i = false := Nat.testBit_lt_two_pow (Nat.lt_of_lt_of_le (show y < 2 ^ 5 by omega) (Nat.pow_le_pow_right (by omega) (by omega)))
    rw [this, Bool.or_false]
theorem sm_v {c : Int32} (h : sm c = true) : 97 ≤ c.toNatClampNeg ∧ c.toNatClampNeg ≤ 122 ∧ c = nI c.toNatClampNeg ∧ c - 96 = nI (c.toNatClampNeg - 96) := by
  obtain ⟨k, h1, h2, rfl⟩ := sm_n h
  rw [nI_clamp (by omega)]
  exact ⟨h1, h2, rfl, nI_sub (b := 96) (by omega)⟩
theorem hsh_lt {b : Nat → Int32} {s : Nat} : ∀ {k : Nat}, (∀ j, j < k → sm (b (s + j)) = true) → hshN b s k < 32 ^ k
  | 0, _ => by unfold hshN; omega
  | k + 1, h => by
    have := hsh_lt (k := k) (fun j hj => h j (by omega))
    have q := sm_v (h k (by omega))
    unfold hshN
    rw [Nat.pow_succ]
    omega
theorem hsh_inj {b b' : Nat → Int32} {s s' : Nat} : ∀ (k k' : Nat), (∀ j, j < k → sm (b (s + j)) = true) → (∀ j, j < k' → sm (b' (s' + j)) = true) → hshN b s k = hshN b' s' k' → k = k' ∧ ∀ j, j < k → b (s + j) = b' (s' + j)
  | 0, 0, _, _, _ => ⟨rfl, fun j hj => absurd hj (Nat.not_lt_zero j)⟩
  | 0, k' + 1, _, h', e => by
    have q := sm_v (h' k' (by omega))
    unfold hshN at e
    omega
  | k + 1, 0, h, _, e => by
    have q := sm_v (h k (by omega))
    unfold hshN at e
    omega
  | k + 1, k' + 1, h, h', e => by
    have q := sm_v (h k (by omega))
    have q' := sm_v (h' k' (by omega))
    unfold hshN at e
    obtain ⟨e1, e2⟩ := hsh_inj k k' (fun j hj => h j (by omega)) (fun j hj => h' j (by omega)) (by omega)
    refine ⟨by omega, fun j hj => ?_⟩
    by_cases hjk : j = k
    · subst hjk
      subst e1
      rw [q.2.2.1, q'.2.2.1]
      congr 1
      omega
    · exact e2 j (by omega)
def letW (w : List Int32) : Bool := w.all sm && decide (1 ≤ w.length ∧ w.length ≤ 6)
theorem letW_sm {w : List Int32} (h : w.all sm = true) {j : Nat} (hj : j < w.length) : sm (w.getD j 0) = true := List.all_eq_true.mp h _ (gd_mem hj)
theorem tk_2 {b : Nat → Int32} {n s : Nat} : tk b n s = 2 ↔ s < n ∧ sm (b s) = true := by
  rcases tk_cases b n s with ⟨h, t, _⟩ | ⟨h, h1, t, _⟩ | ⟨h, _, h1, t, _⟩ | ⟨h, _, h1, t, _⟩
  · rw [t]; exact ⟨fun q => absurd q (by decide), fun q => by omega⟩
  · rw [t]; exact ⟨fun q => absurd q (by decide), fun q => (by rw [dg_sm h1] at q; cases q.2)⟩
  · rw [t]; exact ⟨fun _ => ⟨h, h1⟩, fun _ => rfl⟩
  · rw [t]; exact ⟨fun q => absurd q (by decide), fun q => (by rw [h1] at q; cases q.2)⟩
theorem te_2 {b : Nat → Int32} {n s : Nat} (h : tk b n s = 2) : te b n s = en sm b n s ∧ s < en sm b n s := by
  have h2 := tk_2.mp h
  refine ⟨?_, by rw [en_y h2.1 h2.2]; have := en_le (p := sm) (b := b) (n := n) (i := s + 1); omega⟩
  rcases tk_cases b n s with ⟨_, t, _⟩ | ⟨_, _, t, _⟩ | ⟨_, _, _, _, t⟩ | ⟨_, _, _, t, _⟩
  · rw [t] at h; exact absurd h (by decide)
  · rw [t] at h; exact absurd h (by decide)
  · exact t
  · rw [t] at h; exact absurd h (by decide)
theorem word_eq {b : Nat → Int32} {n s : Nat} {w : List Int32} (hs : s ≤ n) (hw : letW w = true) : nI (wvN b n s) = nI (ofN w) ↔ isW b n s w = true := by
  unfold letW at hw
  rw [Bool.and_eq_true, decide_eq_true_eq] at hw
  obtain ⟨hw1, hw2, hw3⟩ := hw
  have hsm : ∀ j, j < w.length → sm (gdf w (0 + j)) = true := fun j hj => by rw [Nat.zero_add]; exact letW_sm hw1 hj
  have hb1 : ofN w < 2 ^ 30 := Nat.lt_of_lt_of_le (hsh_lt hsm) (by rw [show (2 : Nat) ^ 30 = 32 ^ 6 by decide]; exact Nat.pow_le_pow_right (by omega) hw3)
  have hpos : 0 < ofN w := by
    obtain ⟨m, hm⟩ : ∃ m, w.length = m + 1 := ⟨w.length - 1, by omega⟩
    have q := sm_v (hsm m (by omega))
    unfold ofN
    rw [hm]
    unfold hshN
    omega
  have hL : ∀ j, j < en sm b n s - s → sm (b (s + j)) = true := fun j hj => en_in (n := n) (i := s) (by omega) (by omega)
  have hb2 : wvN b n s < 2 ^ 30 := by
    unfold wvN
    by_cases h6 : en sm b n s - s ≤ 6
    · rw [if_pos h6]
      exact Nat.lt_of_lt_of_le (hsh_lt hL) (by rw [show (2 : Nat) ^ 30 = 32 ^ 6 by decide]; exact Nat.pow_le_pow_right (by omega) h6)
    · rw [if_neg h6]; omega
  rw [nI_eq (by omega) (by omega)]
  unfold isW isWg
  rw [decide_eq_true_eq]
  constructor
  · intro e
    unfold wvN at e
    by_cases h6 : en sm b n s - s ≤ 6
    · rw [if_pos h6] at e
      obtain ⟨e1, e2⟩ := hsh_inj (b := b) (b' := gdf w) (s := s) (s' := 0) (en sm b n s - s) w.length hL hsm e
      have hlt : s < en sm b n s := by omega
      have h2 : tk b n s = 2 := by
        have hn2 := en_n (p := sm) (b := b) hs
        exact tk_2.mpr ⟨by omega, by have := hL 0 (by omega); rwa [Nat.add_zero] at this⟩
      refine ⟨h2, by rw [(te_2 h2).1]; omega, fun j hj => ?_⟩
      have := e2 j (by omega)
      rw [this]
      show w.getD (0 + j) 0 = _
      rw [Nat.zero_add]
    · rw [if_neg h6] at e; omega
  · rintro ⟨h2, h3, h4⟩
    have he := (te_2 h2).1
    have e1 : en sm b n s - s = w.length := by omega
    unfold wvN ofN
    rw [e1, if_pos hw3]
    have : ∀ k, k ≤ w.length → hshN b s k = hshN (gdf w) 0 k := by
      intro k
      induction k with
      | zero => intro _; rfl
      | succ k ih => intro hk; rw [hshN, hshN, ih (by omega), h4 k (by omega), Nat.zero_add]; rfl
    exact this _ (Nat.le_refl _)
section L2RW
variable {d n : Nat} {Q : gQ} {X : gX} {H : gH} {x : Nat} {P : Nat → Nat} {I A : Nat → Nat → Int32} {b : Nat → Int32} {s : Nat}
theorem rw_14 (hn : n ≤ 600) (hA : A 2 = b) (h3 : I 0 3 = nI n) (hs : s ≤ n) (h : Q (some (.int (nI (wvN b n s)))) (gset H x mck P I A)) : ∀ (m k : Nat), n - (s + k) = m → s + k ≤ n → en sm b n s = en sm b n (s + k) → (∀ j, j < k → sm (b (s + j)) = true) →
    gWp (gTab (tb_R_word (meth (d + 1)))) Q X 14 [some (.ref (x + 0)), some (.int (nI (if k ≤ 6 then hshN b s k else 0))), some (.int (nI k)), some (.int (nI (s + k)))] [] (gset H x mck P I A) := by
  have hm := @mo_R_word (meth (d + 1)) (meth_smono (d + 1))
  have fin : ∀ k, s + k ≤ n → en sm b n s = s + k → gWp (gTab (tb_R_word (meth (d + 1)))) Q X 67 [some (.ref (x + 0)), some (.int (nI (if k ≤ 6 then hshN b s k else 0))), some (.int (nI k)), some (.int (nI (s + k)))] [] (gset H x mck P I A) := by
    intro k hk he
    unfold wvN at h
    rw [he, Nat.add_sub_cancel_left] at h
    refine wb_R_word_67 hm ⟨fun c => wb_R_word_78 hm h, fun c => wb_R_word_78 hm ?_⟩
    have : ¬ k ≤ 6 := fun q => c (nI_le (b := 6) q (by omega))
    rw [if_neg this] at h
    exact h
  intro m
  induction m with
  | zero =>
    intro k hk hi he hl
    refine wb_R_word_14 hm ⟨fun _ => fin k hi (by rw [he]; exact en_ge (by omega)), fun c => absurd (by rw [h3]; exact nI_le (by omega) (by omega)) c⟩
  | succ m ih =>
    intro k hk hi he hl
    refine wb_R_word_14 hm ?_
    rw [h3, nI_clamp (by omega), hA]
    refine ⟨fun c => absurd c (nI_ge (by omega) (by omega)), fun _ => ⟨vp_in_nI (by omega) (by omega), sp_R_isSmall (d := d) (wb_R_word_31 hm ⟨fun c => ?_, fun c => ?_⟩)⟩⟩
    · have hq : sm (b (s + k)) = false := by
        cases hq : sm (b (s + k))
        · rfl
        · rw [hq] at c; exact absurd c (by decide)
      exact fin k hi (by rw [he]; exact en_no hq)
    · have hq : sm (b (s + k)) = true := by
        cases hq : sm (b (s + k))
        · rw [hq] at c; exact absurd rfl c
        · rfl
      have hl' : ∀ j, j < k + 1 → sm (b (s + j)) = true := fun j hj => by
        by_cases hjk : j = k
        · rw [hjk]; exact hq
        · exact hl j (by omega)
      have go := ih (k + 1) (by omega) (by omega) (by rw [he, en_y (by omega) hq]; rfl) hl'
      have q := sm_v hq
      refine ⟨fun c1 => wb_R_word_57 hm ?_, fun c1 => ⟨vp_in_nI (by omega) (by omega), wb_R_word_57 hm ?_⟩⟩
      · rw [show (6 : Int32) = nI 6 from rfl, nI_leI (by omega) (by omega)] at c1
        rw [if_neg (by omega)] at go
        rw [nI_1, nI_1]
        exact go
      · rw [show (6 : Int32) = nI 6 from rfl, nI_leI (by omega) (by omega)] at c1
        rw [if_pos (by omega)] at go
        have hlt := hsh_lt hl
        have h25 : hshN b s k < 2 ^ 25 := Nat.lt_of_lt_of_le hlt (by rw [show (2 : Nat) ^ 25 = 32 ^ 5 by decide]; exact Nat.pow_le_pow_right (by omega) (by omega))
        rw [if_pos (by omega), nI_clamp (by omega), hA, q.2.2.2, hsh_step h25 (by omega), nI_1, nI_1]
        exact go
theorem sp_R_word (hn : n ≤ 600) (hA : A 2 = b) (hc : rS b n (.inr s) I) (h : ∀ I', tR I I' → rX b n s I' → Q (some (.int (nI (wvN b n s)))) (gset H x mck P I' A)) : meth (d + 2) m_R_word [.ref (x + 0)] (gset H x mck P I A) Q X := by
  have hm := @mo_R_word (meth (d + 1)) (meth_smono (d + 1))
  refine me_R_word (wb_R_word_0 hm (sp_R_here hn hA hc (fun I' t1 q1 => wb_R_word_4 hm ?_)))
  rw [q1.2.1]
  exact rw_14 hn hA q1.1 q1.2.2.2.1 (h I' t1 q1) (n - s) 0 rfl q1.2.2.2.1 rfl (fun j hj => absurd hj (Nat.not_lt_zero j))
/-- behind a fault the answer doesn't matter -/
theorem sp_R_wordF {e : Nat × Nat} (hn : n ≤ 600) (hA : A 2 = b) (hc : rS b n (.inl e) I) (h : ∀ v I', tR I I' → rS b n (.inl e) I' → Q (some (.int v)) (gset H x mck P I' A)) : meth (d + 2) m_R_word [.ref (x + 0)] (gset H x mck P I A) Q X := by
  have hm := @mo_R_word (meth (d + 1)) (meth_smono (d + 1))
  refine me_R_word (wb_R_word_0 hm (sp_R_hereF hn hA hc (fun v I' t1 q1 => wb_R_word_4 hm ?_)))
  obtain ⟨p, hp, h4, _⟩ := q1.2
  rw [h4]
  exact rw_14 hn hA q1.1 hp (h _ I' t1 q1) (n - p) 0 rfl hp rfl (fun j hj => absurd hj (Nat.not_lt_zero j))
theorem sp_R_of {i : Nat} (hi : i < 22) (hw : letW (gtx i) = true) (h : Q (some (.int (nI (ofN (gtx i))))) (gset H x mck P I A)) : meth (d + 5) m_R_of [.ref (1000000 + i)] (gset H x mck P I A) Q X := by
  have hm := @mo_R_of (meth (d + 4)) (meth_smono (d + 4))
  have hr : 1000000 ≤ 1000000 + i ∧ 1000000 + i < 1000000 + gNT := ⟨by omega, by show _ < 1000000 + 22; omega⟩
  unfold letW at hw
  rw [Bool.and_eq_true, decide_eq_true_eq] at hw
  obtain ⟨hw1, hw2, hw3⟩ := hw
  refine me_R_of (wb_R_of_0 hm ?_)
  have key : ∀ k, k ≤ (gtx i).length → gWp (gTab (tb_R_of (meth (d + 4)))) Q X 4 [some (.ref (1000000 + i)), some (.int (nI (hshN (gdf (gtx i)) 0 k))), some (.int (nI k))] [] (gset H x mck P I A) := by
    refine gdown ?_ ?_
    · exact wb_R_of_4 hm hr (sp_length (d := d + 2) hi (wb_R_of_9 hm hr ⟨fun _ => h, fun c => absurd (nI_le (Nat.le_refl _) (by omega)) c⟩))
    · intro k hk ih
      have hsm : ∀ j, j < k + 1 → sm ((gdf (gtx i)) (0 + j)) = true := fun j hj => by rw [Nat.zero_add]; exact letW_sm hw1 (by omega)
      have q := sm_v (hsm k (by omega))
      have h25 : hshN (gdf (gtx i)) 0 k < 2 ^ 25 := Nat.lt_of_lt_of_le (hsh_lt (fun j hj => hsm j (by omega))) (by rw [show (2 : Nat) ^ 25 = 32 ^ 5 by decide]; exact Nat.pow_le_pow_right (by omega) (by omega))
      refine wb_R_of_4 hm hr (sp_length (d := d + 2) hi (wb_R_of_9 hm hr ⟨fun c => absurd c (nI_ge hk (by omega)), fun _ => sp_charAt (d := d) hi hk (wb_R_of_20 hm ?_)⟩))
      have q4 := q.2.2.2
      rw [Nat.zero_add] at q4
      have q1 := q.2.1
      rw [Nat.zero_add] at q1
      rw [show (gtx i).getD k 0 - 96 = nI ((gdf (gtx i) k).toNatClampNeg - 96) from q4, hsh_step h25 (by omega), nI_1]
      rw [hshN, Nat.zero_add] at ih
      exact ih
  exact key 0 (Nat.zero_le _)
theorem sp_R_pass (hn : n ≤ 600) (hA : A 2 = b) (h3 : I 0 3 = nI n) : ∀ (m s : Nat), n - s = m → s ≤ n → Q none (gset H x mck P (upI I 0 4 (nI (en sm b n s))) A) → meth (d + 2) m_R_pass [.ref (x + 0)] (gset H x mck P (upI I 0 4 (nI s)) A) Q X := by
  have hm := @mo_R_pass (meth (d + 1)) (meth_smono (d + 1))
  have key : ∀ (m s : Nat), n - s = m → s ≤ n → Q none (gset H x mck P (upI I 0 4 (nI (en sm b n s))) A) → gWp (gTab (tb_R_pass (meth (d + 1)))) Q X 0 [some (.ref (x + 0))] [] (gset H x mck P (upI I 0 4 (nI s)) A) := by
    intro m
    induction m with
    | zero =>
      intro s hk hs h
      rw [en_ge (show n ≤ s by omega)] at h
      refine wb_R_pass_0 hm ⟨fun _ => wb_R_pass_39 hm h, fun c => absurd (by rw [upI_s, upI_f (by decide), h3]; exact nI_le (by omega) (by omega)) c⟩
    | succ m ih =>
      intro s hk hs h
      refine wb_R_pass_0 hm ?_
      rw [upI_s, upI_f (by decide), h3, nI_clamp (by omega), hA]
      refine ⟨fun c => absurd c (nI_ge (by omega) (by omega)), fun _ => ⟨vp_in_nI (by omega) (by omega), sp_R_isSmall (d := d) (wb_R_pass_23 hm ⟨fun c => wb_R_pass_39 hm ?_, fun c => ?_⟩)⟩⟩
      · have hq : sm (b s) = false := by
          cases hq : sm (b s)
          · rfl
          · rw [hq] at c; exact absurd c (by decide)
        rw [en_no hq] at h
        exact h
      · have hq : sm (b s) = true := by
          cases hq : sm (b s)
          · rw [hq] at c; exact absurd rfl c
          · rfl
        rw [en_y (by omega) hq] at h
        rw [upI_s, upI_I, nI_1]
        exact ih (s + 1) (by omega) (by omega) h
  intro m s hk hs h
  exact me_R_pass (key m s hk hs h)
theorem sp_R_passW (hn : n ≤ 600) (hA : A 2 = b) (hc : rX b n s I) (hk : tk b n s = 2) (h : ∀ I', tR I I' → rS b n (.inr (nx b n s)) I' → Q none (gset H x mck P I' A)) : meth (d + 2) m_R_pass [.ref (x + 0)] (gset H x mck P I A) Q X := by
  obtain ⟨h3, h4, h5, hp⟩ := hc
  have := sp_R_pass (d := d) (Q := Q) (X := X) (H := H) (x := x) (P := P) hn hA h3 (n - s) s rfl hp.1 (h _ (tR_I tR_r (by simp)) ⟨by rw [upI_f (by decide), h3], en sm b n s, en_n hp.1, upI_s, by rw [upI_f (by decide), h5], by unfold nx; rw [(te_2 hk).1]⟩)
  rw [upI_id h4] at this
  exact this
set_option maxHeartbeats 1000000 in
theorem sp_R_standsHere {i : Nat} (hi : i < 22) (hw : (gtx i).all sm = true) (hw1 : 1 ≤ (gtx i).length) (hn : n ≤ 600) (hA : A 2 = b) (hc : rS b n (.inr s) I) (h : ∀ I', tR I I' → rX b n s I' → Q (some (.int (i01 (isW b n s (gtx i))))) (gset H x mck P I' A)) : meth (d + 5) m_R_standsHere [.ref (x + 0), .ref (1000000 + i)] (gset H x mck P I A) Q X := by
  have hm := @mo_R_standsHere (meth (d + 4)) (meth_smono (d + 4))
  have hr : 1000000 ≤ 1000000 + i ∧ 1000000 + i < 1000000 + gNT := ⟨by omega, by show _ < 1000000 + 22; omega⟩
  have hl := gtx_lt i hi
  refine me_R_standsHere (wb_R_standsHere_0 hm (sp_R_here (d := d + 3) hn hA hc (fun I' t1 q1 => wb_R_standsHere_4 hm ?_)))
  have h := h I' t1 q1
  obtain ⟨x3, x4, x5, xp⟩ := q1
  have hs := xp.1
  have no : ∀ v2, isW b n s (gtx i) = false → gWp (gTab (tb_R_standsHere (meth (d + 4)))) Q X 47 [some (.ref (x + 0)), some (.ref (1000000 + i)), some (.int v2)] [] (gset H x mck P I' A) := by
    intro v2 hf
    rw [hf] at h
    exact wb_R_standsHere_47 hm ⟨rfl, h⟩
  have key : ∀ k, k ≤ (gtx i).length → (∀ j, j < k → s + j < n ∧ b (s + j) = (gtx i).getD j 0) → gWp (gTab (tb_R_standsHere (meth (d + 4)))) Q X 7 [some (.ref (x + 0)), some (.ref (1000000 + i)), some (.int (nI k))] [] (gset H x mck P I' A) := by
    refine gdown ?_ ?_
    · intro hj
      have hen : en sm b n s = en sm b n (s + (gtx i).length) := by
        have : ∀ k, k ≤ (gtx i).length → en sm b n s = en sm b n (s + k) := by
          intro k
          induction k with
          | zero => intro _; rfl
          | succ k ih =>
            intro hk
            rw [ih (by omega), en_y (hj k (by omega)).1 (by rw [(hj k (by omega)).2]; exact letW_sm hw (by omega))]
            rfl
        exact this _ (Nat.le_refl _)
      have h2 : tk b n s = 2 := tk_2.mpr ⟨by have := (hj 0 (by omega)).1; omega, by have := (hj 0 (by omega)).2; rw [Nat.add_zero] at this; rw [this]; exact letW_sm hw (by omega)⟩
      have yes : en sm b n s = s + (gtx i).length → isW b n s (gtx i) = true := fun e => by
        unfold isW isWg
        exact decide_eq_true ⟨h2, by rw [(te_2 h2).1, e], fun j hjj => (hj j hjj).2⟩
      refine wb_R_standsHere_7 hm hr (sp_length (d := d + 2) hi (wb_R_standsHere_12 hm hr ⟨fun _ => sp_length (d := d + 2) hi (wb_R_standsHere_63 hm hr ?_), fun c => absurd (nI_le (Nat.le_refl _) (by omega)) c⟩))
      rw [x3, x4, nI_add]
      refine ⟨fun c => wb_R_standsHere_91 hm (wb_R_standsHere_96 hm ⟨rfl, ?_⟩), fun c => sp_length (d := d + 2) hi (wb_R_standsHere_83 hm ?_)⟩
      · rw [nI_leI (by omega) (by omega)] at c
        rw [yes (by rw [hen]; exact en_ge c)] at h
        exact h
      · have hlt : s + (gtx i).length < n := by
          have : ¬ n ≤ s + (gtx i).length := fun q => c (nI_le q (by omega))
          omega
        rw [nI_add]
        refine ⟨vp_in_nI (by omega) (by omega), ?_⟩
        rw [nI_clamp (by omega), hA]
        refine sp_R_isSmall (d := d + 3) (wb_R_standsHere_88 hm ⟨fun c => wb_R_standsHere_96 hm ⟨rfl, ?_⟩, fun c => wb_R_standsHere_91 hm (wb_R_standsHere_96 hm ⟨rfl, ?_⟩)⟩)
        · have hq : sm (b (s + (gtx i).length)) = true := by
            cases hq : sm (b (s + (gtx i).length))
            · rw [hq] at c; exact absurd rfl c
            · rfl
          have : isW b n s (gtx i) = false := by
            unfold isW isWg
            refine decide_eq_false (fun q => ?_)
            have e := q.2.1
            rw [(te_2 h2).1, hen, en_y hlt hq] at e
            have := en_le (p := sm) (b := b) (n := n) (i := s + (gtx i).length + 1)
            omega
          rw [this] at h
          exact h
        · have hq : sm (b (s + (gtx i).length)) = false := by
            cases hq : sm (b (s + (gtx i).length))
            · rfl
            · rw [hq] at c; exact absurd (by decide) c
          rw [yes (by rw [hen]; exact en_no hq)] at h
          exact h
    · intro k hk ih hj
      refine wb_R_standsHere_7 hm hr (sp_length (d := d + 2) hi (wb_R_standsHere_12 hm hr ⟨fun c => absurd c (nI_ge hk (by omega)), fun _ => ?_⟩))
      rw [x3, x4, nI_add]
      refine ⟨fun c => no _ ?_, fun c => ?_⟩
      · rw [nI_leI (by omega) (by omega)] at c
        unfold isW isWg
        refine decide_eq_false (fun q => ?_)
        have e := q.2.1
        have := (te_n (b := b) hs).1
        omega
      · have hlt : s + k < n := by
          have : ¬ n ≤ s + k := fun q => c (nI_le q (by omega))
          omega
        refine ⟨vp_in_nI (by omega) (by omega), sp_charAt (d := d) hi hk ?_⟩
        rw [nI_clamp (by omega), hA]
        refine wb_R_standsHere_44 hm ⟨fun c => ?_, fun c => no _ ?_⟩
        · rw [nI_1]
          refine ih (fun j hjj => ?_)
          by_cases hjk : j = k
          · rw [hjk]; exact ⟨hlt, c⟩
          · exact hj j (by omega)
        · unfold isW isWg
          exact decide_eq_false (fun q => c (q.2.2 k hk))
  exact key 0 (Nat.zero_le _) (fun j hj => absurd hj (Nat.not_lt_zero j))
end L2RW
