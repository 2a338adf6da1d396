/-! ===== L2: a vote of the reference ===== -/
theorem n_z (t : Nat) : (0 : Int32) + nI t = nI t := Int32.zero_add _
theorem n_8 (t : Nat) : (8 : Int32) + nI t = nI (8 + t) := nI_add 8 t
theorem n_16 (t : Nat) : (16 : Int32) + nI t = nI (16 + t) := nI_add 16 t
theorem n_2 {t : Nat} : (2 : Int32) * nI t = nI (2 * t) := (Int32.ofNat_mul 2 t).symm
def froads (R : Nat → Int32) (t : Int32) : Nat → Int32
  | 0 => 0
  | e + 1 =>
    let b := if R (2 * e) = t then froads R t e ||| ((1 : Int32) <<< (R (2 * e + 1) &&& 31)) else froads R t e
    if R (2 * e + 1) = t then b ||| ((1 : Int32) <<< (R (2 * e) &&& 31)) else b
def RLawAt (I A : Nat → Nat → Int32) (ev : (Nat → Int32) → Int32) : Prop :=
  ∀ (d : Nat) (Q : gQ) (X : gX) (H : gH) (x : Nat) (P : Nat → Nat) (I' A' : Nat → Nat → Int32), I' 0 27 = I 0 27 → A' 11 = A 11 → A' 12 = A 12 → (∀ K, Q (some (.int (ev (A' 14)))) (gset H x mck P I' (upC A' 13 K))) → meth (d + 3) m_R_swayNow [.ref (x + 0)] (gset H x mck P I' A') Q X
theorem RLawAt.mv {I A I' A' : Nat → Nat → Int32} {ev : (Nat → Int32) → Int32} (h : RLawAt I A ev) (h1 : I' 0 27 = I 0 27) (h2 : A' 11 = A 11) (h3 : A' 12 = A 12) : RLawAt I' A' ev :=
  fun d Q X H x P I2 A2 e1 e2 e3 k => h d Q X H x P I2 A2 (e1.trans h1) (e2.trans h2) (e3.trans h3) k
section L2R
variable {d : Nat} {Q : gQ} {X : gX} {H : gH} {x : Nat} {P : Nat → Nat} {I A : Nat → Nat → Int32}
theorem sp_R_copies {a b n1 n2 k : Nat} (ha : mck a = (1, n1)) (hb : mck b = (1, n2)) (hk1 : k ≤ n1) (hk2 : k ≤ n2) (h1 : n1 < 2 ^ 31) (h2 : n2 < 2 ^ 31) (hab : a ≠ b) (h : ∀ A', Fr [b] A A' → (∀ t, t < k → A' b t = A a t) → (∀ t, k ≤ t → A' b t = A b t) → Q none (gset H x mck P I A')) : meth (d + 1) m_R_copies [.ref (x + 0), .ref (x + a), .ref (x + b), .int (nI k)] (gset H x mck P I A) Q X := by
  have hm := @mo_R_copies (meth d) (meth_smono d)
  refine me_R_copies (wb_R_copies_0 hm ?_)
  have key : ∀ j, j ≤ k → ∀ A', Fr [b] A A' → (∀ t, t < j → A' b t = A a t) → (∀ t, j ≤ t → A' b t = A b t) → gWp (gTab (tb_R_copies (meth d))) Q X 3 [some (.ref (x + 0)), some (.ref (x + a)), some (.ref (x + b)), some (.int (nI k)), some (.int (nI j))] [] (gset H x mck P I A') := by
    refine gdown ?_ ?_
    · intro A' hf hlo hhi
      exact wb_R_copies_3 hm ha hb ⟨fun _ => h A' hf hlo hhi, fun c => absurd (nI_le (Nat.le_refl k) (by omega)) c⟩
    · intro j hj ih A' hf hlo hhi
      refine wb_R_copies_3 hm ha hb ⟨fun c => absurd c (nI_ge hj (by omega)), fun _ => ⟨vp_in_nI (by omega) (by omega), vp_in_nI (by omega) (by omega), ?_⟩⟩
      rw [nI_clamp (by omega), ← nI_succ]
      refine ih _ (fr_A hf (by simp)) (fun t ht => ?_) (fun t ht => ?_)
      · rw [upA_s]
        by_cases htj : t = j
        · rw [htj, upd_at, hf a (by simp; exact hab)]
        · rw [upd_ne htj]; exact hlo t (by omega)
      · rw [upA_s, upd_ne (by omega)]; exact hhi t (by omega)
  exact key 0 (Nat.zero_le k) A fr_r (fun t ht => absurd ht (Nat.not_lt_zero t)) (fun t _ => rfl)
theorem sp_R_take (h : ∀ A', Fr [18] A A' → (∀ t, t < 28 → A' 18 t = A 17 t) → Q none (gset H x mck P I A')) : meth (d + 2) m_R_take [.ref (x + 0)] (gset H x mck P I A) Q X := by
  have hm := @mo_R_take (meth (d + 1)) (meth_smono (d + 1))
  exact me_R_take (wb_R_take_0 hm (sp_R_copies (k := 28) rfl rfl (by decide) (by decide) (by decide) (by decide) (by decide) (fun A' hf hlo _ => wb_R_take_14 hm (h A' hf hlo))))
theorem sp_R_goesTo {v b : Int32} (h : Q (some (.int (fside b v))) (gset H x mck P I A)) : meth (d + 1) m_R_goesTo [.int v, .int b] (gset H x mck P I A) Q X := by
  have hm := @mo_R_goesTo (meth d) (meth_smono d)
  refine me_R_goesTo (wb_R_goesTo_0 hm ⟨fun c => ⟨fun c2 => wb_R_goesTo_23 hm ?_, fun c2 => wb_R_goesTo_23 hm ?_⟩, fun c => wb_R_goesTo_23 hm ?_⟩)
  · simpa [fside, c, c2] using h
  · simpa [fside, c, c2] using h
  · simpa [fside, c] using h
theorem sp_R_partyOf {t : Nat} (ht : t < 8) (h : Q (some (.int (fside (A 18 (8 + t)) (A 18 t)))) (gset H x mck P I A)) : meth (d + 2) m_R_partyOf [.ref (x + 0), .int (nI t)] (gset H x mck P I A) Q X := by
  have hm := @mo_R_partyOf (meth (d + 1)) (meth_smono (d + 1))
  refine me_R_partyOf (wb_R_partyOf_0 hm ⟨by rw [n_z]; exact vp_in_nI (by omega) (by omega), by rw [n_8]; exact vp_in_nI (by omega) (by omega), ?_⟩)
  rw [n_z, n_8, nI_clamp (by omega), nI_clamp (by omega)]
  exact sp_R_goesTo (wb_R_partyOf_20 hm h)
theorem sp_R_roadsOf {t m : Nat} (hm20 : I 0 20 = nI m) (hm12 : m ≤ 12) (h : Q (some (.int (froads (A 8) (nI t) m))) (gset H x mck P I A)) : meth (d + 1) m_R_roadsOf [.ref (x + 0), .int (nI t)] (gset H x mck P I A) Q X := by
  have hm := @mo_R_roadsOf (meth d) (meth_smono d)
  refine me_R_roadsOf (wb_R_roadsOf_0 hm ?_)
  have key : ∀ e, e ≤ m → gWp (gTab (tb_R_roadsOf (meth d))) Q X 4 [some (.ref (x + 0)), some (.int (nI t)), some (.int (froads (A 8) (nI t) e)), some (.int (nI e))] [] (gset H x mck P I A) := by
    refine gdown ?_ ?_
    · exact wb_R_roadsOf_4 hm ⟨fun _ => h, fun c => absurd (by rw [hm20]; exact nI_le (Nat.le_refl m) (by omega)) c⟩
    · intro e he ih
      have e2 : (2 : Int32) * nI e + 1 = nI (2 * e + 1) := by rw [n_2, nI_1]
      have v1 : vp_in ((2 : Int32) * nI e) 24 := by rw [n_2]; exact vp_in_nI (by omega) (by omega)
      have v2 : vp_in ((2 : Int32) * nI e + 1) 24 := by rw [e2]; exact vp_in_nI (by omega) (by omega)
      have c1 : ((2 : Int32) * nI e).toNatClampNeg = 2 * e := by rw [n_2, nI_clamp (by omega)]
      have c2 : ((2 : Int32) * nI e + 1).toNatClampNeg = 2 * e + 1 := by rw [e2, nI_clamp (by omega)]
      rw [nI_succ, froads] at ih
      refine wb_R_roadsOf_4 hm ⟨fun c => absurd c (by rw [hm20]; exact nI_ge he (by omega)), fun _ => ⟨v1, fun c => wb_R_roadsOf_39 hm ⟨v2, fun k => wb_R_roadsOf_66 hm ?_, fun k => ⟨v1, wb_R_roadsOf_66 hm ?_⟩⟩, fun c => ⟨v2, wb_R_roadsOf_39 hm ⟨v2, fun k => wb_R_roadsOf_66 hm ?_, fun k => ⟨v1, wb_R_roadsOf_66 hm ?_⟩⟩⟩⟩⟩
      · rw [c1] at c
        rw [c2] at k
        rw [if_neg c, if_neg k] at ih
        exact ih
      · rw [c1] at c
        rw [c2] at k
        rw [if_neg c, if_pos (Classical.not_not.mp k)] at ih
        rw [c1]
        exact ih
      · rw [c1] at c
        rw [c2] at k
        rw [if_pos (Classical.not_not.mp c), if_neg k] at ih
        rw [c2]
        exact ih
      · rw [c1] at c
        rw [c2] at k
        rw [if_pos (Classical.not_not.mp c), if_pos (Classical.not_not.mp k)] at ih
        rw [c1, c2]
        exact ih
  exact key 0 (Nat.zero_le m)
theorem sp_R_nearOf {t m n : Nat} (hn : I 0 19 = nI n) (hn8 : n ≤ 8) (hm20 : I 0 20 = nI m) (hm12 : m ≤ 12) (h : Q (some (.int (fsum (fun o => if bt (froads (A 8) (nI t) m) o = true ∧ fside (A 18 (8 + o)) (A 18 o) = 0 then 1 else 0) n))) (gset H x mck P I A)) : meth (d + 3) m_R_nearOf [.ref (x + 0), .int (nI t)] (gset H x mck P I A) Q X := by
  have hm := @mo_R_nearOf (meth (d + 2)) (meth_smono (d + 2))
  refine me_R_nearOf (wb_R_nearOf_0 hm (sp_R_roadsOf hm20 hm12 (wb_R_nearOf_7 hm ?_)))
  have key : ∀ k, k ≤ n → gWp (gTab (tb_R_nearOf (meth (d + 2)))) Q X 11 [some (.ref (x + 0)), some (.int (nI t)), some (.int (fsum (fun o => if bt (froads (A 8) (nI t) m) o = true ∧ fside (A 18 (8 + o)) (A 18 o) = 0 then 1 else 0) k)), some (.int (froads (A 8) (nI t) m)), some (.int (nI k))] [] (gset H x mck P I A) := by
    refine gdown ?_ ?_
    · exact wb_R_nearOf_11 hm ⟨fun _ => h, fun c => absurd (by rw [hn]; exact nI_le (Nat.le_refl n) (by omega)) c⟩
    · intro k hk ih
      rw [nI_succ, fsum] at ih
      refine wb_R_nearOf_11 hm ⟨fun c => absurd c (by rw [hn]; exact nI_ge hk (by omega)), fun _ => ⟨fun c => wb_R_nearOf_44 hm (wb_R_nearOf_45 hm ?_), fun c => sp_R_partyOf (by omega) (wb_R_nearOf_37 hm ⟨fun c2 => wb_R_nearOf_44 hm (wb_R_nearOf_45 hm ?_), fun c2 => wb_R_nearOf_45 hm ?_⟩)⟩⟩
      · rw [b_at1 (by omega)] at c
        rw [if_neg (fun q => c q.1)] at ih
        exact ih
      · rw [if_neg (fun q => c2 q.2)] at ih
        exact ih
      · rw [Classical.not_not, b_at1 (by omega)] at c
        rw [if_pos ⟨c, Classical.not_not.mp c2⟩] at ih
        exact ih
  exact key 0 (Nat.zero_le n)
theorem sp_R_swayOf {ev : (Nat → Int32) → Int32} {a b c e f g i j k l : Int32} (hL : RLawAt I A ev) (hev : evOk ev) (h : ∀ F K, Q (some (.int (ev (fct a b c e f g i j k l)))) (gset H x mck P I (upC (upC A 14 F) 13 K))) : meth (d + 4) m_R_swayOf [.ref (x + 0), .int a, .int b, .int c, .int e, .int f, .int g, .int i, .int j, .int k, .int l] (gset H x mck P I A) Q X := by
  have hm := @mo_R_swayOf (meth (d + 3)) (meth_smono (d + 3))
  refine me_R_swayOf (wb_R_swayOf_0 hm ⟨vpd (by decide), vpd (by decide), vpd (by decide), vpd (by decide), vpd (by decide), vpd (by decide), vpd (by decide), vpd (by decide), vpd (by decide), vpd (by decide), ?_⟩)
  simp only [upA_to, upC_s, upC_C]
  refine hL _ _ _ _ _ _ _ _ rfl (upC_n (by decide)) (upC_n (by decide)) (fun K => wb_R_swayOf_85 hm ?_)
  rw [upC_s, hev _ (fct a b c e f g i j k l) (fun k hk => by
    rcases (show k = 0 ∨ k = 1 ∨ k = 2 ∨ k = 3 ∨ k = 4 ∨ k = 5 ∨ k = 6 ∨ k = 7 ∨ k = 8 ∨ k = 9 by omega) with rfl | rfl | rfl | rfl | rfl | rfl | rfl | rfl | rfl | rfl <;> rfl)]
  exact h _ K
theorem sp_R_swayBy {ev : (Nat → Int32) → Int32} {t m n : Nat} (hL : RLawAt I A ev) (hev : evOk ev) (hn : I 0 19 = nI n) (hn8 : n ≤ 8) (hm20 : I 0 20 = nI m) (hm12 : m ≤ 12) (ht : t < 8) (h : ∀ F K, Q (some (.int (ev (fct (A 18 t) (A 18 (8 + t)) (A 7 t) (A 18 24) (A 18 (16 + t)) (fsum (fun o => if bt (froads (A 8) (nI t) m) o = true ∧ fside (A 18 (8 + o)) (A 18 o) = 0 then 1 else 0) n) (A 18 26) (A 18 25) (nI t) (A 18 27))))) (gset H x mck P I (upC (upC A 14 F) 13 K))) : meth (d + 5) m_R_swayBy [.ref (x + 0), .int (nI t)] (gset H x mck P I A) Q X := by
  have hm := @mo_R_swayBy (meth (d + 4)) (meth_smono (d + 4))
  refine me_R_swayBy (wb_R_swayBy_0 hm ⟨by rw [n_z]; exact vp_in_nI (by omega) (by omega), by rw [n_8]; exact vp_in_nI (by omega) (by omega), vp_in_nI (by omega) (by omega), vpd (by decide), by rw [n_16]; exact vp_in_nI (by omega) (by omega), ?_⟩)
  rw [n_z, n_8, n_16, nI_clamp (by omega), nI_clamp (by omega), nI_clamp (by omega)]
  refine sp_R_nearOf (d := d + 1) hn hn8 hm20 hm12 (wb_R_swayBy_45 hm ⟨vpd (by decide), vpd (by decide), vpd (by decide), sp_R_swayOf hL hev (fun F K => wb_R_swayBy_70 hm (h F K))⟩)
theorem sp_R_held {v mx : Int32} (h : Q (some (.int (if 0 ≤ v then if v ≤ mx then v else mx else 0))) (gset H x mck P I A)) : meth (d + 1) m_R_held [.int v, .int mx] (gset H x mck P I A) Q X := by
  have hm := @mo_R_held (meth d) (meth_smono d)
  refine me_R_held (wb_R_held_0 hm ⟨fun c => ⟨fun c2 => wb_R_held_18 hm ?_, fun c2 => wb_R_held_18 hm ?_⟩, fun c => wb_R_held_18 hm ?_⟩)
  · simpa [c, c2] using h
  · simpa [c, c2] using h
  · simpa [c] using h
theorem sp_R_seatsOf {n : Nat} {p : Int32} (hn : I 0 19 = nI n) (hn8 : n ≤ 8) (h : Q (some (.int (fsum (fun t => if fside (A 18 (8 + t)) (A 18 t) = p then A 7 t else 0) n))) (gset H x mck P I A)) : meth (d + 3) m_R_seatsOf [.ref (x + 0), .int p] (gset H x mck P I A) Q X := by
  have hm := @mo_R_seatsOf (meth (d + 2)) (meth_smono (d + 2))
  refine me_R_seatsOf (wb_R_seatsOf_0 hm ?_)
  have key : ∀ k, k ≤ n → gWp (gTab (tb_R_seatsOf (meth (d + 2)))) Q X 4 [some (.ref (x + 0)), some (.int p), some (.int (fsum (fun t => if fside (A 18 (8 + t)) (A 18 t) = p then A 7 t else 0) k)), some (.int (nI k))] [] (gset H x mck P I A) := by
    refine gdown ?_ ?_
    · exact wb_R_seatsOf_4 hm ⟨fun _ => h, fun c => absurd (by rw [hn]; exact nI_le (Nat.le_refl n) (by omega)) c⟩
    · intro k hk ih
      rw [nI_succ, fsum] at ih
      refine wb_R_seatsOf_4 hm ⟨fun c => absurd c (by rw [hn]; exact nI_ge hk (by omega)), fun _ => sp_R_partyOf (by omega) (wb_R_seatsOf_18 hm ⟨fun c => wb_R_seatsOf_32 hm ?_, fun c => ⟨vp_in_nI (by omega) (by omega), wb_R_seatsOf_32 hm ?_⟩⟩)⟩
      · rw [if_neg c] at ih
        exact ih
      · rw [if_pos (Classical.not_not.mp c)] at ih
        rw [nI_clamp (by omega)]
        exact ih
  exact key 0 (Nat.zero_le n)
end L2R
