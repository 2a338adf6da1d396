/-! ===== calls: commas ===== -/
def ch : Nat → Nat → Nat
  | _, 0 => 1
  | 0, _ + 1 => 0
  | n + 1, k + 1 => ch n k + ch n (k + 1)
theorem ch_0 (n : Nat) : ch n 0 = 1 := by cases n <;> rfl
theorem ch_s (n k : Nat) : ch (n + 1) (k + 1) = ch n k + ch n (k + 1) := rfl
theorem ch_gt : ∀ (n k : Nat), n < k → ch n k = 0
  | _, 0, h => absurd h (Nat.not_lt_zero _)
  | 0, _ + 1, _ => rfl
  | n + 1, k + 1, h => by rw [ch_s, ch_gt n k (by omega), ch_gt n (k + 1) (by omega)]
theorem ch_n : ∀ n, ch n n = 1
  | 0 => rfl
  | n + 1 => by rw [ch_s, ch_n n, ch_gt n (n + 1) (by omega)]
theorem ch_le : ∀ (n k : Nat), ch n k ≤ 2 ^ n
  | n, 0 => by rw [ch_0]; exact Nat.one_le_two_pow
  | 0, _ + 1 => Nat.zero_le _
  | n + 1, k + 1 => by
    have h1 := ch_le n k
    have h2 := ch_le n (k + 1)
    rw [ch_s, Nat.pow_succ]; omega
theorem ch_id : ∀ (n k : Nat), (k + 1) * ch (n + 1) (k + 1) = (n + 1) * ch n k
  | 0, 0 => rfl
  | 0, k + 1 => by rw [ch_gt 1 (k + 2) (by omega), ch_gt 0 (k + 1) (by omega), Nat.mul_zero, Nat.mul_zero]
  | n + 1, 0 => by
    have h := ch_id n 0
    rw [ch_0] at h ⊢
    rw [ch_s (n + 1) 0, ch_0]
    omega
  | n + 1, k + 1 => by
    have h1 := ch_id n k
    have h2 := ch_id n (k + 1)
    rw [ch_s (n + 1) (k + 1)]
    have e : ch (n + 1) (k + 1) = ch n k + ch n (k + 1) := rfl
    have a : (k + 1 + 1) * (ch (n + 1) (k + 1) + ch (n + 1) (k + 1 + 1)) = (k + 1) * ch (n + 1) (k + 1) + ch (n + 1) (k + 1) + (k + 1 + 1) * ch (n + 1) (k + 1 + 1) := by rw [Nat.mul_add, Nat.succ_mul (k + 1)]
    have b : (n + 1 + 1) * ch (n + 1) (k + 1) = (n + 1) * ch n k + (n + 1) * ch n (k + 1) + ch (n + 1) (k + 1) := by rw [Nat.succ_mul (n + 1), e, Nat.mul_add]
    rw [a, b, h1, h2]
    omega
def cF (m r c : Nat) : Nat := if m ≤ c then ch (c - m + r) r else 0
theorem cF_s {m r c : Nat} : cF m (r + 1) (c + 1) = cF m (r + 1) c + cF m r (c + 1) := by
  unfold cF
  by_cases h1 : m ≤ c
  · rw [if_pos (by omega), if_pos h1, if_pos (by omega), show c + 1 - m + (r + 1) = (c - m + (r + 1)) + 1 by omega, ch_s, show c + 1 - m + r = c - m + (r + 1) by omega]
    omega
  · by_cases h2 : m ≤ c + 1
    · rw [if_pos h2, if_neg h1, if_pos h2, show c + 1 - m + (r + 1) = r + 1 by omega, show c + 1 - m + r = r by omega, ch_n, ch_n]
    · rw [if_neg h2, if_neg h1, if_neg h2]
theorem cF_0 {m r : Nat} (h : 0 < m) : cF m r 0 = 0 := if_neg (by omega)
-- long numbers
abbrev nL (n : Nat) : Int64 := Int64.ofNat n
theorem nL_I {n : Nat} (h : n < 2 ^ 31) : (nI n).toInt64 = nL n := Int32.toInt64_ofNat' (by show (n : Int) ≤ 2147483647; omega)
theorem nL_div {a b : Nat} (ha : a < 2 ^ 63) (hb : b < 2 ^ 63) : nL a / nL b = nL (a / b) := by
  rw [← Int64.toInt_inj, Int64.toInt_div_of_ne_left _ _ (fun q => ?_), Int64.toInt_ofNat_of_lt ha, Int64.toInt_ofNat_of_lt hb, Int64.toInt_ofNat_of_lt (Nat.lt_of_le_of_lt (Nat.div_le_self _ _) ha), Int.tdiv_eq_ediv_of_nonneg (Int.natCast_nonneg _)]
  · exact (Int.natCast_ediv a b).symm
  · have := congrArg Int64.toInt q
    rw [Int64.toInt_ofNat_of_lt ha] at this
    have e : Int64.minValue.toInt = -9223372036854775808 := by decide
    omega
theorem nL_0 {a : Nat} (ha : a < 2 ^ 63) (h : 0 < a) : ¬ nL a = 0 := fun q => by
  have := congrArg Int64.toInt q
  rw [Int64.toInt_ofNat_of_lt ha] at this
  have e : (0 : Int64).toInt = 0 := by decide
  omega
section CHO
variable {d : Nat} {Q : gQ} {X : gX} {H : gH} {x : Nat} {P : Nat → Nat} {I A : Nat → Nat → Int32}
theorem sp_Polls_choose {n k : Nat} (hk : k ≤ n) (hn : n ≤ 50) (h : Q (some (.long (nL (ch n k)))) (gset H x cck P I A)) : meth (d + 1) m_Polls_choose [.int (nI n), .int (nI k)] (gset H x cck P I A) Q X := by
  have hm := @mo_Polls_choose (meth d) (meth_smono d)
  have key : ∀ i, i ≤ k → gWp (gTab (tb_Polls_choose (meth d))) Q X 5 [some (.int (nI n)), some (.int (nI k)), some (.long (nL (ch (n - k + i) i))), none, some (.int (nI (i + 1)))] [] (gset H x cck P I A) := by
    refine gdown ?_ ?_
    · rw [show n - k + k = n by omega]
      exact wb_Polls_choose_5 hm ⟨fun _ => h, fun c => absurd ((nI_ltI (by omega) (by omega)).mpr (by omega)) c⟩
    · intro i hi ih
      refine wb_Polls_choose_5 hm ⟨fun c => absurd ((nI_ltI (by omega) (by omega)).mp c) (by omega), fun _ => ?_⟩
      have hle := ch_le (n - k + i) i
      have h2 : 2 ^ (n - k + i) ≤ 2 ^ 50 := Nat.pow_le_pow_right (by omega) (by omega)
      have h3 : ch (n - k + i) i * (n - k + (i + 1)) ≤ 2 ^ 50 * 51 := Nat.mul_le_mul (by omega) (by omega)
      rw [nI_sub (by omega), show nI (n - k) + nI (i + 1) = nI (n - k + (i + 1)) from nI_add _ _, nL_I (by omega), nL_I (by omega), show nL (ch (n - k + i) i) * nL (n - k + (i + 1)) = nL (ch (n - k + i) i * (n - k + (i + 1))) from (Int64.ofNat_mul _ _).symm, nL_div (by omega) (by omega), nI_1]
      have e : ch (n - k + i) i * (n - k + (i + 1)) / (i + 1) = ch (n - k + (i + 1)) (i + 1) := by
        have := ch_id (n - k + i) i
        rw [Nat.mul_comm, show n - k + (i + 1) = n - k + i + 1 by omega, ← this, Nat.mul_div_cancel_left _ (by omega)]
      rw [e]
      exact ⟨nL_0 (by omega) (by omega), ih⟩
  have := key 0 (Nat.zero_le _)
  rw [ch_0] at this
  exact me_Polls_choose (wb_Polls_choose_0 hm this)
end CHO
section CA17
variable {s : ST}
def okCommas (a b c : Int32) : Bool := inR a 1 30 && (inR b 0 10 && inR c 1 9)
def f_commas (w k g : Nat) : Int32 := nI (if k = 0 then 1 else cF ((k + 1) * g) k w)
theorem sub_sgn : ∀ w, w < 31 → ∀ m, m < 100 → (0 ≤ nI w - nI m ↔ m ≤ w) := by decide +kernel
theorem C_commas {a b c : Int32} : cCall m_S_commas [.int a, .int b, .int c] (q1 (okCommas a b c) s (f_commas a.toNatClampNeg b.toNatClampNeg c.toNatClampNeg)) s := by
  intro d Q X H x P I A hr h
  have hm := @mo_S_commas (meth (d + 59)) (meth_smono (d + 59))
  have no : okCommas a b c = false → gWp (gTab (tb_S_commas (meth (d + 59)))) Q X 35 [some (.ref (x + 0)), some (.int a), some (.int b), some (.int c), none] [.ref (x + 0)] (gset H x cck P I A) := fun hf => by
    rw [q1_f hf] at h
    exact wb_S_commas_35 hm (wb_S_commas_36 hm (sp_S_need (c := false) hr (fun q => by cases q) (fun _ I' r' => h P I' A r')))
  unfold okCommas at no h
  refine me_S_commas (wb_S_commas_0 hm (sp_S_within (wb_S_commas_8 hm ⟨fun c1 => no (by rw [b_i00 c1]; rfl), fun c1 => sp_S_within (wb_S_commas_18 hm ⟨fun c2 => no (by rw [b_i01 c1, b_i00 c2]; rfl), fun c2 => sp_S_within (wb_S_commas_28 hm ⟨fun c3 => no (by rw [b_i01 c1, b_i01 c2, b_i00 c3]; rfl), fun c3 => wb_S_commas_36 hm (sp_S_need (c := true) hr (fun _ => wb_S_commas_39 hm ?_) (fun q => by cases q))⟩)⟩)⟩)))
  rw [b_i01 c1, b_i01 c2, b_i01 c3] at h
  simp only [Bool.and_self] at h
  rw [q1_t rfl] at h
  have h := h P I A hr
  obtain ⟨w, w1, w30, rfl⟩ := inR_1 (m := 30) (by omega) (b_i01 c1)
  obtain ⟨k, k10, rfl⟩ := inR_n (m := 10) (by omega) (b_i01 c2)
  obtain ⟨g, g1, g9, rfl⟩ := inR_1 (m := 9) (by omega) (b_i01 c3)
  rw [nI_clamp (by omega), nI_clamp (by omega), nI_clamp (by omega)] at h
  unfold f_commas at h
  have hkg : (k + 1) * g ≤ 11 * 9 := Nat.mul_le_mul (by omega) (by omega)
  have em : (nI k + 1) * nI g = nI ((k + 1) * g) := by rw [nI_1]; exact (Int32.ofNat_mul _ _).symm
  rw [em, sub_sgn w (by omega) _ (by omega)]
  have e0 : nI k = 0 ↔ k = 0 := nI_eq (b := 0) (by omega) (by omega)
  rw [e0]
  refine ⟨fun hk => ⟨fun hw => ?_, fun hw => wb_S_commas_72 hm ?_⟩, fun hk => ?_⟩
  · rw [nI_sub hw, show nI (w - (k + 1) * g) + nI k = nI (w - (k + 1) * g + k) from nI_add _ _]
    refine sp_Polls_choose (by omega) (by omega) (wb_S_commas_71 hm (wb_S_commas_72 hm ?_))
    rw [if_neg hk] at h
    unfold cF at h
    rw [if_pos hw] at h
    rw [show (nL (ch (w - (k + 1) * g + k) k)).toInt32 = nI (ch (w - (k + 1) * g + k) k) from Int64.toInt32_ofNat']
    exact h
  · rw [if_neg hk] at h
    unfold cF at h
    rw [if_neg hw] at h
    exact h
  · rw [if_pos (Classical.not_not.mp hk)] at h
    exact h
end CA17
