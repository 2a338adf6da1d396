/-! ===== calls: odds ===== -/
def oP (q m : Nat) : Nat → Nat × Nat
  | 0 => (0, 1)
  | i + 1 => ((oP q m i).1 + m / 2 ^ i % 2, (oP q m i).2 * (if m / 2 ^ i % 2 = 1 then q else 16 - q))
def oS (n q : Nat) : Nat → Nat
  | 0 => 0
  | m + 1 => oS n q m + (if 2 * (oP q m n).1 ≤ n then 0 else (oP q m n).2)
def wM (n q : Nat) : Nat → Nat → Nat
  | 0, _ => 0
  | f + 1, c => if n < c then 0 else ch n c * q ^ c * (16 - q) ^ (n - c) + wM n q f (c + 1)
theorem oS_wM : ∀ n, n < 10 → ∀ q, q < 17 → oS n q (2 ^ n) = wM n q 10 (n / 2 + 1) := by decide +kernel
def eu : Nat → Nat → Nat → Nat × Nat
  | 0, a, b => (a, b)
  | f + 1, a, b => if b = 0 then (a, b) else eu f b (a % b)
theorem eu_s (f a b : Nat) : eu (f + 1) a b = if b = 0 then (a, b) else eu f b (a % b) := rfl
theorem wM_s (n q f c : Nat) : wM n q (f + 1) c = if n < c then 0 else ch n c * q ^ c * (16 - q) ^ (n - c) + wM n q f (c + 1) := rfl
theorem eu_ok : ∀ n, n < 10 → ∀ q, q < 17 → (eu 100 (wM n q 10 (n / 2 + 1)) (16 ^ n)).2 = 0 ∧ wM n q 10 (n / 2 + 1) < 2 ^ 40 := by decide +kernel
theorem eu_pos : ∀ (f a b : Nat), 0 < a + b → (eu f a b).2 = 0 → 0 < (eu f a b).1
  | 0, a, b, h, e => by
    have e : b = 0 := e
    show 0 < a
    omega
  | f + 1, a, b, h, e => by
    unfold eu at e ⊢
    by_cases hb : b = 0
    · rw [if_pos hb] at e ⊢; show 0 < a; omega
    · rw [if_neg hb] at e ⊢; exact eu_pos f _ _ (by omega) e
theorem eu_le : ∀ (f a b M : Nat), a ≤ M → b ≤ M → (eu f a b).1 ≤ M
  | 0, _, _, _, h, _ => h
  | f + 1, a, b, M, h1, h2 => by
    unfold eu
    by_cases hb : b = 0
    · rw [if_pos hb]; exact h1
    · rw [if_neg hb]; exact eu_le f _ _ M h2 (by have := Nat.mod_lt a (show 0 < b by omega); omega)
theorem nL_mod {a b : Nat} (ha : a < 2 ^ 63) (hb : b < 2 ^ 63) : nL a - nL a / nL b * nL b = nL (a % b) := by
  rw [nL_div ha hb, show nL (a / b) * nL b = nL (a / b * b) from (Int64.ofNat_mul _ _).symm]
  have e : nL a = nL (a % b) + nL (a / b * b) := by
    rw [show nL (a % b) + nL (a / b * b) = nL (a % b + a / b * b) from (Int64.ofNat_add _ _).symm, Nat.mul_comm, Nat.mod_add_div]
  rw [e, Int64.add_sub_cancel]
theorem cmp_0 {b : Nat} (hb : b < 2 ^ 63) : lg_cmp (nL b) 0 = 0 ↔ b = 0 := by
  constructor
  · intro h
    by_cases h0 : b = 0
    · exact h0
    · exfalso
      have hn := nL_0 hb (by omega)
      unfold lg_cmp at h
      by_cases h1 : nL b > 0
      · rw [if_pos h1] at h; exact absurd h (by decide)
      · rw [if_neg h1, if_neg hn] at h; exact absurd h (by decide)
  · intro h
    rw [h]; decide
section ODD
variable {d : Nat} {Q : gQ} {X : gX} {H : gH} {x : Nat} {P : Nat → Nat} {I A : Nat → Nat → Int32}
theorem sp_Polls_power {b e : Nat} (he : e < 2 ^ 30) (h : Q (some (.long (nL (b ^ e)))) (gset H x cck P I A)) : meth (d + 1) m_Polls_power [.long (nL b), .int (nI e)] (gset H x cck P I A) Q X := by
  have hm := @mo_Polls_power (meth d) (meth_smono d)
  have key : ∀ i, i ≤ e → gWp (gTab (tb_Polls_power (meth d))) Q X 5 [some (.long (nL b)), none, some (.int (nI e)), some (.long (nL (b ^ i))), none, some (.int (nI i))] [] (gset H x cck P I A) := by
    refine gdown ?_ ?_
    · exact wb_Polls_power_5 hm ⟨fun _ => h, fun c => absurd (nI_le (Nat.le_refl _) (by omega)) c⟩
    · intro i hi ih
      refine wb_Polls_power_5 hm ⟨fun c => absurd c (nI_ge hi (by omega)), fun _ => ?_⟩
      rw [show nL (b ^ i) * nL b = nL (b ^ (i + 1)) from (Int64.ofNat_mul _ _).symm, nI_1]
      exact ih
  exact me_Polls_power (wb_Polls_power_0 hm (key 0 (Nat.zero_le _)))
theorem half_n : ∀ n, n < 10 → nI n / (2 : Int32) + 1 = nI (n / 2 + 1) := by decide +kernel
theorem sp_Polls_waysForMost {n q : Nat} (hn : n < 10) (hq : q < 17) (h : Q (some (.long (nL (wM n q 10 (n / 2 + 1))))) (gset H x cck P I A)) : meth (d + 2) m_Polls_waysForMost [.int (nI n), .int (nI q)] (gset H x cck P I A) Q X := by
  have hm := @mo_Polls_waysForMost (meth (d + 1)) (meth_smono (d + 1))
  have key : ∀ (f c acc : Nat), n / 2 < c → c + f = 11 + n / 2 → (acc + wM n q f c = wM n q 10 (n / 2 + 1)) → gWp (gTab (tb_Polls_waysForMost (meth (d + 1)))) Q X 9 [some (.int (nI n)), some (.int (nI q)), some (.long (nL acc)), none, some (.int (nI c))] [] (gset H x cck P I A) := by
    intro f
    induction f with
    | zero =>
      intro c acc h0 h1 e
      refine wb_Polls_waysForMost_9 hm ⟨fun _ => ?_, fun q => absurd ((nI_ltI (by omega) (by omega)).mpr (by omega)) q⟩
      have e : acc = wM n q 10 (n / 2 + 1) := e
      rw [e]; exact h
    | succ f ih =>
      intro c acc h0 h1 e
      rw [wM_s n q f c] at e
      by_cases hc : n < c
      · rw [if_pos hc] at e
        have e : acc = wM n q 10 (n / 2 + 1) := e
        refine wb_Polls_waysForMost_9 hm ⟨fun _ => by rw [e]; exact h, fun q => absurd ((nI_ltI (by omega) (by omega)).mpr (by omega)) q⟩
      · rw [if_neg hc] at e
        refine wb_Polls_waysForMost_9 hm ⟨fun q => absurd ((nI_ltI (by omega) (by omega)).mp q) (by omega), fun _ => sp_Polls_choose (by omega) (by omega) (wb_Polls_waysForMost_22 hm ?_)⟩
        rw [nL_I (by omega)]
        refine sp_Polls_power (by omega) (wb_Polls_waysForMost_29 hm ?_)
        rw [show (16 : Int32) - nI q = nI (16 - q) from nI_sub (a := 16) (by omega), nL_I (by omega), nI_sub (by omega)]
        refine sp_Polls_power (by omega) (wb_Polls_waysForMost_42 hm ?_)
        rw [nI_1, show nL (ch n c) * nL (q ^ c) = nL (ch n c * q ^ c) from (Int64.ofNat_mul _ _).symm, show nL (ch n c * q ^ c) * nL ((16 - q) ^ (n - c)) = nL (ch n c * q ^ c * (16 - q) ^ (n - c)) from (Int64.ofNat_mul _ _).symm, show nL acc + nL (ch n c * q ^ c * (16 - q) ^ (n - c)) = nL (acc + ch n c * q ^ c * (16 - q) ^ (n - c)) from (Int64.ofNat_add _ _).symm]
        exact ih (c + 1) _ (by omega) (by omega) (by omega)
  refine me_Polls_waysForMost (wb_Polls_waysForMost_0 hm ⟨by decide, ?_⟩)
  rw [half_n n hn]
  exact key 10 (n / 2 + 1) 0 (by omega) (by omega) (Nat.zero_add _)
theorem sp_Polls_commonDivisor {a b : Nat} (ha : a < 2 ^ 63) (hb : b < 2 ^ 63) (he : (eu 100 a b).2 = 0) (h : Q (some (.long (nL (eu 100 a b).1))) (gset H x cck P I A)) : meth (d + 1) m_Polls_commonDivisor [.long (nL a), .long (nL b)] (gset H x cck P I A) Q X := by
  have hm := @mo_Polls_commonDivisor (meth d) (meth_smono d)
  have key : ∀ (f k a' b' : Nat), a' < 2 ^ 63 → b' < 2 ^ 63 → k + f ≤ 100 → eu f a' b' = eu 100 a b → gWp (gTab (tb_Polls_commonDivisor (meth d))) Q X 9 [some (.long (nL a)), none, some (.long (nL b)), none, some (.long (nL a')), none, some (.long (nL b')), none, some (.int (nI k)), none, none] [] (gset H x cck P I A) := by
    intro f
    induction f with
    | zero =>
      intro k a' b' h1 h2 hk e
      rw [← e] at h he
      have he : b' = 0 := he
      exact wb_Polls_commonDivisor_9 hm ⟨fun c => absurd c (nI_ge (b := 1000) (by omega) (by omega)), fun _ => ⟨fun _ => wb_Polls_commonDivisor_45 hm h, fun c => absurd ((cmp_0 h2).mpr he) c⟩⟩
    | succ f ih =>
      intro k a' b' h1 h2 hk e
      rw [eu_s f a' b'] at e
      refine wb_Polls_commonDivisor_9 hm ⟨fun c => absurd c (nI_ge (b := 1000) (by omega) (by omega)), fun _ => ⟨fun c => wb_Polls_commonDivisor_45 hm ?_, fun c => ?_⟩⟩
      · rw [if_pos ((cmp_0 h2).mp c)] at e
        rw [← e] at h; exact h
      · have hb0 : b' ≠ 0 := fun q => c ((cmp_0 h2).mpr q)
        rw [if_neg hb0] at e
        rw [nL_mod h1 h2, nI_1]
        exact ⟨nL_0 h2 (by omega), ih (k + 1) b' (a' % b') h2 (by have := Nat.mod_lt a' (show 0 < b' by omega); omega) (by omega) e⟩
  exact me_Polls_commonDivisor (wb_Polls_commonDivisor_0 hm (key 100 0 a b ha hb (by omega) rfl))
theorem sp_R_least {a b : Nat} {v : Int32} (ha : a < 2 ^ 63) (hb : b < 2 ^ 63) (hp : 0 < b) (he : (eu 100 a b).2 = 0) (h : Q (some (.long (nL ((if v = 0 then a else b) / (eu 100 a b).1)))) (gset H x mck P I A)) : meth (d + 1) m_R_least [.long (nL a), .long (nL b), .int v] (gset H x mck P I A) Q X := by
  have hm := @mo_R_least (meth d) (meth_smono d)
  have hpos := eu_pos 100 a b (by omega) he
  have hle := eu_le 100 a b (2 ^ 63 - 1) (by omega) (by omega)
  have fin : ∀ v7, gWp (gTab (tb_R_least (meth d))) Q X 41 [some (.long (nL a)), none, some (.long (nL b)), none, some (.int v), some (.long (nL (eu 100 a b).1)), none, some (.long v7), none, none, none] [.long (nL (if v = 0 then a else b))] (gset H x mck P I A) := by
    intro v7
    refine wb_R_least_41 hm ⟨nL_0 (by omega) hpos, ?_⟩
    rw [nL_div (by by_cases hv : v = 0 <;> simp [hv] <;> omega) (by omega)]
    exact h
  have key : ∀ (f a' b' : Nat), a' < 2 ^ 63 → b' < 2 ^ 63 → eu f a' b' = eu 100 a b → gWp (gTab (tb_R_least (meth d))) Q X 6 [some (.long (nL a)), none, some (.long (nL b)), none, some (.int v), some (.long (nL a')), none, some (.long (nL b')), none, none, none] [] (gset H x mck P I A) := by
    intro f
    have stop : ∀ a' b', b' < 2 ^ 63 → b' = 0 → a' = (eu 100 a b).1 → gWp (gTab (tb_R_least (meth d))) Q X 6 [some (.long (nL a)), none, some (.long (nL b)), none, some (.int v), some (.long (nL a')), none, some (.long (nL b')), none, none, none] [] (gset H x mck P I A) := by
      intro a' b' h2 hb' ea
      rw [ea]
      refine wb_R_least_6 hm ⟨fun _ => ⟨fun c => ?_, fun c => ?_⟩, fun c => absurd ((cmp_0 h2).mpr hb') c⟩
      · have := fin (nL b'); rw [if_neg c] at this; exact this
      · have := fin (nL b'); rw [if_pos (Classical.not_not.mp c)] at this; exact this
    induction f with
    | zero =>
      intro a' b' h1 h2 e
      rw [← e] at he
      exact stop a' b' h2 he (by rw [← e]; rfl)
    | succ f ih =>
      intro a' b' h1 h2 e
      rw [eu_s f a' b'] at e
      by_cases hb0 : b' = 0
      · rw [if_pos hb0] at e
        exact stop a' b' h2 hb0 (by rw [← e])
      · rw [if_neg hb0] at e
        refine wb_R_least_6 hm ⟨fun c => absurd ((cmp_0 h2).mp c) hb0, fun _ => ?_⟩
        rw [nL_mod h1 h2]
        exact ⟨nL_0 h2 (by omega), ih b' (a' % b') h2 (by have := Nat.mod_lt a' (show 0 < b' by omega); omega) e⟩
  exact me_R_least (wb_R_least_0 hm (key 100 a b ha hb rfl))
end ODD
