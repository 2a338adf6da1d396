/-! ===== calls: swing ===== -/
def wsum (c : Nat → Nat) : Nat → Nat → Nat
  | 0, _ => 0
  | n + 1, m => wsum c n m + (if m.testBit n = true then c n else 0)
def mS (c : Nat → Nat) (v : Nat) (f : Nat → Nat) (n : Nat) : Nat → Nat
  | 0 => 0
  | M + 1 => mS c v f n M + (if M.testBit v = true then 0 else f (wsum c n M))
def U (c : Nat → Nat) (v : Nat) : Nat → (Nat → Nat) → Nat
  | 0, f => f 0
  | n + 1, f => U c v n f + (if n = v then 0 else U c v n (fun w => f (w + c n)))
theorem wsum_c {c : Nat → Nat} {m m' : Nat} : ∀ n, (∀ t, t < n → m.testBit t = m'.testBit t) → wsum c n m = wsum c n m'
  | 0, _ => rfl
  | n + 1, h => by
    unfold wsum
    rw [wsum_c n (fun t ht => h t (by omega)), h n (by omega)]
theorem mS_a {c : Nat → Nat} {v n : Nat} {f : Nat → Nat} : ∀ M, M ≤ 2 ^ n → mS c v f (n + 1) M = mS c v f n M
  | 0, _ => rfl
  | M + 1, h => by
    have hb : M.testBit n = false := Nat.testBit_lt_two_pow (by omega)
    unfold mS
    rw [mS_a M (by omega), show wsum c (n + 1) M = wsum c n M by rw [wsum, hb, if_neg (by decide), Nat.add_zero]]
theorem mS_b {c : Nat → Nat} {v n : Nat} {f : Nat → Nat} : ∀ M, M ≤ 2 ^ n → mS c v f (n + 1) (2 ^ n + M) = mS c v f n (2 ^ n) + (if n = v then 0 else mS c v (fun w => f (w + c n)) n M)
  | 0, _ => by
    show mS c v f (n + 1) (2 ^ n) = _
    rw [mS_a _ (Nat.le_refl _)]
    by_cases h : n = v
    · rw [if_pos h]; rfl
    · rw [if_neg h]; rfl
  | M + 1, h => by
    have ih := mS_b (c := c) (v := v) (n := n) (f := f) M (by omega)
    have hb : M.testBit n = false := Nat.testBit_lt_two_pow (by omega)
    have ht : (2 ^ n + M).testBit n = true := by rw [Nat.testBit_two_pow_add_eq, hb]; rfl
    have e : wsum c (n + 1) (2 ^ n + M) = wsum c n M + c n := by
      rw [wsum, ht, if_pos rfl, wsum_c (m' := M) n (fun t ht => Nat.testBit_two_pow_add_gt ht M)]
    show mS c v f (n + 1) (2 ^ n + M) + (if (2 ^ n + M).testBit v = true then 0 else f (wsum c (n + 1) (2 ^ n + M))) = _
    rw [ih, e]
    by_cases hv : n = v
    · rw [if_pos hv, if_pos hv, ← hv, ht, if_pos rfl]
    · rw [if_neg hv, if_neg hv]
      have eb : (2 ^ n + M).testBit v = M.testBit v := by
        rcases Nat.lt_or_gt_of_ne hv with h1 | h1
        · have h2 : 2 ^ (n + 1) ≤ 2 ^ v := Nat.pow_le_pow_right (by omega) h1
          rw [Nat.pow_succ] at h2
          rw [Nat.testBit_lt_two_pow (by omega), Nat.testBit_lt_two_pow (by omega)]
        · exact Nat.testBit_two_pow_add_gt h1 M
      rw [eb, Nat.add_assoc]
      rfl
theorem mS_U {c : Nat → Nat} {v : Nat} : ∀ n (f : Nat → Nat), mS c v f n (2 ^ n) = U c v n f
  | 0, f => by
    show 0 + (if (0 : Nat).testBit v = true then 0 else f (wsum c 0 0)) = f 0
    rw [Nat.zero_testBit, if_neg (by decide), Nat.zero_add]; rfl
  | n + 1, f => by
    have e : 2 ^ (n + 1) = 2 ^ n + 2 ^ n := by rw [Nat.pow_succ]; omega
    rw [e, mS_b _ (Nat.le_refl _), mS_U n f, U]
    by_cases h : n = v
    · rw [if_pos h, if_pos h]
    · rw [if_neg h, if_neg h, mS_U n]
-- the table
def Dt (c : Nat → Nat) (v : Nat) : Nat → Nat → Nat
  | 0, w => if w = 0 then 1 else 0
  | t + 1, w => if t = v then Dt c v t w else Dt c v t w + (if c t ≤ w then Dt c v t (w - c t) else 0)
def sumN (f : Nat → Nat) : Nat → Nat
  | 0 => 0
  | k + 1 => sumN f k + f k
theorem sumN_c {f g : Nat → Nat} : ∀ n, (∀ t, t < n → f t = g t) → sumN f n = sumN g n
  | 0, _ => rfl
  | n + 1, h => by unfold sumN; rw [sumN_c n (fun t ht => h t (by omega)), h n (by omega)]
theorem sumN_add {f g : Nat → Nat} : ∀ n, sumN (fun t => f t + g t) n = sumN f n + sumN g n
  | 0 => rfl
  | n + 1 => by unfold sumN; rw [sumN_add n]; omega
theorem sumN_0 {f : Nat → Nat} : ∀ n, (∀ t, t < n → f t = 0) → sumN f n = 0
  | 0, _ => rfl
  | n + 1, h => by unfold sumN; rw [sumN_0 n (fun t ht => h t (by omega)), h n (by omega)]
theorem sumN_sh {f : Nat → Nat} {c : Nat} : ∀ n, sumN (fun w => if c ≤ w then f (w - c) else 0) (n + c) = sumN f n
  | 0 => by rw [Nat.zero_add]; exact sumN_0 c (fun t ht => if_neg (by omega))
  | n + 1 => by
    rw [show n + 1 + c = (n + c) + 1 by omega]
    show sumN _ (n + c) + (if c ≤ n + c then f (n + c - c) else 0) = sumN f n + f n
    rw [sumN_sh n, if_pos (by omega), Nat.add_sub_cancel]
theorem sumN_cut {f : Nat → Nat} {n : Nat} : ∀ k, (∀ t, n ≤ t → f t = 0) → sumN f (n + k) = sumN f n
  | 0, _ => rfl
  | k + 1, h => by
    show sumN f (n + k) + f (n + k) = _
    rw [sumN_cut k h, h (n + k) (by omega), Nat.add_zero]
theorem Dt_0 {c : Nat → Nat} {v : Nat} (hc : ∀ t, c t ≤ 9) : ∀ t w, 9 * t < w → Dt c v t w = 0
  | 0, w, h => if_neg (by omega)
  | t + 1, w, h => by
    unfold Dt
    have := hc t
    by_cases hv : t = v
    · rw [if_pos hv]; exact Dt_0 hc t w (by omega)
    · rw [if_neg hv, Dt_0 hc t w (by omega)]
      by_cases h1 : c t ≤ w
      · rw [if_pos h1, Dt_0 hc t (w - c t) (by omega)]
      · rw [if_neg h1]
theorem Dt_U {c : Nat → Nat} {v : Nat} (hc : ∀ t, c t ≤ 9) : ∀ t (f : Nat → Nat) (M : Nat), 9 * t < M → sumN (fun w => Dt c v t w * f w) M = U c v t f
  | 0, f, M, h => by
    obtain ⟨k, rfl⟩ : ∃ k, M = 1 + k := ⟨M - 1, by omega⟩
    rw [sumN_cut k (fun t ht => by show (if t = 0 then 1 else 0) * f t = 0; rw [if_neg (by omega), Nat.zero_mul])]
    show 0 + (if 0 = 0 then 1 else 0) * f 0 = f 0
    rw [if_pos rfl]; omega
  | t + 1, f, M, h => by
    have hct := hc t
    rw [U]
    by_cases hv : t = v
    · rw [if_pos hv, Nat.add_zero, ← Dt_U hc t f M (by omega)]
      exact sumN_c M (fun w _ => by rw [Dt, if_pos hv])
    · rw [if_neg hv, ← Dt_U hc t f M (by omega)]
      have e1 : ∀ w, Dt c v (t + 1) w * f w = Dt c v t w * f w + (if c t ≤ w then (fun u => Dt c v t u * f (u + c t)) (w - c t) else 0) := by
        intro w
        rw [Dt, if_neg hv, Nat.add_mul]
        by_cases h1 : c t ≤ w
        · rw [if_pos h1, if_pos h1]; show _ = _ + Dt c v t (w - c t) * f (w - c t + c t); rw [Nat.sub_add_cancel h1]
        · rw [if_neg h1, if_neg h1, Nat.zero_mul]
      rw [sumN_c M (fun w _ => e1 w), sumN_add]
      congr 1
      obtain ⟨k, rfl⟩ : ∃ k, M = k + c t := ⟨M - c t, by omega⟩
      exact (sumN_sh (f := fun u => Dt c v t u * f (u + c t)) k).trans (Dt_U hc t _ k (by omega))
section SWC
variable {s : ST}
def cN (s : ST) (t : Nat) : Nat := if t < sN s then zC (sZ s) t else 0
theorem cN_9 (hs : sOk s) (t : Nat) : cN s t ≤ 9 := by
  unfold cN
  by_cases h : t < sN s
  · rw [if_pos h]; exact (hs.2.1.2.2.2.1 t h).2.2.2.2
  · rw [if_neg h]; omega
theorem cN_1 (hs : sOk s) {t : Nat} (h : t < sN s) : 1 ≤ cN s t ∧ sC s t = nI (cN s t) := by
  unfold cN
  rw [if_pos h]; exact ⟨(hs.2.1.2.2.2.1 t h).2.2.2.1, rfl⟩
theorem wsum_le {c : Nat → Nat} (hc : ∀ t, c t ≤ 9) {m : Nat} : ∀ n, wsum c n m ≤ 9 * n
  | 0 => Nat.zero_le _
  | n + 1 => by
    have := wsum_le hc (m := m) n
    have := hc n
    unfold wsum
    by_cases h : m.testBit n = true
    · rw [if_pos h]; omega
    · rw [if_neg h]; omega
theorem sumN_le {c : Nat → Nat} (hc : ∀ t, c t ≤ 9) : ∀ n, sumN c n ≤ 9 * n
  | 0 => Nat.zero_le _
  | n + 1 => by
    have := sumN_le hc n
    have := hc n
    unfold sumN; omega
theorem fsum_w (hs : sOk s) {m : Nat} : ∀ k, k ≤ sN s → fsum (fun t => if bt (nI m) t = true then sC s t else 0) k = nI (wsum (cN s) k m)
  | 0, _ => rfl
  | k + 1, h => by
    have h8 : sN s ≤ 8 := hs.2.1.1
    rw [fsum, fsum_w hs k (by omega), wsum, bt_nI (by omega), (cN_1 hs (show k < sN s by omega)).2]
    by_cases hb : m.testBit k = true
    · rw [if_pos hb, if_pos hb]; exact nI_add _ _
    · rw [if_neg hb, if_neg hb]; exact nI_add _ 0
theorem fsum_C (hs : sOk s) : ∀ k, k ≤ sN s → fsum (sC s) k = nI (sumN (cN s) k)
  | 0, _ => rfl
  | k + 1, h => by
    rw [fsum, fsum_C hs k (by omega), sumN, (cN_1 hs (show k < sN s by omega)).2]
    exact nI_add _ _
def gSw (s : ST) (v w : Nat) : Nat := if 2 * w ≤ sumN (cN s) (sN s) ∧ sumN (cN s) (sN s) < 2 * (w + cN s v) then 1 else 0
def f_swing (v : Nat) (s : ST) : Int32 := nI (U (cN s) v (sN s) (gSw s v))
theorem C_swing (hs : sOk s) {t : Int32} : cCall m_S_swing [.int t] (qT (isT s t) s (.inl (.int (f_swing t.toNatClampNeg s)), s)) s := by
  intro d Q X H x P I A hr h
  have hm' := @mo_S_swing (meth (d + 59)) (meth_smono (d + 59))
  have h8 : sN s ≤ 8 := hs.2.1.1
  obtain ⟨p1, p2⟩ := p256 hs
  have h1 := pOk_1 hr.1
  refine me_S_swing (wb_S_swing_0 hm' (sp_S_needTown hr (fun c => wb_S_swing_5 hm' ?_) (fun c I' r' => ?_)))
  · rw [qT_t c] at h
    have h := h P I A hr
    obtain ⟨v, hv, _, rfl⟩ := isT_n hs c
    rw [nI_clamp (by omega)] at h
    unfold f_swing at h
    rw [← mS_U] at h
    have hm := @mo_Polls_swingSets (meth (d + 58)) (meth_smono (d + 58))
    refine me_Polls_swingSets (wb_Polls_swingSets_0 hm h1 (cs_allSeats hs hr (wb_Polls_swingSets_4 hm ?_)))
    rw [fsum_C hs _ (Nat.le_refl _)]
    have hT := sumN_le (cN_9 hs) (sN s)
    have hcv := cN_9 hs v
    have loop : ∀ m, m ≤ 2 ^ sN s → gWp (gTab (tb_Polls_swingSets (meth (d + 58)))) (fun r H' => gWp (gTab (tb_S_swing (meth (d + 59)))) Q X 17 [some (.ref (x + 0)), some (.int (nI v))] (r.toList ++ []) H') X 11 [some (.ref (x + 43)), some (.int (nI v)), some (.ref (x + P 1)), some (.int (nI (sumN (cN s) (sN s)))), some (.int (nI (mS (cN s) v (gSw s v) (sN s) m))), some (.int (nI m)), none, none] [] (gset H x cck P I A) := by
      refine gdown ?_ ?_
      · refine wb_Polls_swingSets_11 hm h1 (cs_everyTown hs hr (wb_Polls_swingSets_17 hm h1 ⟨fun _ => wb_S_swing_17 hm' h, fun q => absurd ((nI_ltI (by omega) (by omega)).mpr (by omega)) q⟩))
      · intro m hm2 ih
        rw [← nI_1, mS] at ih
        refine wb_Polls_swingSets_11 hm h1 (cs_everyTown hs hr (wb_Polls_swingSets_17 hm h1 ⟨fun q => absurd ((nI_ltI (by omega) (by omega)).mp q) (by omega), fun _ => ?_⟩))
        rw [b_at0 (by omega), bt_nI (by omega)]
        refine ⟨fun q => wb_Polls_swingSets_82 hm ?_, fun q => cs_seatsIn hs hr (wb_Polls_swingSets_35 hm h1 ?_)⟩
        · rw [if_pos (by cases hb : m.testBit v with | true => rfl | false => exact absurd hb q), Nat.add_zero] at ih
          exact ih
        · have hb := Classical.not_not.mp q
          rw [hb, if_neg (by decide)] at ih
          have hw := wsum_le (cN_9 hs) (m := m) (sN s)
          rw [fsum_w hs _ (Nat.le_refl _), nI_clamp (by omega), cl_C hr hv, (cN_1 hs hv).2, show nI (wsum (cN s) (sN s) m) + nI (cN s v) = nI (wsum (cN s) (sN s) m + cN s v) from nI_add _ _, show (2 : Int32) * nI (wsum (cN s) (sN s) m) = nI (2 * wsum (cN s) (sN s) m) from (Int32.ofNat_mul 2 _).symm, show (2 : Int32) * nI (wsum (cN s) (sN s) m + cN s v) = nI (2 * (wsum (cN s) (sN s) m + cN s v)) from (Int32.ofNat_mul 2 _).symm, nI_ltI (by omega) (by omega), nI_leI (by omega) (by omega)]
          unfold gSw at ih
          have g65 : ∀ b : Bool, nI (mS (cN s) v (gSw s v) (sN s) m + (if b = true then 1 else 0)) = nI (mS (cN s) v (gSw s v) (sN s) m) + i01 b := fun b => by
            cases b
            · exact (nI_add _ 0).symm
            · exact (nI_add _ 1).symm
          have no : ¬ (2 * wsum (cN s) (sN s) m ≤ sumN (cN s) (sN s) ∧ sumN (cN s) (sN s) < 2 * (wsum (cN s) (sN s) m + cN s v)) → ∀ v6, gWp (gTab (tb_Polls_swingSets (meth (d + 58)))) (fun r H' => gWp (gTab (tb_S_swing (meth (d + 59)))) Q X 17 [some (.ref (x + 0)), some (.int (nI v))] (r.toList ++ []) H') X 64 [some (.ref (x + 43)), some (.int (nI v)), some (.ref (x + P 1)), some (.int (nI (sumN (cN s) (sN s)))), some (.int (nI (mS (cN s) v (gSw s v) (sN s) m))), some (.int (nI m)), some (.int v6), none] [] (gset H x cck P I A) := fun q v6 => by
            rw [if_neg q] at ih
            refine wb_Polls_swingSets_64 hm (wb_Polls_swingSets_65 hm ⟨fun _ => wb_Polls_swingSets_79 hm (wb_Polls_swingSets_82 hm ?_), fun z => absurd rfl z⟩)
            have := g65 false
            rw [if_neg (by decide)] at this
            rw [← show nI (mS (cN s) v (gSw s v) (sN s) m + 0) = nI (mS (cN s) v (gSw s v) (sN s) m) + 0 from this]
            exact ih
          refine ⟨fun q => no (by omega) _, fun q => ⟨vp_in_nI (by omega) (by omega), fun q2 => no (by omega) _, fun q2 => wb_Polls_swingSets_65 hm ⟨fun z => absurd z (by decide), fun _ => wb_Polls_swingSets_79 hm (wb_Polls_swingSets_82 hm ?_)⟩⟩⟩
          rw [if_pos ⟨by omega, by omega⟩] at ih
          rw [show nI (mS (cN s) v (gSw s v) (sN s) m) + 1 = nI (mS (cN s) v (gSw s v) (sN s) m + 1) from nI_add _ 1]
          exact ih
    exact loop 0 (Nat.zero_le _)
  · rw [qT_f c] at h; exact h P I' A r'
theorem rSp_23 : rSpA [23] := fun j hj q => by simp at q; omega
set_option maxHeartbeats 1000000 in
theorem R_swing (hs : sOk s) {t : Int32} : rCall m_R_swing [.int t] kA (.int 0) (qT (isT s t) s (.inl (.int (f_swing t.toNatClampNeg s)), s)) s := by
  intro d Q X H x P I A hr h
  have hm := @mo_R_swing (meth (d + 59)) (meth_smono (d + 59))
  have h8 : sN s ≤ 8 := hs.2.1.1
  refine me_R_swing (wb_R_swing_0 hm (sp_R_isTown (code := 1) upI_s (by omega) (rRep_0 hr) (fun c => wb_R_swing_11 hm ⟨fun _ => ?_, fun q => absurd (by decide) q⟩) (fun c I' A' r' e => wb_R_swing_11 hm ⟨fun q => absurd rfl q, fun _ => ?_⟩)))
  · rw [qT_t c] at h
    obtain ⟨v, hv, _, rfl⟩ := isT_n hs c
    rw [nI_clamp (by omega)] at h
    unfold f_swing at h
    have rr : ∀ A', Fr [23] A A' → rRep s (upI I 0 0 0) A' := fun A' f => rRep_fr (rRep_0 hr) (fun _ _ => rfl) f rSp_23
    have h := fun A' f w => h _ A' w (rr A' f)
    have i00 : upI I 0 0 0 0 0 = 0 := upI_s
    have eN : upI I 0 0 0 0 19 = nI (sN s) := (rr A fr_r).2.1.1
    generalize upI I 0 0 0 = J at rr h i00 eN ⊢
    have hT := sumN_le (cN_9 hs) (sN s)
    have eC : ∀ A', Fr [23] A A' → ∀ t, t < sN s → A' 7 t = nI (cN s t) := fun A' f t ht => by rw [(rr A' f).2.1.2.2.1 t ht]; exact (cN_1 hs ht).2
    -- the sum over the table
    have l111 : ∀ w, w ≤ 73 → ∀ A1, Fr [23] A A1 → (∀ w, w < 73 → A1 23 w = nI (Dt (cN s) v (sN s) w)) → gWp (gTab (tb_R_swing (meth (d + 59)))) Q X 111 [some (.ref (x + 0)), some (.int (nI v)), some (.int (nI (sumN (fun w => Dt (cN s) v (sN s) w * gSw s v w) w))), some (.int (nI w))] [] (gset H x mck P J A1) := by
      refine gdown ?_ ?_
      · intro A1 f1 e1
        refine wb_R_swing_111 hm ⟨fun _ => h A1 f1 _ ⟨i00, ?_⟩, fun q => absurd (nI_le (a := 73) (by omega) (by omega)) q⟩
        rw [Dt_U (cN_9 hs) (sN s) (gSw s v) 73 (by omega)]
      · intro w hw ih A1 f1 e1
        have ih := ih A1 f1 e1
        rw [← nI_1, sumN] at ih
        have eAll : fsum (A1 7) (sN s) = nI (sumN (cN s) (sN s)) := by rw [fsum_c (g := sC s) (fun t ht => by rw [eC A1 f1 t ht]; exact (cN_1 hs ht).2.symm), fsum_C hs _ (Nat.le_refl _)]
        have no : gSw s v w = 0 → gWp (gTab (tb_R_swing (meth (d + 59)))) Q X 154 [some (.ref (x + 0)), some (.int (nI v)), some (.int (nI (sumN (fun w => Dt (cN s) v (sN s) w * gSw s v w) w))), some (.int (nI w))] [.int (nI (sumN (fun w => Dt (cN s) v (sN s) w * gSw s v w) w))] (gset H x mck P J A1) := fun q => by
          rw [q, Nat.mul_zero] at ih
          refine wb_R_swing_154 hm (wb_R_swing_155 hm ?_)
          rw [show nI (sumN (fun w => Dt (cN s) v (sN s) w * gSw s v w) w) + 0 = nI (sumN (fun w => Dt (cN s) v (sN s) w * gSw s v w) w + 0) from nI_add _ 0]
          exact ih
        have hcv := cN_9 hs v
        refine wb_R_swing_111 hm ⟨fun q => absurd q (nI_ge (b := 73) hw (by omega)), fun _ => sp_R_seatsAll eN h8 (wb_R_swing_125 hm ?_)⟩
        rw [eAll, show (2 : Int32) * nI w = nI (2 * w) from (Int32.ofNat_mul 2 w).symm, nI_ltI (by omega) (by omega)]
        refine ⟨fun q => no (if_neg (by omega)), fun q => ⟨vp_in_nI (by omega) (by omega), sp_R_seatsAll eN h8 (wb_R_swing_142 hm ?_)⟩⟩
        rw [eAll, nI_clamp (by omega), eC A1 f1 v hv, show nI w + nI (cN s v) = nI (w + cN s v) from nI_add _ _, show (2 : Int32) * nI (w + cN s v) = nI (2 * (w + cN s v)) from (Int32.ofNat_mul 2 _).symm, nI_leI (by omega) (by omega)]
        refine ⟨fun q2 => no (if_neg (by omega)), fun q2 => ⟨vp_in_nI (by omega) (by omega), wb_R_swing_155 hm ?_⟩⟩
        rw [nI_clamp (by omega), e1 w hw, show nI (sumN (fun w => Dt (cN s) v (sN s) w * gSw s v w) w) + nI (Dt (cN s) v (sN s) w) = nI (sumN (fun w => Dt (cN s) v (sN s) w * gSw s v w) w + Dt (cN s) v (sN s) w) from nI_add _ _]
        rw [show gSw s v w = 1 from if_pos ⟨by omega, by omega⟩, Nat.mul_one] at ih
        exact ih
    -- the towns
    have l47 : ∀ t, t ≤ sN s → ∀ A1, Fr [23] A A1 → (∀ w, w < 73 → A1 23 w = nI (Dt (cN s) v t w)) → gWp (gTab (tb_R_swing (meth (d + 59)))) Q X 47 [some (.ref (x + 0)), some (.int (nI v)), some (.int (nI t)), none] [] (gset H x mck P J A1) := by
      refine gdown ?_ ?_
      · intro A1 f1 e1
        refine wb_R_swing_47 hm ?_
        rw [eN]
        exact ⟨fun _ => l111 0 (Nat.zero_le _) A1 f1 e1, fun q => absurd (nI_le (Nat.le_refl _) (by omega)) q⟩
      · intro t ht ih A1 f1 e1
        refine wb_R_swing_47 hm ?_
        rw [eN]
        refine ⟨fun q => absurd q (nI_ge ht (by omega)), fun _ => ?_⟩
        have ct := (cN_1 hs ht).1
        have ct9 := cN_9 hs t
        have etv : nI t = nI v ↔ t = v := nI_eq (by omega) (by omega)
        have iv : vp_in (nI t) 8 := vp_in_nI (by omega) (by omega)
        have l58 : ∀ w, w ≤ 72 → ∀ A2, Fr [23] A A2 → (∀ u, u < 73 → A2 23 u = nI (if w < u then Dt (cN s) v (t + 1) u else Dt (cN s) v t u)) → gWp (gTab (tb_R_swing (meth (d + 59)))) Q X 58 [some (.ref (x + 0)), some (.int (nI v)), some (.int (nI t)), some (.int (nI w))] [] (gset H x mck P J A2) := by
          intro w
          have done : ∀ w, w ≤ 72 → (w < cN s t ∨ t = v) → ∀ A2, Fr [23] A A2 → (∀ u, u < 73 → A2 23 u = nI (if w < u then Dt (cN s) v (t + 1) u else Dt (cN s) v t u)) → gWp (gTab (tb_R_swing (meth (d + 59)))) Q X 101 [some (.ref (x + 0)), some (.int (nI v)), some (.int (nI t)), some (.int (nI w))] [] (gset H x mck P J A2) := by
            intro w hw hq A2 f2 e2
            refine wb_R_swing_101 hm ?_
            rw [nI_1]
            refine ih A2 f2 (fun u hu => ?_)
            rw [e2 u hu]
            by_cases hlt : w < u
            · rw [if_pos hlt]
            · rw [if_neg hlt]
              congr 1
              rw [Dt]
              by_cases htv : t = v
              · rw [if_pos htv]
              · rw [if_neg htv, if_neg (by rcases hq with hq | hq <;> omega), Nat.add_zero]
          induction w with
          | zero =>
            intro hw A2 f2 e2
            refine wb_R_swing_58 hm ?_
            rw [nI_clamp (by omega), eC A2 f2 t ht]
            exact ⟨iv, fun _ => done 0 hw (Or.inl (by omega)) A2 f2 e2, fun q => absurd ((nI_ltI (by omega) (by omega)).mpr (by omega)) q⟩
          | succ w ihw =>
            intro hw A2 f2 e2
            refine wb_R_swing_58 hm ?_
            rw [nI_clamp (by omega), eC A2 f2 t ht, nI_ltI (by omega) (by omega), etv]
            refine ⟨iv, fun q => done (w + 1) hw (Or.inl q) A2 f2 e2, fun q => ⟨fun q2 => done (w + 1) hw (Or.inr q2) A2 f2 e2, fun q2 => ?_⟩⟩
            rw [nI_sub (show cN s t ≤ w + 1 by omega), nI_clamp (by omega), nI_clamp (by omega), e2 (w + 1) (by omega), e2 (w + 1 - cN s t) (by omega), if_neg (by omega), if_neg (by omega), show nI (Dt (cN s) v t (w + 1)) + nI (Dt (cN s) v t (w + 1 - cN s t)) = nI (Dt (cN s) v t (w + 1) + Dt (cN s) v t (w + 1 - cN s t)) from nI_add _ _, show nI (w + 1) + (-1) = nI w by rw [← nI_1, Int32.add_assoc, show (1 : Int32) + -1 = 0 by decide, Int32.add_zero]]
            refine ⟨vp_in_nI (by omega) (by omega), iv, vp_in_nI (by omega) (by omega), vp_in_nI (by omega) (by omega), ihw (by omega) _ (fr_t f2 (fr_A fr_r (by simp))) (fun u hu => ?_)⟩
            rw [upA_s]
            by_cases he : u = w + 1
            · rw [he, upd_at, if_pos (by omega)]
              congr 1
              rw [Dt, if_neg q2, if_pos (by omega)]
            · rw [upd_ne he, e2 u hu]
              by_cases hlt : w < u
              · rw [if_pos hlt, if_pos (by omega)]
              · rw [if_neg hlt, if_neg (by omega)]
        refine l58 72 (Nat.le_refl _) A1 f1 (fun u hu => ?_)
        rw [if_neg (by omega)]
        exact e1 u hu
    have l18 : ∀ w, w ≤ 73 → ∀ A1, Fr [23] A A1 → (∀ u, u < w → A1 23 u = nI (Dt (cN s) v 0 u)) → gWp (gTab (tb_R_swing (meth (d + 59)))) Q X 18 [some (.ref (x + 0)), some (.int (nI v)), some (.int (nI w)), none] [] (gset H x mck P J A1) := by
      refine gdown ?_ ?_
      · intro A1 f1 e1
        exact wb_R_swing_18 hm ⟨fun _ => l47 0 (Nat.zero_le _) A1 f1 e1, fun q => absurd (nI_le (a := 73) (by omega) (by omega)) q⟩
      · intro w hw ih A1 f1 e1
        have e0 : nI w = 0 ↔ w = 0 := nI_eq (b := 0) (by omega) (by omega)
        have g38 : ∀ z, z = nI (Dt (cN s) v 0 w) → gWp (gTab (tb_R_swing (meth (d + 59)))) Q X 38 [some (.ref (x + 0)), some (.int (nI v)), some (.int (nI w)), none] [.int z, .int (nI w), .ref (x + 23)] (gset H x mck P J A1) := fun z hz => by
          refine wb_R_swing_38 hm ⟨vp_in_nI (by omega) (by omega), ?_⟩
          rw [nI_clamp (by omega), nI_1, hz]
          refine ih _ (fr_t f1 (fr_A fr_r (by simp))) (fun u hu => ?_)
          rw [upA_s]
          by_cases he : u = w
          · rw [he, upd_at]
          · rw [upd_ne he]; exact e1 u (by omega)
        refine wb_R_swing_18 hm ⟨fun q => absurd q (nI_ge (b := 73) hw (by omega)), fun _ => ⟨fun q => g38 0 ?_, fun q => g38 1 ?_⟩⟩
        · rw [Dt, if_neg (fun z => q (e0.mpr z))]; rfl
        · rw [Dt, if_pos (e0.mp (Classical.not_not.mp q))]; rfl
    exact l18 0 (Nat.zero_le _) A fr_r (fun t ht => absurd ht (Nat.not_lt_zero t))
  · rw [qT_f c] at h; exact h I' A' _ r' ⟨e, rfl⟩
end SWC
