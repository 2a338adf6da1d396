/-! ===== calls: bread ===== -/
def vN (s : ST) (t : Nat) : Nat := (wV (sW s) t).toNatClampNeg
theorem vN_ok {s : ST} (hs : sOk s) {t : Nat} (ht : t < sN s) : wV (sW s) t = nI (vN s t) ∧ 1 ≤ vN s t ∧ vN s t ≤ 999 := by
  obtain ⟨v, b, v1, v9, _, ev, _⟩ := hs.2.2.1.1 t ht
  unfold vN
  rw [ev, nI_clamp (by omega)]
  exact ⟨rfl, v1, v9⟩
def gN (s : ST) (m : Int32) (y : Nat) : Nat → Nat
  | 0 => 0
  | t + 1 => gN s m y t + (if bt m t = true then min y (vN s t) else 0)
theorem gN_mono {s : ST} {m : Int32} {y z : Nat} (h : y ≤ z) : ∀ t, gN s m y t ≤ gN s m z t
  | 0 => Nat.le_refl _
  | t + 1 => by
    have := gN_mono (s := s) (m := m) h t
    unfold gN
    by_cases hb : bt m t = true
    · rw [if_pos hb, if_pos hb]; omega
    · rw [if_neg hb, if_neg hb]; omega
theorem gN_le {s : ST} {m : Int32} {y : Nat} : ∀ t, gN s m y t ≤ y * t
  | 0 => Nat.zero_le _
  | t + 1 => by
    have := gN_le (s := s) (m := m) (y := y) t
    unfold gN
    rw [Nat.mul_succ]
    by_cases hb : bt m t = true
    · rw [if_pos hb]; omega
    · rw [if_neg hb]; omega
theorem gN_0 {s : ST} {m : Int32} : ∀ t, gN s m 0 t = 0
  | 0 => rfl
  | t + 1 => by
    unfold gN
    rw [gN_0 t]
    by_cases hb : bt m t = true
    · rw [if_pos hb]; omega
    · rw [if_neg hb]
/-- the greatest bound that feeds -/
def bm (F : Nat → Nat) (n : Nat) : Nat → Nat
  | 0 => 0
  | M + 1 => if F (M + 1) ≤ n then M + 1 else bm F n M
theorem bm_is {F : Nat → Nat} {n z : Nat} : ∀ M, z ≤ M → F z ≤ n → (∀ y, y ≤ M → F y ≤ n → y ≤ z) → bm F n M = z
  | 0, h, _, _ => by unfold bm; omega
  | M + 1, h, h1, h2 => by
    unfold bm
    by_cases hc : F (M + 1) ≤ n
    · rw [if_pos hc]; have := h2 (M + 1) (Nat.le_refl _) hc; omega
    · rw [if_neg hc]
      have hz : z ≠ M + 1 := fun q => hc (by rw [← q]; exact h1)
      exact bm_is M (by omega) h1 (fun y hy => h2 y (by omega))
theorem bm_le {F : Nat → Nat} {n : Nat} : ∀ M, bm F n M ≤ M
  | 0 => Nat.le_refl _
  | M + 1 => by
    have := bm_le (F := F) (n := n) M
    unfold bm
    by_cases hc : F (M + 1) ≤ n
    · rw [if_pos hc]; omega
    · rw [if_neg hc]; omega
theorem bm_ext {F : Nat → Nat} {n : Nat} (hF : ∀ y z, y ≤ z → F y ≤ F z) {M : Nat} : ∀ e, min M (bm F n (M + e)) = bm F n M
  | 0 => by
    have := bm_le (F := F) (n := n) M
    show min M (bm F n M) = bm F n M
    omega
  | e + 1 => by
    have ih := bm_ext (n := n) hF (M := M) e
    rw [show M + (e + 1) = M + e + 1 by omega, bm]
    by_cases hc : F (M + e + 1) ≤ n
    · rw [if_pos hc]
      have h1 : bm F n M = M := by
        cases M with
        | zero => rfl
        | succ M => unfold bm; rw [if_pos (Nat.le_trans (hF _ _ (by omega)) hc)]
      rw [h1]; omega
    · rw [if_neg hc]; exact ih
def okM (s : ST) (m : Int32) : Bool := inR m 0 (nI (2 ^ sN s - 1))
section BRC
variable {s : ST} {d : Nat} {Q : gQ} {X : gX} {H : gH} {x : Nat} {P : Nat → Nat} {I A : Nat → Nat → Int32} {m : Int32}
theorem p256 (hs : sOk s) : 2 ^ sN s ≤ 256 ∧ 1 ≤ 2 ^ sN s := ⟨Nat.le_trans (Nat.pow_le_pow_right (by omega) hs.2.1.1) (by decide), Nat.one_le_two_pow⟩
theorem cs_knows (hs : sOk s) (hr : cRep s P I A) (h : Q (some (.int (i01 (okM s m)))) (gset H x cck P I A)) : meth (d + 2) m_Land_knows [.ref (x + P 1), .int m] (gset H x cck P I A) Q X := by
  have hm := @mo_Land_knows (meth (d + 1)) (meth_smono (d + 1))
  unfold okM inR at h
  refine me_Land_knows (wb_Land_knows_0 hm (pOk_1 hr.1) ⟨fun c => wb_Land_knows_16 hm (wb_Land_knows_17 hm ⟨rfl, ?_⟩), fun c => cs_everyTown hs hr (wb_Land_knows_9 hm ⟨fun c2 => wb_Land_knows_16 hm (wb_Land_knows_17 hm ⟨rfl, ?_⟩), fun c2 => wb_Land_knows_17 hm ⟨rfl, ?_⟩⟩)⟩)
  · rw [decide_eq_false (fun q => q.1 c)] at h; exact h
  · rw [decide_eq_false (fun q => q.2 c2)] at h; exact h
  · rw [decide_eq_true ⟨c, c2⟩] at h; exact h
theorem cs_breadGiven (hs : sOk s) (hr : cRep s P I A) {y : Nat} (hy : y ≤ 2000) (h : Q (some (.int (nI (gN s m y (sN s))))) (gset H x cck P I A)) : meth (d + 1) m_Polls_breadGiven [.ref (x + 43), .int m, .int (nI y), .ref (x + 13), .ref (x + P 1)] (gset H x cck P I A) Q X := by
  have hm := @mo_Polls_breadGiven (meth d) (meth_smono d)
  have h8 : sN s ≤ 8 := hs.2.1.1
  have eN : I (P 1) 0 = nI (sN s) := hr.2.2.1.1
  have h1 := pOk_1 hr.1
  have key : ∀ t, t ≤ sN s → gWp (gTab (tb_Polls_breadGiven (meth d))) Q X 6 [some (.ref (x + 43)), some (.int m), some (.int (nI y)), some (.ref (x + 13)), some (.ref (x + P 1)), some (.int (nI (gN s m y t))), some (.int (nI t))] [] (gset H x cck P I A) := by
    refine gdown ?_ ?_
    · exact wb_Polls_breadGiven_6 hm (o3 := 13) rfl h1 ⟨fun _ => h, fun c => absurd (by rw [eN]; exact nI_le (Nat.le_refl _) (by omega)) c⟩
    · intro t ht ih
      rw [← nI_1, gN] at ih
      have ev := vN_ok hs ht
      rw [cw_V hr ht] at ev
      refine wb_Polls_breadGiven_6 hm (o3 := 13) rfl h1 ⟨fun c => absurd c (by rw [eN]; exact nI_ge ht (by omega)), fun _ => ?_⟩
      rw [b_at1 (by omega), nI_clamp (by omega), show A (13 + 1) t = nI (vN s t) from ev.1, gmin_n (by omega) (by omega)]
      refine ⟨fun q => wb_Polls_breadGiven_43 hm ?_, fun q => ⟨vp_in_nI (by omega) (by omega), wb_Polls_breadGiven_43 hm ?_⟩⟩
      · rw [if_neg q] at ih
        rw [show nI (gN s m y t) + 0 = nI (gN s m y t + 0) from nI_add _ 0]
        exact ih
      · rw [if_pos (Classical.not_not.mp q)] at ih
        rw [show nI (gN s m y t) + nI (min y (vN s t)) = nI (gN s m y t + min y (vN s t)) from nI_add _ _]
        exact ih
  exact me_Polls_breadGiven (wb_Polls_breadGiven_0 hm (key 0 (Nat.zero_le _)))
theorem cs_breadBound (hs : sOk s) (hr : cRep s P I A) {n : Nat} (hn : n ≤ 9999) (h : Q (some (.int (nI (bm (fun y => gN s m y (sN s)) n 1023)))) (gset H x cck P I A)) : meth (d + 2) m_Polls_breadBound [.ref (x + 43), .int m, .int (nI n), .ref (x + 13), .ref (x + P 1)] (gset H x cck P I A) Q X := by
  have hm := @mo_Polls_breadBound (meth (d + 1)) (meth_smono (d + 1))
  have h8 : sN s ≤ 8 := hs.2.1.1
  have key : ∀ (j lo : Nat), j ≤ 10 → lo + 2 ^ j ≤ 1024 → gN s m lo (sN s) ≤ n → (∀ y, y ≤ 1023 → gN s m y (sN s) ≤ n → y < lo + 2 ^ j) → gWp (gTab (tb_Polls_breadBound (meth (d + 1)))) Q X 8 [some (.ref (x + 43)), some (.int m), some (.int (nI n)), some (.ref (x + 13)), some (.ref (x + P 1)), some (.int (nI lo)), some (.int (nI (2 ^ j / 2)))] [] (gset H x cck P I A) := by
    intro j
    induction j with
    | zero =>
      intro lo _ hl h1 h2
      refine wb_Polls_breadBound_8 hm ⟨fun _ => ?_, fun c => absurd (by decide) c⟩
      rw [bm_is (F := fun y => gN s m y (sN s)) (n := n) (z := lo) 1023 (by omega) h1 (fun y hy hf => by have := h2 y hy hf; omega)] at h
      exact h
    | succ j ih =>
      intro lo hj hl h1 h2
      have e2 : 2 ^ (j + 1) / 2 = 2 ^ j := by rw [Nat.pow_succ]; omega
      have e3 : 2 ^ (j + 1) = 2 ^ j + 2 ^ j := by rw [Nat.pow_succ]; omega
      have hpos : 1 ≤ 2 ^ j := Nat.one_le_two_pow
      rw [e2]
      have hg := gN_le (s := s) (m := m) (y := lo + 2 ^ j) (sN s)
      have hg2 : (lo + 2 ^ j) * sN s ≤ 1024 * 8 := Nat.mul_le_mul (by omega) h8
      refine wb_Polls_breadBound_8 hm ⟨fun c => ?_, fun _ => ?_⟩
      · rw [show (0 : Int32) = nI 0 from rfl, nI_leI (by omega) (by omega)] at c; omega
      · rw [show nI lo + nI (2 ^ j) = nI (lo + 2 ^ j) from nI_add _ _]
        refine cs_breadGiven hs hr (by omega) (wb_Polls_breadBound_28 hm ?_)
        rw [nI_ltI (by omega) (by omega)]
        have dv : nI (2 ^ j) / (2 : Int32) = nI (2 ^ j / 2) := nI_div (b := 2) (by omega) (by omega)
        refine ⟨fun c => wb_Polls_breadBound_38 hm ⟨by decide, ?_⟩, fun c => wb_Polls_breadBound_38 hm ⟨by decide, ?_⟩⟩
        · rw [dv, show nI lo + 0 = nI (lo + 0) from nI_add _ 0, Nat.add_zero]
          refine ih lo (by omega) (by omega) h1 (fun y hy hf => ?_)
          by_cases hlt : y < lo + 2 ^ j
          · exact hlt
          · have := gN_mono (s := s) (m := m) (show lo + 2 ^ j ≤ y by omega) (sN s); omega
        · rw [dv, show nI lo + nI (2 ^ j) = nI (lo + 2 ^ j) from nI_add _ _]
          exact ih (lo + 2 ^ j) (by omega) (by omega) (by omega) (fun y hy hf => by have := h2 y hy hf; omega)
  exact me_Polls_breadBound (wb_Polls_breadBound_0 hm (key 10 0 (by omega) (by decide) (by rw [gN_0]; omega) (fun y hy _ => by show y < 0 + 1024; omega)))
theorem rs_breadBy (hs : sOk s) (hr : rRep s I A) {y : Nat} (hy : y ≤ 2000) (h : Q (some (.int (nI (gN s m y (sN s))))) (gset H x mck P I A)) : meth (d + 1) m_R_breadBy [.ref (x + 0), .int m, .int (nI y)] (gset H x mck P I A) Q X := by
  have hm := @mo_R_breadBy (meth d) (meth_smono d)
  have h8 : sN s ≤ 8 := hs.2.1.1
  have eN : I 0 19 = nI (sN s) := hr.2.1.1
  have key : ∀ t, t ≤ sN s → gWp (gTab (tb_R_breadBy (meth d))) Q X 5 [some (.ref (x + 0)), some (.int m), some (.int (nI y)), some (.int (nI (gN s m y t))), some (.int (nI t))] [] (gset H x mck P I A) := by
    refine gdown ?_ ?_
    · exact wb_R_breadBy_5 hm ⟨fun _ => h, fun c => absurd (by rw [eN]; exact nI_le (Nat.le_refl _) (by omega)) c⟩
    · intro t ht ih
      rw [← nI_1, gN] at ih
      have ev := vN_ok hs ht
      rw [rw_V hr.2.2.1 ht] at ev
      have i28 : vp_in (nI t) 28 := vp_in_nI (by omega) (by omega)
      refine wb_R_breadBy_5 hm ⟨fun c => absurd c (by rw [eN]; exact nI_ge ht (by omega)), fun _ => ?_⟩
      rw [n_z, nI_clamp (by omega), ev.1, b_at (by omega), nI_leI (by omega) (by omega)]
      have g47 : ∀ v, v = nI (min y (vN s t)) → gWp (gTab (tb_R_breadBy (meth d))) Q X 47 [some (.ref (x + 0)), some (.int m), some (.int (nI y)), some (.int (nI (gN s m y t))), some (.int (nI t))] [.int v, .int (if bt m t = true then 1 else 0), .int (nI (gN s m y t))] (gset H x mck P I A) := by
        intro v hv
        refine wb_R_breadBy_47 hm ?_
        rw [hv]
        by_cases hb : bt m t = true
        · rw [if_pos hb] at ih ⊢
          rw [Int32.one_mul, show nI (gN s m y t) + nI (min y (vN s t)) = nI (gN s m y t + min y (vN s t)) from nI_add _ _]
          exact ih
        · rw [if_neg hb] at ih ⊢
          rw [Int32.zero_mul, show nI (gN s m y t) + 0 = nI (gN s m y t + 0) from nI_add _ 0]
          exact ih
      exact ⟨i28, fun q => g47 _ (by rw [Nat.min_eq_left q]), fun q => ⟨i28, g47 _ (by rw [Nat.min_eq_right (by omega)])⟩⟩
  exact me_R_breadBy (wb_R_breadBy_0 hm (key 0 (Nat.zero_le _)))
end BRC
section CA21
variable {s : ST}
def f_bread (t : Nat) (m : Int32) (n : Nat) (s : ST) : Int32 := if bt m t = true then nI (min (vN s t) (bm (fun y => gN s m y (sN s)) n 999)) else 0
theorem C_bread (hs : sOk s) {t m n : Int32} : cCall m_S_bread [.int t, .int m, .int n] (qT (isT s t) s (q1 (okM s m && inR n 0 9999) s (f_bread t.toNatClampNeg m n.toNatClampNeg s))) s := by
  intro d Q X H x P I A hr h
  have hm := @mo_S_bread (meth (d + 59)) (meth_smono (d + 59))
  refine me_S_bread (wb_S_bread_0 hm (sp_S_needTown hr (fun c => wb_S_bread_5 hm (pOk_1 hr.1) ?_) (fun c I' r' => ?_)))
  · rw [qT_t c] at h
    have no : (okM s m && inR n 0 9999) = false → gWp (gTab (tb_S_bread (meth (d + 59)))) Q X 32 [some (.ref (x + 0)), some (.int t), some (.int m), some (.int n)] [.ref (x + 0)] (gset H x cck P I A) := fun hf => by
      rw [q1_f hf] at h
      exact wb_S_bread_32 hm (wb_S_bread_33 hm (sp_S_need (c := false) hr (fun q => by cases q) (fun _ I' r' => h P I' A r')))
    refine cs_knows hs hr (wb_S_bread_14 hm ⟨fun c1 => no (by rw [b_i00 c1]; rfl), fun c1 => sp_S_within (wb_S_bread_25 hm ⟨fun c2 => no (by rw [b_i01 c1, b_i00 c2]; rfl), fun c2 => wb_S_bread_33 hm (sp_S_need (c := true) hr (fun _ => wb_S_bread_36 hm ?_) (fun q => by cases q))⟩)⟩)
    rw [q1_t (by rw [b_i01 c1, b_i01 c2]; rfl)] at h
    have h := h P I A hr
    obtain ⟨j, hj, h8, rfl⟩ := isT_n hs c
    obtain ⟨k, hk, rfl⟩ := inR_n (m := 9999) (by omega) (b_i01 c2)
    rw [nI_clamp (by omega), nI_clamp (by omega)] at h
    unfold f_bread at h
    have ev := vN_ok hs hj
    rw [cw_V hr hj] at ev
    rw [b_at0 (by omega), nI_clamp (by omega), ev.1]
    refine ⟨fun q => ⟨vp_in_nI (by omega) (by omega), cs_breadBound hs hr hk (wb_S_bread_72 hm ?_)⟩, fun q => ?_⟩
    · rw [if_pos (by cases hb : bt m j with | true => rfl | false => exact absurd hb q)] at h
      have l1 := bm_le (F := fun y => gN s m y (sN s)) (n := k) 1023
      have e1 := bm_ext (F := fun y => gN s m y (sN s)) (n := k) (fun y z hyz => gN_mono hyz (sN s)) (M := 999) 24
      have e1 : min 999 (bm (fun y => gN s m y (sN s)) k 1023) = bm (fun y => gN s m y (sN s)) k 999 := e1
      rw [gmin_n (by omega) (by omega), show min (vN s j) (bm (fun y => gN s m y (sN s)) k 1023) = min (vN s j) (bm (fun y => gN s m y (sN s)) k 999) by rw [← e1]; omega]
      exact h
    · rw [if_neg (by rw [Classical.not_not.mp q]; decide)] at h; exact h
  · rw [qT_f c] at h; exact h P I' A r'
theorem mid_n {a b : Nat} (h : a + b < 5000) : (nI a + nI b + 1) / (2 : Int32) = nI ((a + b + 1) / 2) := by
  rw [show nI a + nI b = nI (a + b) from nI_add _ _, nI_1]
  exact nI_div (b := 2) (by omega) (by omega)
theorem R_bread (hs : sOk s) {t m n : Int32} : rCall m_R_bread [.int t, .int m, .int n] kB (.int 0) (qT (isT s t) s (q1 (okM s m && inR n 0 9999) s (f_bread t.toNatClampNeg m n.toNatClampNeg s))) s := by
  intro d Q X H x P I A hr h
  have hm := @mo_R_bread (meth (d + 59)) (meth_smono (d + 59))
  have h8 : sN s ≤ 8 := hs.2.1.1
  obtain ⟨p1, p2⟩ := p256 hs
  have eN : upI I 0 0 0 0 19 = nI (sN s) := (rRep_0 (a := 0) hr).2.1.1
  refine me_R_bread (wb_R_bread_0 hm (sp_R_isTown (code := 1) upI_s (by omega) (rRep_0 hr) (fun c => wb_R_bread_11 hm ⟨fun q => absurd q (by decide), fun _ => ?_⟩) (fun c I' A' r' e => wb_R_bread_11 hm ⟨fun _ => wb_R_bread_53 hm ?_, fun q => absurd rfl q⟩)))
  · rw [qT_t c] at h
    have no : (okM s m && inR n 0 9999) = false → gWp (gTab (tb_R_bread (meth (d + 59)))) Q X 44 [some (.ref (x + 0)), some (.int t), some (.int m), some (.int n), none, none, none] [.ref (x + 0)] (gset H x mck P (upI I 0 0 0) A) := fun hf => by
      rw [q1_f hf] at h
      exact wb_R_bread_44 hm (wb_R_bread_45 hm (sp_R_may (c := false) (kind := 1) (code := 2) upI_s (by omega) (by omega) (rRep_0 hr) (fun q => by cases q) (fun _ I' A' r' e => wb_R_bread_50 hm ⟨fun q => absurd rfl q, fun _ => wb_R_bread_53 hm (h I' A' _ r' ⟨e, rfl⟩)⟩)))
    have hle : nI (2 ^ sN s) ≤ m ↔ nI (2 ^ sN s - 1) < m := by
      rw [Int32.le_iff_toInt_le, Int32.lt_iff_toInt_lt, nI_toInt (by omega), nI_toInt (by omega)]; omega
    have shl : ∀ k, k < 9 → (1 : Int32) <<< (nI k &&& 31) = nI (2 ^ k) := by decide +kernel
    rw [eN, shl _ (by omega), hle]
    have ok_f1 : m < 0 → okM s m = false := fun q => by unfold okM inR; exact decide_eq_false (fun z => z.1 q)
    have ok_f2 : nI (2 ^ sN s - 1) < m → okM s m = false := fun q => by unfold okM inR; exact decide_eq_false (fun z => z.2 q)
    refine ⟨fun q => no (by rw [ok_f1 q]; rfl), fun q1 => ⟨fun q => no (by rw [ok_f2 q]; rfl), fun q2 => ?_⟩⟩
    have okm : okM s m = true := by unfold okM inR; exact decide_eq_true ⟨q1, q2⟩
    refine sp_R_within (wb_R_bread_37 hm ⟨fun c2 => no (by rw [b_i00 c2, okm]; rfl), fun c2 => wb_R_bread_45 hm (sp_R_may (c := true) (kind := 1) (code := 2) upI_s (by omega) (by omega) (rRep_0 hr) (fun _ => wb_R_bread_50 hm ⟨fun _ => ?_, fun q => absurd (by decide) q⟩) (fun q => by cases q))⟩)
    rw [q1_t (by rw [b_i01 c2, okm]; rfl)] at h
    have h := fun v => h _ A v (rRep_0 (a := 0) hr)
    obtain ⟨j, hj, _, rfl⟩ := isT_n hs c
    obtain ⟨k, hk, rfl⟩ := inR_n (m := 9999) (by omega) (b_i01 c2)
    rw [nI_clamp (by omega), nI_clamp (by omega)] at h
    unfold f_bread at h
    have ev := vN_ok hs hj
    rw [rw_V hr.2.2.1 hj] at ev
    have loop : ∀ (f lo hi : Nat), hi - lo ≤ f → lo ≤ hi → hi ≤ 999 → gN s m lo (sN s) ≤ k → (∀ y, y ≤ 999 → gN s m y (sN s) ≤ k → y ≤ hi) → gWp (gTab (tb_R_bread (meth (d + 59)))) Q X 63 [some (.ref (x + 0)), some (.int (nI j)), some (.int m), some (.int (nI k)), some (.int (nI lo)), some (.int (nI hi)), none] [] (gset H x mck P (upI I 0 0 0) A) := by
      have stop : ∀ lo, lo ≤ 999 → gN s m lo (sN s) ≤ k → (∀ y, y ≤ 999 → gN s m y (sN s) ≤ k → y ≤ lo) → gWp (gTab (tb_R_bread (meth (d + 59)))) Q X 63 [some (.ref (x + 0)), some (.int (nI j)), some (.int m), some (.int (nI k)), some (.int (nI lo)), some (.int (nI lo)), none] [] (gset H x mck P (upI I 0 0 0) A) := by
        intro lo hl h1 h2
        refine wb_R_bread_63 hm ⟨fun _ => ?_, fun c => absurd (nI_le (Nat.le_refl _) (by omega)) c⟩
        rw [bm_is (F := fun y => gN s m y (sN s)) (n := k) (z := lo) 999 hl h1 h2] at h
        rw [b_at0 (by omega), n_z, nI_clamp (by omega), ev.1, nI_leI (by omega) (by omega)]
        have i28 : vp_in (nI j) 28 := vp_in_nI (by omega) (by omega)
        refine ⟨fun q => ?_, fun q => h _ ⟨upI_s, ?_⟩⟩
        · rw [if_pos (by cases hb : bt m j with | true => rfl | false => exact absurd hb q)] at h
          refine ⟨i28, fun q2 => wb_R_bread_144 hm (h _ ⟨upI_s, ?_⟩), fun q2 => ⟨i28, wb_R_bread_144 hm (h _ ⟨upI_s, ?_⟩)⟩⟩
          · rw [Nat.min_eq_right q2]
          · rw [Nat.min_eq_left (by omega)]
        · rw [if_neg (by rw [Classical.not_not.mp q]; decide)]
      intro f
      induction f with
      | zero =>
        intro lo hi hf h1 h2 h3 h4
        have e : hi = lo := by omega
        rw [e] at h4 h2 ⊢
        exact stop lo h2 h3 h4
      | succ f ih =>
        intro lo hi hf h1 h2 h3 h4
        by_cases e : hi = lo
        · rw [e] at h4 h2 ⊢
          exact stop lo h2 h3 h4
        · refine wb_R_bread_63 hm ⟨fun c => absurd c (nI_ge (by omega) (by omega)), fun _ => ⟨by decide, ?_⟩⟩
          rw [mid_n (by omega)]
          generalize hmid : (lo + hi + 1) / 2 = mid
          have hg := gN_le (s := s) (m := m) (y := mid) (sN s)
          have hg2 : mid * sN s ≤ 1024 * 8 := Nat.mul_le_mul (by omega) h8
          refine rs_breadBy hs (rRep_0 hr) (by omega) (wb_R_bread_88 hm ?_)
          rw [nI_ltI (by omega) (by omega)]
          refine ⟨fun c => wb_R_bread_105 hm ?_, fun c => wb_R_bread_105 hm ?_⟩
          · rw [show nI mid - 1 = nI (mid - 1) from nI_sub (b := 1) (by omega)]
            refine ih lo (mid - 1) (by omega) (by omega) (by omega) h3 (fun y hy hf => ?_)
            by_cases hlt : y < mid
            · omega
            · have := gN_mono (s := s) (m := m) (show mid ≤ y by omega) (sN s); omega
          · exact ih mid hi (by omega) (by omega) h2 (by omega) h4
    exact loop 999 0 999 (by omega) (by omega) (by omega) (by rw [gN_0]; omega) (fun y hy _ => hy)
  · rw [qT_f c] at h; exact h I' A' _ r' ⟨e, rfl⟩
end CA21
