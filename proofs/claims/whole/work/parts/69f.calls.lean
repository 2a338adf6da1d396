/-! ===== calls: closest, safest, lightest, given ===== -/
def pick (lt : Nat → Nat → Bool) : Nat → Option Nat
  | 0 => none
  | k + 1 => match pick lt k with
    | none => some k
    | some b => if lt k b = true then some k else some b
theorem pick_lt {lt : Nat → Nat → Bool} : ∀ {k b : Nat}, pick lt k = some b → b < k
  | 0, b, h => by cases h
  | k + 1, b, h => by
    unfold pick at h
    cases hp : pick lt k with
    | none => rw [hp] at h; cases h; omega
    | some c =>
      rw [hp] at h
      have := pick_lt hp
      dsimp only at h
      by_cases hl : lt k c = true
      · rw [if_pos hl] at h; cases h; omega
      · rw [if_neg hl] at h; cases h; omega
theorem pick_s {lt : Nat → Nat → Bool} {k b : Nat} (h : pick lt k = some b) : pick lt (k + 1) = if lt k b = true then some k else some b := by
  rw [pick, h]
theorem pick_0 {lt : Nat → Nat → Bool} {k : Nat} (h : pick lt k = none) : pick lt (k + 1) = some k := by
  rw [pick, h]
theorem pick_n {lt : Nat → Nat → Bool} {k : Nat} (h : pick lt k = none) : k = 0 := by
  cases k with
  | zero => rfl
  | succ k =>
    cases hp : pick lt k with
    | none => rw [pick_0 hp] at h; cases h
    | some b =>
      rw [pick_s hp] at h
      by_cases hl : lt k b = true
      · rw [if_pos hl] at h; cases h
      · rw [if_neg hl] at h; cases h
def oBest (b : Option Nat) (a : Int32) (f : Nat → Int32) : Int32 := match b with
  | none => -1
  | some t => if a = 0 then nI t else f t
section CA6
variable {s : ST}
def apW (w : WS) (t : Nat) : Int32 := gabs (2 * wB w t - wV w t)
def ltN (w : WS) (t b : Nat) : Bool := !decide (apW w b ≤ apW w t)
def ltF (w : WS) (t b : Nat) : Bool := !decide (apW w t ≤ apW w b)
def ltL (w : WS) (C : Nat → Int32) (t b : Nat) : Bool := !decide (wV w b * C t ≤ wV w t * C b)
theorem bnot_t {p : Prop} [Decidable p] (h : ¬ p) : (!decide p) = true := by rw [decide_eq_false h]; rfl
theorem bnot_f {p : Prop} [Decidable p] (h : p) : ¬ (!decide p) = true := by rw [decide_eq_true h]; decide
section IN4
variable {d : Nat} {Q : gQ} {X : gX} {H : gH} {x : Nat} {P : Nat → Nat} {I A : Nat → Nat → Int32}
theorem cs_apart (hr : cRep s P I A) (h8 : sN s ≤ 8) {t : Nat} (ht : t < sN s) (h : Q (some (.int (apW (sW s) t))) (gset H x cck P I A)) : meth (d + 1) m_World_apart [.ref (x + 13), .int (nI t)] (gset H x cck P I A) Q X := by
  refine sp_World_apart (o := 13) rfl (vp_in_nI (by omega) (by omega)) ?_
  rw [nI_clamp (by omega)]
  unfold apW at h
  rw [cw_V hr ht, cw_B hr ht] at h
  exact h
theorem cs_nearest (hs : sOk s) (hr : cRep s P I A) (h : Q (some (.int (oI (pick (ltN (sW s)) (sN s))))) (gset H x cck P I A)) : meth (d + 2) m_Polls_nearestToHalf [.ref (x + 43), .ref (x + 13), .ref (x + P 1)] (gset H x cck P I A) Q X := by
  have hm := @mo_Polls_nearestToHalf (meth (d + 1)) (meth_smono (d + 1))
  have hl := cRep_land hs hr
  have h8 := hl.2.2.1
  refine me_Polls_nearestToHalf (wb_Polls_nearestToHalf_0 hm ?_)
  have key : ∀ k, k ≤ sN s → gWp (gTab (tb_Polls_nearestToHalf (meth (d + 1)))) Q X 5 [some (.ref (x + 43)), some (.ref (x + 13)), some (.ref (x + P 1)), some (.int (oI (pick (ltN (sW s)) k))), some (.int (nI k))] [] (gset H x cck P I A) := by
    refine gdown ?_ ?_
    · exact wb_Polls_nearestToHalf_5 hm rfl hl.1 ⟨fun _ => h, fun c => absurd (by rw [hl.2.1]; exact nI_le (Nat.le_refl _) (by omega)) c⟩
    · intro k hk ih
      refine wb_Polls_nearestToHalf_5 hm rfl hl.1 ⟨fun c => absurd c (by rw [hl.2.1]; exact nI_ge hk (by omega)), fun _ => ?_⟩
      cases hp : pick (ltN (sW s)) k with
      | none =>
        rw [pick_0 hp] at ih
        refine ⟨fun _ => wb_Polls_nearestToHalf_33 hm (wb_Polls_nearestToHalf_36 hm ?_), fun c => absurd rfl c⟩
        rw [nI_1]; exact ih
      | some b =>
        have hb := pick_lt hp
        rw [pick_s hp] at ih
        refine ⟨fun c => absurd c (nI_nm1 (by omega)), fun _ => cs_apart hr h8 hk (wb_Polls_nearestToHalf_25 hm rfl (cs_apart hr h8 (by omega) (wb_Polls_nearestToHalf_30 hm ⟨fun c => wb_Polls_nearestToHalf_36 hm ?_, fun c => wb_Polls_nearestToHalf_33 hm (wb_Polls_nearestToHalf_36 hm ?_)⟩)))⟩
        · rw [if_neg (show ¬ ltN (sW s) k b = true from bnot_f c)] at ih; rw [nI_1]; exact ih
        · rw [if_pos (show ltN (sW s) k b = true from bnot_t c)] at ih; rw [nI_1]; exact ih
  exact key 0 (Nat.zero_le _)
theorem cs_farthest (hs : sOk s) (hr : cRep s P I A) (h : Q (some (.int (oI (pick (ltF (sW s)) (sN s))))) (gset H x cck P I A)) : meth (d + 2) m_Polls_farthestFromHalf [.ref (x + 43), .ref (x + 13), .ref (x + P 1)] (gset H x cck P I A) Q X := by
  have hm := @mo_Polls_farthestFromHalf (meth (d + 1)) (meth_smono (d + 1))
  have hl := cRep_land hs hr
  have h8 := hl.2.2.1
  refine me_Polls_farthestFromHalf (wb_Polls_farthestFromHalf_0 hm ?_)
  have key : ∀ k, k ≤ sN s → gWp (gTab (tb_Polls_farthestFromHalf (meth (d + 1)))) Q X 5 [some (.ref (x + 43)), some (.ref (x + 13)), some (.ref (x + P 1)), some (.int (oI (pick (ltF (sW s)) k))), some (.int (nI k))] [] (gset H x cck P I A) := by
    refine gdown ?_ ?_
    · exact wb_Polls_farthestFromHalf_5 hm rfl hl.1 ⟨fun _ => h, fun c => absurd (by rw [hl.2.1]; exact nI_le (Nat.le_refl _) (by omega)) c⟩
    · intro k hk ih
      refine wb_Polls_farthestFromHalf_5 hm rfl hl.1 ⟨fun c => absurd c (by rw [hl.2.1]; exact nI_ge hk (by omega)), fun _ => ?_⟩
      cases hp : pick (ltF (sW s)) k with
      | none =>
        rw [pick_0 hp] at ih
        refine ⟨fun _ => wb_Polls_farthestFromHalf_33 hm (wb_Polls_farthestFromHalf_36 hm ?_), fun c => absurd rfl c⟩
        rw [nI_1]; exact ih
      | some b =>
        have hb := pick_lt hp
        rw [pick_s hp] at ih
        refine ⟨fun c => absurd c (nI_nm1 (by omega)), fun _ => cs_apart hr h8 hk (wb_Polls_farthestFromHalf_25 hm rfl (cs_apart hr h8 (by omega) (wb_Polls_farthestFromHalf_30 hm ⟨fun c => wb_Polls_farthestFromHalf_36 hm ?_, fun c => wb_Polls_farthestFromHalf_33 hm (wb_Polls_farthestFromHalf_36 hm ?_)⟩)))⟩
        · rw [if_neg (show ¬ ltF (sW s) k b = true from bnot_f c)] at ih; rw [nI_1]; exact ih
        · rw [if_pos (show ltF (sW s) k b = true from bnot_t c)] at ih; rw [nI_1]; exact ih
  exact key 0 (Nat.zero_le _)
theorem cs_fewest (hs : sOk s) (hr : cRep s P I A) (h : Q (some (.int (oI (pick (ltL (sW s) (sC s)) (sN s))))) (gset H x cck P I A)) : meth (d + 2) m_Polls_fewestBySeat [.ref (x + 43), .ref (x + 13), .ref (x + P 1)] (gset H x cck P I A) Q X := by
  have hm := @mo_Polls_fewestBySeat (meth (d + 1)) (meth_smono (d + 1))
  have hl := cRep_land hs hr
  have h8 := hl.2.2.1
  refine me_Polls_fewestBySeat (wb_Polls_fewestBySeat_0 hm ?_)
  have key : ∀ k, k ≤ sN s → gWp (gTab (tb_Polls_fewestBySeat (meth (d + 1)))) Q X 5 [some (.ref (x + 43)), some (.ref (x + 13)), some (.ref (x + P 1)), some (.int (oI (pick (ltL (sW s) (sC s)) k))), some (.int (nI k))] [] (gset H x cck P I A) := by
    refine gdown ?_ ?_
    · exact wb_Polls_fewestBySeat_5 hm rfl hl.1 ⟨fun _ => h, fun c => absurd (by rw [hl.2.1]; exact nI_le (Nat.le_refl _) (by omega)) c⟩
    · intro k hk ih
      refine wb_Polls_fewestBySeat_5 hm rfl hl.1 ⟨fun c => absurd c (by rw [hl.2.1]; exact nI_ge hk (by omega)), fun _ => ?_⟩
      cases hp : pick (ltL (sW s) (sC s)) k with
      | none =>
        rw [pick_0 hp] at ih
        refine ⟨fun _ => wb_Polls_fewestBySeat_50 hm (wb_Polls_fewestBySeat_53 hm ?_), fun c => absurd rfl c⟩
        rw [nI_1]; exact ih
      | some b =>
        have hb := pick_lt hp
        rw [pick_s hp] at ih
        rw [show oI (some b) = nI b from rfl]
        have ik : vp_in (nI k) 8 := vp_in_nI (by omega) (by omega)
        have ib : vp_in (nI b) 8 := vp_in_nI (by omega) (by omega)
        refine ⟨fun c => absurd c (nI_nm1 (by omega)), fun _ => ⟨ik, ib, ib, ik, ?_⟩⟩
        show (A (13 + 1) (nI b).toNatClampNeg * A (P 1 + 1) (nI k).toNatClampNeg ≤ A (13 + 1) (nI k).toNatClampNeg * A (P 1 + 1) (nI b).toNatClampNeg → _) ∧ _
        rw [nI_clamp (by omega), nI_clamp (by omega), ← cw_V hr hk, ← cw_V hr (show b < sN s by omega), cl_C hr hk, cl_C hr (show b < sN s by omega)]
        refine ⟨fun c => wb_Polls_fewestBySeat_53 hm ?_, fun c => wb_Polls_fewestBySeat_50 hm (wb_Polls_fewestBySeat_53 hm ?_)⟩
        · rw [if_neg (show ¬ ltL (sW s) (sC s) k b = true from bnot_f c)] at ih; rw [nI_1]; exact ih
        · rw [if_pos (show ltL (sW s) (sC s) k b = true from bnot_t c)] at ih; rw [nI_1]; exact ih
  exact key 0 (Nat.zero_le _)
end IN4
theorem C_closest (hs : sOk s) {a : Int32} : cCall m_S_closest [.int a] (q1 (inR a 0 1) s (oBest (pick (ltN (sW s)) (sN s)) a (apW (sW s)))) s := by
  intro d Q X H x P I A hr h
  have hm := @mo_S_closest (meth (d + 59)) (meth_smono (d + 59))
  have h8 : sN s ≤ 8 := hs.2.1.1
  refine me_S_closest (wb_S_closest_0 hm (sp_S_within (wb_S_closest_7 hm (sp_S_need hr (fun c => wb_S_closest_10 hm (cs_nearest hs hr (wb_S_closest_25 hm ?_))) (fun c I' r' => ?_)))))
  · rw [q1_t c] at h
    have h := h P I A hr
    cases hp : pick (ltN (sW s)) (sN s) with
    | none => rw [hp] at h; exact ⟨fun _ => wb_S_closest_35 hm (wb_S_closest_47 hm h), fun q => absurd rfl q⟩
    | some b =>
      rw [hp] at h
      have hb := pick_lt hp
      unfold oBest at h
      dsimp only at h
      refine ⟨fun q => absurd q (nI_nm1 (by omega)), fun _ => ⟨fun q => cs_apart hr h8 hb (wb_S_closest_47 hm ?_), fun q => wb_S_closest_35 hm (wb_S_closest_47 hm ?_)⟩⟩
      · rw [if_neg q] at h; exact h
      · rw [if_pos (Classical.not_not.mp q)] at h; exact h
  · rw [q1_f c] at h; exact h P I' A r'
theorem C_safest (hs : sOk s) {a : Int32} : cCall m_S_safest [.int a] (q1 (inR a 0 1) s (oBest (pick (ltF (sW s)) (sN s)) a (apW (sW s)))) s := by
  intro d Q X H x P I A hr h
  have hm := @mo_S_safest (meth (d + 59)) (meth_smono (d + 59))
  have h8 : sN s ≤ 8 := hs.2.1.1
  refine me_S_safest (wb_S_safest_0 hm (sp_S_within (wb_S_safest_7 hm (sp_S_need hr (fun c => wb_S_safest_10 hm (cs_farthest hs hr (wb_S_safest_25 hm ?_))) (fun c I' r' => ?_)))))
  · rw [q1_t c] at h
    have h := h P I A hr
    cases hp : pick (ltF (sW s)) (sN s) with
    | none => rw [hp] at h; exact ⟨fun _ => wb_S_safest_35 hm (wb_S_safest_47 hm h), fun q => absurd rfl q⟩
    | some b =>
      rw [hp] at h
      have hb := pick_lt hp
      unfold oBest at h
      dsimp only at h
      refine ⟨fun q => absurd q (nI_nm1 (by omega)), fun _ => ⟨fun q => cs_apart hr h8 hb (wb_S_safest_47 hm ?_), fun q => wb_S_safest_35 hm (wb_S_safest_47 hm ?_)⟩⟩
      · rw [if_neg q] at h; exact h
      · rw [if_pos (Classical.not_not.mp q)] at h; exact h
  · rw [q1_f c] at h; exact h P I' A r'
theorem C_lightest (hs : sOk s) {a : Int32} : cCall m_S_lightest [.int a] (q1 (inR a 0 1) s (oBest (pick (ltL (sW s) (sC s)) (sN s)) a (fun t => wV (sW s) t / sC s t))) s := by
  intro d Q X H x P I A hr h
  have hm := @mo_S_lightest (meth (d + 59)) (meth_smono (d + 59))
  have h8 : sN s ≤ 8 := hs.2.1.1
  have hl := cRep_land hs hr
  refine me_S_lightest (wb_S_lightest_0 hm (sp_S_within (wb_S_lightest_7 hm (sp_S_need hr (fun c => wb_S_lightest_10 hm (cs_fewest hs hr (wb_S_lightest_25 hm ?_))) (fun c I' r' => ?_)))))
  · rw [q1_t c] at h
    have h := h P I A hr
    cases hp : pick (ltL (sW s) (sC s)) (sN s) with
    | none => rw [hp] at h; exact ⟨fun _ => wb_S_lightest_35 hm (wb_S_lightest_55 hm h), fun q => absurd rfl q⟩
    | some b =>
      rw [hp] at h
      have hb := pick_lt hp
      unfold oBest at h
      dsimp only at h
      refine ⟨fun q => absurd q (nI_nm1 (by omega)), fun _ => ⟨fun q => ?_, fun q => wb_S_lightest_35 hm (wb_S_lightest_55 hm ?_)⟩⟩
      · rw [if_neg q] at h
        have hm2 := @mo_Polls_votersBySeat (meth (d + 58)) (meth_smono (d + 58))
        have iv : vp_in (nI b) 8 := vp_in_nI (by omega) (by omega)
        refine me_Polls_votersBySeat (wb_Polls_votersBySeat_0 hm2 (o2 := 13) rfl hl.1 ⟨iv, ?_⟩)
        obtain ⟨cc, c1, c9, ec⟩ := hl.2.2.2.1 b hb
        rw [show oI (some b) = nI b from rfl, nI_clamp (by omega), ec]
        refine ⟨fun _ => ⟨iv, nI_ne0 (by omega) (by omega), wb_Polls_votersBySeat_27 hm2 (wb_S_lightest_55 hm ?_)⟩, fun z => absurd (nI_le (a := 1) c1 (by omega)) z⟩
        rw [← ec, cl_C hr hb, ← cw_V hr hb]
        exact h
      · rw [if_pos (Classical.not_not.mp q)] at h; exact h
  · rw [q1_f c] at h; exact h P I' A r'
theorem ap_r {u v : Int32} (h : 0 ≤ 2 * u - v) : gabs (2 * u - v) = 2 * u - v := by unfold gabs; rw [if_pos h]
theorem ap_n {u v : Int32} (h : ¬ 0 ≤ 2 * u - v) : gabs (2 * u - v) = -(2 * u - v) := by unfold gabs; rw [if_neg h, Int32.zero_sub]
theorem ap_pos (hs : sOk s) {t : Nat} (ht : t < sN s) : ∃ k, k ≤ 3000 ∧ apW (sW s) t = nI k := by
  obtain ⟨v, b, v1, v9, bv, e1, e2⟩ := sW_ok hs ht
  unfold apW
  rw [e1, e2, n_2]
  have ei : (nI (2 * b) - nI v).toInt = (2 * b : Int) - v := by
    rw [_root_.Jvm.Kit.i32_sub (by rw [nI_toInt (by omega), nI_toInt (by omega)]; omega) (by rw [nI_toInt (by omega), nI_toInt (by omega)]; omega), nI_toInt (by omega), nI_toInt (by omega)]
    omega
  by_cases h : v ≤ 2 * b
  · rw [show gabs (nI (2 * b) - nI v) = nI (2 * b - v) by
      rw [nI_sub h]; unfold gabs; rw [if_pos (nI_pos' (by omega))]]
    exact ⟨_, by omega, rfl⟩
  · refine ⟨v - 2 * b, by omega, ?_⟩
    unfold gabs
    rw [if_neg (by rw [Int32.le_iff_toInt_le, ei]; show ¬ (0 : Int) ≤ _; omega), ← nI_sub (by omega), Int32.zero_sub, Int32.neg_sub]
/-- the reference's loops -/
theorem R_closest (hs : sOk s) {a : Int32} : rCall m_R_closest [.int a] kA (.int 0) (q1 (inR a 0 1) s (oBest (pick (ltN (sW s)) (sN s)) a (apW (sW s)))) s := by
  intro d Q X H x P I A hr h
  have hm := @mo_R_closest (meth (d + 59)) (meth_smono (d + 59))
  have h8 : sN s ≤ 8 := hs.2.1.1
  refine me_R_closest (wb_R_closest_0 hm (sp_R_within (wb_R_closest_12 hm (sp_R_may (kind := 1) (code := 1) upI_s (by omega) (by omega) (rRep_0 hr) (fun c => wb_R_closest_17 hm ⟨fun _ => ?_, fun q => absurd (by decide) q⟩) (fun c I' A' r' e => wb_R_closest_17 hm ⟨fun q => absurd rfl q, fun _ => ?_⟩)))))
  · rw [q1_t c] at h
    have h := fun v hv => h _ A (.int v) (rRep_0 (a := 0) hr) ⟨upI_s, congrArg Value.int hv⟩
    have h19 : upI I 0 0 0 0 19 = nI (sN s) := (rRep_0 (a := 0) hr).2.1.1
    have e17 := hr.2.2.1
    have key : ∀ k, k ≤ sN s → gWp (gTab (tb_R_closest (meth (d + 59)))) Q X 29 [some (.ref (x + 0)), some (.int a), some (.int (oI (pick (ltN (sW s)) k))), some (.int (oBest (pick (ltN (sW s)) k) 1 (apW (sW s)))), some (.int (nI k)), none] [] (gset H x mck P (upI I 0 0 0) A) := by
      refine gdown ?_ ?_
      · refine wb_R_closest_29 hm ⟨fun _ => ⟨fun q => wb_R_closest_112 hm (h _ ?_), fun q => wb_R_closest_112 hm (h _ ?_)⟩, fun c => absurd (by rw [h19]; exact nI_le (Nat.le_refl _) (by omega)) c⟩
        · cases pick (ltN (sW s)) (sN s) with
          | none => rfl
          | some b => unfold oBest; dsimp only; rw [if_neg (by decide), if_neg q]
        · cases pick (ltN (sW s)) (sN s) with
          | none => rfl
          | some b => unfold oBest oI; dsimp only; rw [if_pos (Classical.not_not.mp q)]
      · intro k hk ih
        refine wb_R_closest_29 hm ⟨fun c => absurd c (by rw [h19]; exact nI_ge hk (by omega)), fun _ => ?_⟩
        rw [n_8, n_z, nI_clamp (by omega), nI_clamp (by omega), ← rw_V e17 hk, ← rw_B e17 hk]
        refine ⟨vp_in_nI (by omega) (by omega), vp_in_nI (by omega) (by omega), ?_⟩
        have go : ∀ v5 z, z = apW (sW s) k → gWp (gTab (tb_R_closest (meth (d + 59)))) Q X 75 [some (.ref (x + 0)), some (.int a), some (.int (oI (pick (ltN (sW s)) k))), some (.int (oBest (pick (ltN (sW s)) k) 1 (apW (sW s)))), some (.int (nI k)), some (.int v5)] [.int z] (gset H x mck P (upI I 0 0 0) A) := by
          intro v5 z hz
          rw [hz]
          cases hp : pick (ltN (sW s)) k with
          | none =>
            rw [pick_0 hp] at ih
            refine wb_R_closest_75 hm ⟨fun _ => wb_R_closest_91 hm (wb_R_closest_97 hm ?_), fun c => absurd rfl c⟩
            rw [nI_1]; exact ih
          | some b =>
            have hb := pick_lt hp
            rw [pick_s hp] at ih
            refine wb_R_closest_75 hm ⟨fun c => absurd c (nI_nm1 (by omega)), fun _ => ⟨fun c => wb_R_closest_91 hm (wb_R_closest_97 hm ?_), fun c => wb_R_closest_97 hm ?_⟩⟩
            · have c : apW (sW s) k < apW (sW s) b := c
              rw [if_pos (show ltN (sW s) k b = true from bnot_t (Int32.not_le.mpr c))] at ih; rw [nI_1]; exact ih
            · have c : ¬ apW (sW s) k < apW (sW s) b := c
              rw [if_neg (show ¬ ltN (sW s) k b = true from bnot_f (Int32.not_lt.mp c))] at ih; rw [nI_1]; exact ih
        exact ⟨fun c => go _ _ (ap_r c).symm, fun c => go _ _ (ap_n c).symm⟩
    exact key 0 (Nat.zero_le _)
  · rw [q1_f c] at h; exact h I' A' _ r' ⟨e, rfl⟩
theorem R_safest (hs : sOk s) {a : Int32} : rCall m_R_safest [.int a] kA (.int 0) (q1 (inR a 0 1) s (oBest (pick (ltF (sW s)) (sN s)) a (apW (sW s)))) s := by
  intro d Q X H x P I A hr h
  have hm := @mo_R_safest (meth (d + 59)) (meth_smono (d + 59))
  have h8 : sN s ≤ 8 := hs.2.1.1
  refine me_R_safest (wb_R_safest_0 hm (sp_R_within (wb_R_safest_12 hm (sp_R_may (kind := 1) (code := 1) upI_s (by omega) (by omega) (rRep_0 hr) (fun c => wb_R_safest_17 hm ⟨fun _ => ?_, fun q => absurd (by decide) q⟩) (fun c I' A' r' e => wb_R_safest_17 hm ⟨fun q => absurd rfl q, fun _ => ?_⟩)))))
  · rw [q1_t c] at h
    have h := fun v hv => h _ A (.int v) (rRep_0 (a := 0) hr) ⟨upI_s, congrArg Value.int hv⟩
    have h19 : upI I 0 0 0 0 19 = nI (sN s) := (rRep_0 (a := 0) hr).2.1.1
    have e17 := hr.2.2.1
    have key : ∀ k, k ≤ sN s → gWp (gTab (tb_R_safest (meth (d + 59)))) Q X 29 [some (.ref (x + 0)), some (.int a), some (.int (oI (pick (ltF (sW s)) k))), some (.int (oBest (pick (ltF (sW s)) k) 1 (apW (sW s)))), some (.int (nI k)), none] [] (gset H x mck P (upI I 0 0 0) A) := by
      refine gdown ?_ ?_
      · refine wb_R_safest_29 hm ⟨fun _ => ⟨fun q => wb_R_safest_107 hm (h _ ?_), fun q => wb_R_safest_107 hm (h _ ?_)⟩, fun c => absurd (by rw [h19]; exact nI_le (Nat.le_refl _) (by omega)) c⟩
        · cases pick (ltF (sW s)) (sN s) with
          | none => rfl
          | some b => unfold oBest; dsimp only; rw [if_neg (by decide), if_neg q]
        · cases pick (ltF (sW s)) (sN s) with
          | none => rfl
          | some b => unfold oBest oI; dsimp only; rw [if_pos (Classical.not_not.mp q)]
      · intro k hk ih
        refine wb_R_safest_29 hm ⟨fun c => absurd c (by rw [h19]; exact nI_ge hk (by omega)), fun _ => ?_⟩
        rw [n_8, n_z, nI_clamp (by omega), nI_clamp (by omega), ← rw_V e17 hk, ← rw_B e17 hk]
        refine ⟨vp_in_nI (by omega) (by omega), vp_in_nI (by omega) (by omega), ?_⟩
        have go : ∀ v5 z, z = apW (sW s) k → gWp (gTab (tb_R_safest (meth (d + 59)))) Q X 75 [some (.ref (x + 0)), some (.int a), some (.int (oI (pick (ltF (sW s)) k))), some (.int (oBest (pick (ltF (sW s)) k) 1 (apW (sW s)))), some (.int (nI k)), some (.int v5)] [.int z] (gset H x mck P (upI I 0 0 0) A) := by
          intro v5 z hz
          rw [hz]
          cases hp : pick (ltF (sW s)) k with
          | none =>
            rw [pick_0 hp] at ih
            refine wb_R_safest_75 hm ⟨fun _ => wb_R_safest_92 hm ?_, fun c => absurd ?_ c⟩
            · rw [nI_1]; exact ih
            · obtain ⟨k', hk', ek⟩ := ap_pos hs hk
              rw [ek]
              show (-1 : Int32) < nI k'
              rw [Int32.lt_iff_toInt_lt, nI_toInt (by omega), show (-1 : Int32).toInt = -1 from rfl]
              omega
          | some b =>
            have hb := pick_lt hp
            rw [pick_s hp] at ih
            refine wb_R_safest_75 hm ⟨fun c => wb_R_safest_92 hm ?_, fun c => wb_R_safest_92 hm ?_⟩
            · have c : apW (sW s) b < apW (sW s) k := c
              rw [if_pos (show ltF (sW s) k b = true from bnot_t (Int32.not_le.mpr c))] at ih; rw [nI_1]; exact ih
            · have c : ¬ apW (sW s) b < apW (sW s) k := c
              rw [if_neg (show ¬ ltF (sW s) k b = true from bnot_f (Int32.not_lt.mp c))] at ih; rw [nI_1]; exact ih
        exact ⟨fun c => go _ _ (ap_r c).symm, fun c => go _ _ (ap_n c).symm⟩
    exact key 0 (Nat.zero_le _)
  · rw [q1_f c] at h; exact h I' A' _ r' ⟨e, rfl⟩
theorem R_lightest (hs : sOk s) {a : Int32} : rCall m_R_lightest [.int a] kA (.int 0) (q1 (inR a 0 1) s (oBest (pick (ltL (sW s) (sC s)) (sN s)) a (fun t => wV (sW s) t / sC s t))) s := by
  intro d Q X H x P I A hr h
  have hm := @mo_R_lightest (meth (d + 59)) (meth_smono (d + 59))
  have h8 : sN s ≤ 8 := hs.2.1.1
  refine me_R_lightest (wb_R_lightest_0 hm (sp_R_within (wb_R_lightest_12 hm (sp_R_may (kind := 1) (code := 1) upI_s (by omega) (by omega) (rRep_0 hr) (fun c => wb_R_lightest_17 hm ⟨fun _ => ?_, fun q => absurd (by decide) q⟩) (fun c I' A' r' e => wb_R_lightest_17 hm ⟨fun q => absurd rfl q, fun _ => ?_⟩)))))
  · rw [q1_t c] at h
    have h := fun v hv => h _ A (.int v) (rRep_0 (a := 0) hr) ⟨upI_s, congrArg Value.int hv⟩
    have h19 : upI I 0 0 0 0 19 = nI (sN s) := (rRep_0 (a := 0) hr).2.1.1
    have e17 := hr.2.2.1
    have e7 : ∀ t, t < sN s → A 7 t = sC s t := fun t ht => hr.2.1.2.2.1 t ht
    have key : ∀ k, k ≤ sN s → gWp (gTab (tb_R_lightest (meth (d + 59)))) Q X 26 [some (.ref (x + 0)), some (.int a), some (.int (oI (pick (ltL (sW s) (sC s)) k))), some (.int (nI k))] [] (gset H x mck P (upI I 0 0 0) A) := by
      refine gdown ?_ ?_
      · cases hp : pick (ltL (sW s) (sC s)) (sN s) with
        | none =>
          rw [hp] at h
          exact wb_R_lightest_26 hm ⟨fun _ => ⟨fun _ => wb_R_lightest_89 hm (wb_R_lightest_108 hm (h _ rfl)), fun _ => ⟨fun q => absurd rfl q, fun _ => wb_R_lightest_89 hm (wb_R_lightest_108 hm (h _ rfl))⟩⟩, fun c => absurd (by rw [h19]; exact nI_le (Nat.le_refl _) (by omega)) c⟩
        | some b =>
          rw [hp] at h
          have hb := pick_lt hp
          unfold oBest at h
          dsimp only at h
          refine wb_R_lightest_26 hm ⟨fun _ => ⟨fun q => wb_R_lightest_89 hm (wb_R_lightest_108 hm (h _ ?_)), fun q => ⟨fun _ => ?_, fun q2 => absurd (nI_nm1 (by omega)) q2⟩⟩, fun c => absurd (by rw [h19]; exact nI_le (Nat.le_refl _) (by omega)) c⟩
          · rw [if_pos q]; rfl
          · show vp_in (0 + nI b) 28 ∧ vp_in (nI b) 8 ∧ ¬ A 7 (nI b).toNatClampNeg = 0 ∧ gWp _ Q X 108 _ [.int (A 17 (0 + nI b).toNatClampNeg / A 7 (nI b).toNatClampNeg)] _
            rw [n_z, nI_clamp (by omega), e7 b hb, ← rw_V e17 hb]
            obtain ⟨z1, z2, z3, z4, z5⟩ := hs.2.1.2.2.2.1 b hb
            refine ⟨vp_in_nI (by omega) (by omega), vp_in_nI (by omega) (by omega), nI_ne0 (by omega) (by omega), wb_R_lightest_108 hm (h _ ?_)⟩
            rw [if_neg q]
      · intro k hk ih
        refine wb_R_lightest_26 hm ⟨fun c => absurd c (by rw [h19]; exact nI_ge hk (by omega)), fun _ => ?_⟩
        cases hp : pick (ltL (sW s) (sC s)) k with
        | none =>
          rw [pick_0 hp] at ih
          refine ⟨fun _ => wb_R_lightest_72 hm (wb_R_lightest_74 hm ?_), fun c => absurd rfl c⟩
          rw [nI_1]; exact ih
        | some b =>
          have hb := pick_lt hp
          rw [pick_s hp] at ih
          rw [show oI (some b) = nI b from rfl]
          refine ⟨fun c => absurd c (nI_nm1 (by omega)), fun _ => ?_⟩
          show vp_in (0 + nI k) 28 ∧ vp_in (nI b) 8 ∧ vp_in (0 + nI b) 28 ∧ vp_in (nI k) 8 ∧ ((A 17 (0 + nI b).toNatClampNeg * A 7 (nI k).toNatClampNeg ≤ A 17 (0 + nI k).toNatClampNeg * A 7 (nI b).toNatClampNeg → _) ∧ _)
          rw [n_z, n_z, nI_clamp (by omega), nI_clamp (by omega), e7 b (by omega), e7 k hk, ← rw_V e17 hk, ← rw_V e17 (show b < sN s by omega)]
          refine ⟨vp_in_nI (by omega) (by omega), vp_in_nI (by omega) (by omega), vp_in_nI (by omega) (by omega), vp_in_nI (by omega) (by omega), fun c => wb_R_lightest_74 hm ?_, fun c => wb_R_lightest_72 hm (wb_R_lightest_74 hm ?_)⟩
          · rw [if_neg (show ¬ ltL (sW s) (sC s) k b = true from bnot_f c)] at ih; rw [nI_1]; exact ih
          · rw [if_pos (show ltL (sW s) (sC s) k b = true from bnot_t c)] at ih; rw [nI_1]; exact ih
    exact key 0 (Nat.zero_le _)
  · rw [q1_f c] at h; exact h I' A' _ r' ⟨e, rfl⟩
end CA6
