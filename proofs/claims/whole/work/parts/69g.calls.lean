/-! ===== calls: given, feed ===== -/
section CA7
variable {s : ST}
def gbst (V g : Nat → Int32) : Nat → Nat
  | 0 => 0
  | k + 1 => if k = 0 then 0 else if V k * (g (gbst V g k) + 1) ≤ V (gbst V g k) * (g k + 1) then gbst V g k else k
theorem gbst_lt (V g : Nat → Int32) : ∀ k, 1 ≤ k → gbst V g k < k
  | 0, h => by omega
  | k + 1, _ => by
    unfold gbst
    by_cases h0 : k = 0
    · rw [if_pos h0]; omega
    · rw [if_neg h0]
      have := gbst_lt V g k (by omega)
      by_cases hc : V k * (g (gbst V g k) + 1) ≤ V (gbst V g k) * (g k + 1)
      · rw [if_pos hc]; omega
      · rw [if_neg hc]; omega
def gifts (V : Nat → Int32) (n : Nat) : Nat → Nat → Int32
  | 0 => fun _ => 0
  | i + 1 => upd (gifts V n i) (gbst V (gifts V n i) n) (gifts V n i (gbst V (gifts V n i) n) + 1)
theorem C_given (hs : sOk s) {t n : Int32} : cCall m_S_given [.int t, .int n] (qT (isT s t) s (q1 (inR n 0 99) s (gifts (wV (sW s)) (sN s) n.toNatClampNeg t.toNatClampNeg))) s := by
  intro d Q X H x P I A hr h
  have hm := @mo_S_given (meth (d + 59)) (meth_smono (d + 59))
  have hl := cRep_land hs hr
  have hp := hr.1
  have dL := cck_L hl.1
  refine me_S_given (wb_S_given_0 hm (sp_S_needTown hr (fun c => wb_S_given_5 hm (sp_S_within (wb_S_given_13 hm (sp_S_need hr (fun c2 => wb_S_given_16 hm ?_) (fun c2 I' r' => ?_))))) (fun c I' r' => ?_)))
  · rw [qT_t c, q1_t c2] at h
    obtain ⟨j, hj, h8, rfl⟩ := isT_n hs c
    obtain ⟨k, hk, rfl⟩ := inR_n (m := 99) (by omega) c2
    rw [nI_clamp (by omega), nI_clamp (by omega)] at h
    have hm2 := @mo_Polls_giveSeats (meth (d + 58)) (meth_smono (d + 58))
    refine me_Polls_giveSeats (wb_Polls_giveSeats_0 hm2 ?_)
    -- the last loop: towns
    have keyT : ∀ i A', Fr [44] A A' → (∀ t, t < sN s → A' 44 t = gifts (wV (sW s)) (sN s) i t) → (∀ A'', Fr [44] A A'' → (∀ t, t < sN s → A'' 44 t = gifts (wV (sW s)) (sN s) (i + 1) t) → gWp (gTab (tb_Polls_giveSeats (meth (d + 58)))) (fun r H' => gWp (gTab (tb_S_given (meth (d + 59)))) Q X 32 [some (.ref (x + 0)), some (.int (nI j)), some (.int (nI k))] (r.toList ++ []) H') X 27 [some (.ref (x + 43)), some (.int (nI k)), some (.ref (x + 13)), some (.ref (x + P 1)), some (.int (nI (i + 1))), none, none, none, none] [] (gset H x cck P I A'')) → ∀ u, u ≤ sN s → 1 ≤ u → gWp (gTab (tb_Polls_giveSeats (meth (d + 58)))) (fun r H' => gWp (gTab (tb_S_given (meth (d + 59)))) Q X 32 [some (.ref (x + 0)), some (.int (nI j)), some (.int (nI k))] (r.toList ++ []) H') X 39 [some (.ref (x + 43)), some (.int (nI k)), some (.ref (x + 13)), some (.ref (x + P 1)), some (.int (nI i)), some (.int (nI (gbst (wV (sW s)) (gifts (wV (sW s)) (sN s) i) u))), some (.int (nI u)), none, none] [] (gset H x cck P I A') := by
      intro i A' fA eg go
      refine gdown ?_ ?_
      · intro _
        have hb := gbst_lt (wV (sW s)) (gifts (wV (sW s)) (sN s) i) (sN s) (by omega)
        have iv : vp_in (nI (gbst (wV (sW s)) (gifts (wV (sW s)) (sN s) i) (sN s))) 8 := vp_in_nI (by omega) (by omega)
        refine wb_Polls_giveSeats_39 hm2 (o2 := 13) rfl hl.1 ⟨fun _ => ⟨iv, iv, ?_⟩, fun c => absurd (by rw [hl.2.1]; exact nI_le (Nat.le_refl _) (by omega)) c⟩
        rw [nI_clamp (by omega), nI_1]
        refine go _ (fr_A fA (by simp)) (fun t ht => ?_)
        rw [upA_s, gifts]
        by_cases he : t = gbst (wV (sW s)) (gifts (wV (sW s)) (sN s) i) (sN s)
        · rw [he, upd_at, upd_at, eg _ hb]
        · rw [upd_ne he, upd_ne he]; exact eg t ht
      · intro u hu ih hu1
        have ih := ih (by omega)
        have hb := gbst_lt (wV (sW s)) (gifts (wV (sW s)) (sN s) i) u hu1
        have iv : vp_in (nI (gbst (wV (sW s)) (gifts (wV (sW s)) (sN s) i) u)) 8 := vp_in_nI (by omega) (by omega)
        have iu : vp_in (nI u) 8 := vp_in_nI (by omega) (by omega)
        refine wb_Polls_giveSeats_39 hm2 (o2 := 13) rfl hl.1 ⟨fun c => absurd c (by rw [hl.2.1]; exact nI_ge hu (by omega)), fun _ => ⟨iu, iv, iv, iu, ?_⟩⟩
        rw [gbst, if_neg (by omega), ← nI_1] at ih
        rw [nI_clamp (by omega), nI_clamp (by omega), fA (13 + 1) (by simp), eg _ (by omega), eg u (by omega), ← cw_V hr hu, ← cw_V hr (show gbst (wV (sW s)) (gifts (wV (sW s)) (sN s) i) u < sN s by omega)]
        refine ⟨fun c => wb_Polls_giveSeats_100 hm2 ?_, fun c => wb_Polls_giveSeats_100 hm2 ?_⟩
        · rw [if_pos c] at ih; exact ih
        · rw [if_neg c] at ih; exact ih
    have keyG : ∀ i, i ≤ k → ∀ A', Fr [44] A A' → (∀ t, t < sN s → A' 44 t = gifts (wV (sW s)) (sN s) i t) → gWp (gTab (tb_Polls_giveSeats (meth (d + 58)))) (fun r H' => gWp (gTab (tb_S_given (meth (d + 59)))) Q X 32 [some (.ref (x + 0)), some (.int (nI j)), some (.int (nI k))] (r.toList ++ []) H') X 27 [some (.ref (x + 43)), some (.int (nI k)), some (.ref (x + 13)), some (.ref (x + P 1)), some (.int (nI i)), none, none, none, none] [] (gset H x cck P I A') := by
      refine gdown ?_ ?_
      · intro A' fA eg
        refine wb_Polls_giveSeats_27 hm2 ⟨fun _ => wb_S_given_32 hm ⟨vp_in_nI (by omega) (by omega), ?_⟩, fun c => absurd (nI_le (Nat.le_refl _) (by omega)) c⟩
        rw [nI_clamp (by omega), eg j hj]
        exact h P I A' (cRep_fr hr fr_r (fr_m (S' := [44, 45, 46]) fA (by simp)) spI_n (spA_44 hp))
      · intro i hi ih A' fA eg
        exact wb_Polls_giveSeats_27 hm2 ⟨fun c => absurd c (nI_ge hi (by omega)), fun _ => keyT i A' fA eg ih 1 (by omega) (by omega)⟩
    have key0 : ∀ u, u ≤ 8 → ∀ A', Fr [44] A A' → (∀ t, t < u → A' 44 t = 0) → gWp (gTab (tb_Polls_giveSeats (meth (d + 58)))) (fun r H' => gWp (gTab (tb_S_given (meth (d + 59)))) Q X 32 [some (.ref (x + 0)), some (.int (nI j)), some (.int (nI k))] (r.toList ++ []) H') X 3 [some (.ref (x + 43)), some (.int (nI k)), some (.ref (x + 13)), some (.ref (x + P 1)), some (.int (nI u)), none, none, none, none] [] (gset H x cck P I A') := by
      refine gdown ?_ ?_
      · intro A' fA e0
        exact wb_Polls_giveSeats_3 hm2 ⟨fun _ => keyG 0 (Nat.zero_le _) A' fA (fun t ht => e0 t (by omega)), fun c => absurd (nI_le (Nat.le_refl 8) (by omega)) c⟩
      · intro u hu ih A' fA e0
        refine wb_Polls_giveSeats_3 hm2 ⟨fun c => absurd c (nI_ge (b := 8) hu (by omega)), fun _ => ⟨vp_in_nI (by omega) (by omega), ?_⟩⟩
        rw [nI_clamp (by omega), nI_1]
        refine ih _ (fr_A fA (by simp)) (fun t ht => ?_)
        rw [upA_s]
        by_cases he : t = u
        · rw [he, upd_at]
        · rw [upd_ne he]; exact e0 t (by omega)
    exact key0 0 (Nat.zero_le _) A fr_r (fun t ht => absurd ht (Nat.not_lt_zero t))
  · rw [qT_t c, q1_f c2] at h; exact h P I' A r'
  · rw [qT_f c] at h; exact h P I' A r'
theorem rSp_24 : rSpA [24] := fun j hj q => by simp at q; omega
theorem R_given (hs : sOk s) {t n : Int32} : rCall m_R_given [.int t, .int n] kB (.int 0) (qT (isT s t) s (q1 (inR n 0 99) s (gifts (wV (sW s)) (sN s) n.toNatClampNeg t.toNatClampNeg))) s := by
  intro d Q X H x P I A hr h
  have hm := @mo_R_given (meth (d + 59)) (meth_smono (d + 59))
  refine me_R_given (wb_R_given_0 hm (sp_R_isTown (code := 1) upI_s (by omega) (rRep_0 hr) (fun c => wb_R_given_11 hm ⟨fun q => absurd q (by decide), fun _ => sp_R_within (wb_R_given_22 hm (sp_R_may (kind := 1) (code := 2) upI_s (by omega) (by omega) (rRep_0 hr) (fun c2 => wb_R_given_27 hm ⟨fun _ => ?_, fun q => absurd (by decide) q⟩) (fun c2 I' A' r' e => wb_R_given_27 hm ⟨fun q => absurd rfl q, fun _ => wb_R_given_30 hm ?_⟩)))⟩) (fun c I' A' r' e => wb_R_given_11 hm ⟨fun _ => wb_R_given_30 hm ?_, fun q => absurd rfl q⟩)))
  · rw [qT_t c, q1_t c2] at h
    obtain ⟨j, hj, h8, rfl⟩ := isT_n hs c
    obtain ⟨k, hk, rfl⟩ := inR_n (m := 99) (by omega) c2
    rw [nI_clamp (by omega), nI_clamp (by omega)] at h
    have h19 : upI I 0 0 0 0 19 = nI (sN s) := (rRep_0 (a := 0) hr).2.1.1
    have e17 := hr.2.2.1
    have keyT : ∀ i A', Fr [24] A A' → (∀ t, t < sN s → A' 24 t = gifts (wV (sW s)) (sN s) i t) → (∀ A'', Fr [24] A A'' → (∀ t, t < sN s → A'' 24 t = gifts (wV (sW s)) (sN s) (i + 1) t) → gWp (gTab (tb_R_given (meth (d + 59)))) Q X 57 [some (.ref (x + 0)), some (.int (nI j)), some (.int (nI k)), some (.int (nI (i + 1))), none, none] [] (gset H x mck P (upI I 0 0 0) A'')) → ∀ u, u ≤ sN s → 1 ≤ u → gWp (gTab (tb_R_given (meth (d + 59)))) Q X 68 [some (.ref (x + 0)), some (.int (nI j)), some (.int (nI k)), some (.int (nI i)), some (.int (nI (gbst (wV (sW s)) (gifts (wV (sW s)) (sN s) i) u))), some (.int (nI u))] [] (gset H x mck P (upI I 0 0 0) A') := by
      intro i A' fA eg go
      refine gdown ?_ ?_
      · intro _
        have hb := gbst_lt (wV (sW s)) (gifts (wV (sW s)) (sN s) i) (sN s) (by omega)
        have iv : vp_in (nI (gbst (wV (sW s)) (gifts (wV (sW s)) (sN s) i) (sN s))) 8 := vp_in_nI (by omega) (by omega)
        refine wb_R_given_68 hm ⟨fun _ => ⟨iv, iv, ?_⟩, fun c => absurd (by rw [h19]; exact nI_le (Nat.le_refl _) (by omega)) c⟩
        rw [nI_clamp (by omega), nI_1]
        refine go _ (fr_A fA (by simp)) (fun t ht => ?_)
        rw [upA_s, gifts]
        by_cases he : t = gbst (wV (sW s)) (gifts (wV (sW s)) (sN s) i) (sN s)
        · rw [he, upd_at, upd_at, eg _ hb]
        · rw [upd_ne he, upd_ne he]; exact eg t ht
      · intro u hu ih hu1
        have ih := ih (by omega)
        have hb := gbst_lt (wV (sW s)) (gifts (wV (sW s)) (sN s) i) u hu1
        have iv : vp_in (nI (gbst (wV (sW s)) (gifts (wV (sW s)) (sN s) i) u)) 8 := vp_in_nI (by omega) (by omega)
        have iv2 : vp_in (nI (gbst (wV (sW s)) (gifts (wV (sW s)) (sN s) i) u)) 28 := vp_in_nI (by omega) (by omega)
        have iu : vp_in (nI u) 8 := vp_in_nI (by omega) (by omega)
        have iu2 : vp_in (nI u) 28 := vp_in_nI (by omega) (by omega)
        refine wb_R_given_68 hm ⟨fun c => absurd c (by rw [h19]; exact nI_ge hu (by omega)), fun _ => ?_⟩
        rw [n_z, n_z]
        refine ⟨iu2, iv, iv2, iu, ?_⟩
        rw [gbst, if_neg (by omega), ← nI_1] at ih
        rw [nI_clamp (by omega), nI_clamp (by omega), fA 17 (by simp), eg _ (by omega), eg u (by omega), ← rw_V e17 hu, ← rw_V e17 (show gbst (wV (sW s)) (gifts (wV (sW s)) (sN s) i) u < sN s by omega)]
        refine ⟨fun c => wb_R_given_122 hm ?_, fun c => wb_R_given_122 hm ?_⟩
        · rw [if_pos c] at ih; exact ih
        · rw [if_neg c] at ih; exact ih
    have keyG : ∀ i, i ≤ k → ∀ A', Fr [24] A A' → (∀ t, t < sN s → A' 24 t = gifts (wV (sW s)) (sN s) i t) → gWp (gTab (tb_R_given (meth (d + 59)))) Q X 57 [some (.ref (x + 0)), some (.int (nI j)), some (.int (nI k)), some (.int (nI i)), none, none] [] (gset H x mck P (upI I 0 0 0) A') := by
      refine gdown ?_ ?_
      · intro A' fA eg
        refine wb_R_given_57 hm ⟨fun _ => ⟨vp_in_nI (by omega) (by omega), ?_⟩, fun c => absurd (nI_le (Nat.le_refl _) (by omega)) c⟩
        rw [nI_clamp (by omega), eg j hj]
        exact h _ A' _ (rRep_fr (rRep_0 hr) (fun _ _ => rfl) fA rSp_24) ⟨upI_s, rfl⟩
      · intro i hi ih A' fA eg
        exact wb_R_given_57 hm ⟨fun c => absurd c (nI_ge hi (by omega)), fun _ => keyT i A' fA eg ih 1 (by omega) (by omega)⟩
    have key0 : ∀ u, u ≤ sN s → ∀ A', Fr [24] A A' → (∀ t, t < u → A' 24 t = 0) → gWp (gTab (tb_R_given (meth (d + 59)))) Q X 34 [some (.ref (x + 0)), some (.int (nI j)), some (.int (nI k)), some (.int (nI u)), none, none] [] (gset H x mck P (upI I 0 0 0) A') := by
      refine gdown ?_ ?_
      · intro A' fA e0
        exact wb_R_given_34 hm ⟨fun _ => keyG 0 (Nat.zero_le _) A' fA (fun t ht => e0 t ht), fun c => absurd (by rw [h19]; exact nI_le (Nat.le_refl _) (by omega)) c⟩
      · intro u hu ih A' fA e0
        refine wb_R_given_34 hm ⟨fun c => absurd c (by rw [h19]; exact nI_ge hu (by omega)), fun _ => ⟨vp_in_nI (by omega) (by omega), ?_⟩⟩
        rw [nI_clamp (by omega), nI_1]
        refine ih _ (fr_A fA (by simp)) (fun t ht => ?_)
        rw [upA_s]
        by_cases he : t = u
        · rw [he, upd_at]
        · rw [upd_ne he]; exact e0 t (by omega)
    exact key0 0 (Nat.zero_le _) A fr_r (fun t ht => absurd ht (Nat.not_lt_zero t))
  · rw [qT_t c, q1_f c2] at h; exact h I' A' _ r' ⟨e, rfl⟩
  · rw [qT_f c] at h; exact h I' A' _ r' ⟨e, rfl⟩
-- feed
def byt (v : Int32) (k : Nat) : Int32 := (v >>> (nI k &&& 31)) &&& 255
theorem byt_u {v : Int32} {k : Nat} (hk : k ≤ 24) : ((v.toUInt32 >>> ((nI k).toUInt32 &&& Int32.toUInt32 31)).toInt32) &&& 255 = byt v k := by
  unfold byt
  apply b_ext
  intro i hi
  rw [b_and, b_and, b_255]
  by_cases h : i < 8
  · rw [b_ushr k (by omega), b_sshr k (by omega) _ hi, if_pos (by omega)]
  · rw [decide_eq_false h, Bool.and_false, Bool.and_false]
def put4 (f : Nat → Int32) (L : Nat) (v : Int32) : Nat → Int32 := upd (upd (upd (upd f L (byt v 24)) (L + 1) (byt v 16)) (L + 2) (byt v 8)) (L + 3) (byt v 0)
def fbk (a b c e g : Int32) (k : Nat) : Int32 := if 4 ≤ k then if 8 ≤ k then if 12 ≤ k then if 16 ≤ k then g else e else c else b else a
def fed (f : Nat → Int32) (L : Nat) (a b c e g : Int32) : Nat → Nat → Int32
  | 0 => f
  | k + 1 => upd (fed f L a b c e g k) (L + k) (byt (fbk a b c e g k) (24 - 8 * (k % 4)))
theorem fed_20 {f : Nat → Int32} {L : Nat} {a b c e g : Int32} : put4 (put4 (put4 (put4 (put4 f L a) (L + 4) b) (L + 8) c) (L + 12) e) (L + 16) g = fed f L a b c e g 20 := rfl
def sTape (s : ST) (f : Nat → Int32) (L : Nat) : ST := ((f, L, sF s), sZ s, sW s, sE s, sK s, sU s, sM s, sR s, sX0 s, sX1 s)
def f_feed (a b c e g : Int32) (s : ST) : (Value ⊕ String) × ST := if sL s + 20 ≤ 600 then (.inl (.int (nI (sL s + 20))), sTape s (fed (sB s) (sL s) a b c e g 20) (sL s + 20)) else (.inl (.int (-1)), s)
theorem sp_Tape_put {d L : Nat} {Q : gQ} {X : gX} {H : gH} {x : Nat} {P : Nat → Nat} {I A : Nat → Nat → Int32} {v : Int32} (h11 : I 1 1 = nI L) (hL : L + 4 ≤ 600) (h : Q none (gset H x cck P (upI I 1 1 (nI (L + 4))) (upC A 2 (put4 (A 2) L v)))) : meth (d + 1) m_Tape_put [.ref (x + 1), .int v] (gset H x cck P I A) Q X := by
  have hm := @mo_Tape_put (meth d) (meth_smono d)
  refine me_Tape_put (wb_Tape_put_0 hm (wb_Tape_put_3 hm ⟨fun q => absurd q (by decide), fun _ => ⟨fun q => absurd q (by rw [h11]; exact nI_ge (b := 600) (by omega) (by omega)), fun _ => ?_⟩⟩))
  rw [h11, nI_clamp (by omega), nI_1, show (24 : Int32) + (-8) = 16 by decide, show (24 : Int32) = nI 24 from rfl, byt_u (by omega)]
  refine ⟨vp_in_nI (by omega) (by omega), wb_Tape_put_3 hm ⟨fun q => absurd q (by decide), fun _ => ⟨fun q => absurd q (by rw [upI_s]; exact nI_ge (b := 600) (by omega) (by omega)), fun _ => ?_⟩⟩⟩
  rw [upI_s, upI_I, nI_clamp (by omega), nI_1, show (16 : Int32) + (-8) = 8 by decide, show (16 : Int32) = nI 16 from rfl, byt_u (by omega)]
  refine ⟨vp_in_nI (by omega) (by omega), wb_Tape_put_3 hm ⟨fun q => absurd q (by decide), fun _ => ⟨fun q => absurd q (by rw [upI_s]; exact nI_ge (b := 600) (by omega) (by omega)), fun _ => ?_⟩⟩⟩
  rw [upI_s, upI_I, nI_clamp (by omega), nI_1, show (8 : Int32) + (-8) = 0 by decide, show (8 : Int32) = nI 8 from rfl, byt_u (by omega)]
  refine ⟨vp_in_nI (by omega) (by omega), wb_Tape_put_3 hm ⟨fun q => absurd q (by decide), fun _ => ⟨fun q => absurd q (by rw [upI_s]; exact nI_ge (b := 600) (by omega) (by omega)), fun _ => ?_⟩⟩⟩
  rw [upI_s, upI_I, nI_clamp (by omega), nI_1, show (0 : Int32) + (-8) = -8 by decide, show (0 : Int32).toUInt32 = (nI 0).toUInt32 from rfl, byt_u (by omega)]
  refine ⟨vp_in_nI (by omega) (by omega), wb_Tape_put_3 hm ⟨fun _ => wb_Tape_put_49 hm ?_, fun q => absurd (by decide) q⟩⟩
  simp only [upA_to, upC_s, upC_C]
  exact h
theorem cRep_tape {P : Nat → Nat} {I A I' A' : Nat → Nat → Int32} {f : Nat → Int32} {L : Nat} (hr : cRep s P I A) (fI : Fr [1] I I') (fA : Fr [2] A A') (e1 : I' 1 1 = nI L) (e8 : I' 1 8 = sF s) (e2 : A' 2 = f) : cRep (sTape s f L) P I' A' := by
  obtain ⟨hp, ht, hl, hw, hL, hb, hU, hM, h1, h2, h3⟩ := hr
  have n : ∀ j, j ≠ 1 → I' j = I j := fun j hj => fI j (by simp; exact hj)
  have m : ∀ j, j ≠ 2 → A' j = A j := fun j hj => fA j (by simp; exact hj)
  have p1 : P 1 = 3 ∨ P 1 = 8 := by rcases hp.1 with ⟨e, _⟩ | ⟨e, _⟩ <;> omega
  have p5 : P 5 = 21 ∨ P 5 = 25 := by rcases hp.2.1 with ⟨e, _⟩ | ⟨e, _⟩ <;> omega
  have p7 : P 7 = 29 ∨ P 7 = 32 := by rcases hp.2.2 with ⟨e, _⟩ | ⟨e, _⟩ <;> omega
  refine ⟨hp, ⟨e1, e8, e2⟩, ?_, ?_, hL.mv (by rw [n _ (by omega)]) (m _ (by omega)), ?_, ?_, ?_, by rw [n 0 (by decide)]; exact h1, by rw [n 0 (by decide)]; exact h2, by rw [n 0 (by decide)]; exact h3⟩
  · unfold cLand; rw [n _ (by omega), m _ (by omega), m _ (by omega), m _ (by omega), m _ (by omega)]; exact hl
  · rw [cW_c (o := 13) (n 13 (by decide)) (m _ (by decide)) (m _ (by decide))]; exact hw
  · unfold bC; rw [n _ (by omega), m _ (by omega)]; exact hb
  · unfold cWorks; rw [n 40 (by decide), m 41 (by decide)]; exact hU
  · unfold cImgs; rw [n 40 (by decide), m 42 (by decide)]; exact hM
theorem C_feed (hs : sOk s) {a b c e g : Int32} : cCall m_S_feed [.int a, .int b, .int c, .int e, .int g] (f_feed a b c e g s) s := by
  intro d Q X H x P I A hr h
  have hm := @mo_S_feed (meth (d + 59)) (meth_smono (d + 59))
  have h6 := hs.1
  have h11 : I 1 1 = nI (sL s) := hr.2.1.1
  have hle : I 1 1 + 20 ≤ 600 ↔ sL s + 20 ≤ 600 := by rw [h11, show (20 : Int32) = nI 20 from rfl, nI_add, show (600 : Int32) = nI 600 from rfl, nI_leI (by omega) (by omega)]
  unfold f_feed at h
  refine me_S_feed (wb_S_feed_0 hm ⟨fun q => ?_, fun q => ?_⟩)
  · have hq := hle.mp q
    rw [if_pos hq] at h
    refine sp_Tape_put h11 (by omega) (wb_S_feed_26 hm (sp_Tape_put upI_s (by omega) (wb_S_feed_34 hm (sp_Tape_put upI_s (by omega) (wb_S_feed_42 hm (sp_Tape_put upI_s (by omega) (wb_S_feed_51 hm (sp_Tape_put upI_s (by omega) (wb_S_feed_60 hm ?_)))))))))
    simp only [upI_I, upI_s, upC_s, upC_C]
    refine h P _ _ (cRep_tape hr (fr_I fr_r (by simp)) (fr_C fr_r (by simp)) upI_s (by rw [upI_f (by decide)]; exact hr.2.1.2.1) ?_)
    rw [upC_s, hr.2.1.2.2]
    exact fed_20
  · rw [if_neg (fun z => q (hle.mpr z))] at h
    exact h P I A hr
theorem fsh : ∀ k, k < 20 → (24 : Int32) - 8 * (nI k - nI k / 4 * 4) = nI (24 - 8 * (k % 4)) := by decide +kernel
theorem R_feed (hs : sOk s) {a b c e g : Int32} : rCall m_R_feed [.int a, .int b, .int c, .int e, .int g] kA (.int 0) (f_feed a b c e g s) s := by
  intro d Q X H x P I A hr h
  have hm := @mo_R_feed (meth (d + 59)) (meth_smono (d + 59))
  have h6 := hs.1
  have h11 : I 0 2 = nI (sL s) := hr.1.1
  have hle : I 0 2 + 20 ≤ 600 ↔ sL s + 20 ≤ 600 := by rw [h11, show (20 : Int32) = nI 20 from rfl, nI_add, show (600 : Int32) = nI 600 from rfl, nI_leI (by omega) (by omega)]
  unfold f_feed at h
  refine me_R_feed (wb_R_feed_0 hm ⟨fun q => ?_, fun q => ?_⟩)
  · have hq := hle.mp q
    rw [if_pos hq] at h
    have key : ∀ k, k ≤ 20 → gWp (gTab (tb_R_feed (meth (d + 59)))) Q X 23 [some (.ref (x + 0)), some (.int a), some (.int b), some (.int c), some (.int e), some (.int g), some (.int (nI k)), none] [] (gset H x mck P (upI (upI I 0 0 0) 0 2 (nI (sL s + k))) (upC A 2 (fed (A 2) (sL s) a b c e g k))) := by
      refine gdown ?_ ?_
      · refine wb_R_feed_23 hm ⟨fun _ => ?_, fun q => absurd (nI_le (Nat.le_refl 20) (by omega)) q⟩
        rw [upI_s]
        refine h _ _ _ ?_ ⟨by rw [upI_f (by decide), upI_s], rfl⟩
        obtain ⟨ht, hl, hw, hL, hb, hU, hM, h1, h2, h3⟩ := hr
        have n : ∀ f, f ≠ 0 → f ≠ 2 → upI (upI I 0 0 0) 0 2 (nI (sL s + 20)) 0 f = I 0 f := fun f h0 h2 => by rw [upI_f h2, upI_f h0]
        have m : ∀ j, j ≠ 2 → upC A 2 (fed (A 2) (sL s) a b c e g 20) j = A j := fun j hj => upC_n hj
        refine ⟨⟨upI_s, by rw [n 8 (by decide) (by decide)]; exact ht.2.1, by rw [upC_s, ht.2.2]; rfl⟩, ?_, ?_, hL.mv (n 27 (by decide) (by decide)) (m 11 (by decide)) (m 12 (by decide)), ?_, ?_, ?_, by rw [n 33 (by decide) (by decide)]; exact h1, by rw [m 1 (by decide)]; exact h2, by rw [m 1 (by decide)]; exact h3⟩
        · unfold rLand; rw [n 19 (by decide) (by decide), n 20 (by decide) (by decide), m 7 (by decide), m 8 (by decide)]; exact hl
        · rw [m 17 (by decide)]; exact hw
        · rw [n 43 (by decide) (by decide), m 22 (by decide)]; exact hb
        · unfold rWorks; rw [n 32 (by decide) (by decide), m 19 (by decide)]; exact hU
        · unfold rImgs; rw [n 53 (by decide) (by decide), m 28 (by decide)]; exact hM
      · intro k hk ih
        have go : ∀ v, v = fbk a b c e g k → gWp (gTab (tb_R_feed (meth (d + 59)))) Q X 76 [some (.ref (x + 0)), some (.int a), some (.int b), some (.int c), some (.int e), some (.int g), some (.int (nI k)), none] [.int v] (gset H x mck P (upI (upI I 0 0 0) 0 2 (nI (sL s + k))) (upC A 2 (fed (A 2) (sL s) a b c e g k))) := by
          intro v hv
          refine wb_R_feed_76 hm ⟨by decide, ?_⟩
          rw [upI_s, nI_clamp (by omega), upI_I, upA_up, nI_1, nI_1, fsh k hk, hv]
          refine ⟨vp_in_nI (by omega) (by omega), ?_⟩
          exact ih
        have l4 : (4 : Int32) ≤ nI k ↔ 4 ≤ k := nI_leI (a := 4) (by omega) (by omega)
        have l8 : (8 : Int32) ≤ nI k ↔ 8 ≤ k := nI_leI (a := 8) (by omega) (by omega)
        have l12 : (12 : Int32) ≤ nI k ↔ 12 ≤ k := nI_leI (a := 12) (by omega) (by omega)
        have l16 : (16 : Int32) ≤ nI k ↔ 16 ≤ k := nI_leI (a := 16) (by omega) (by omega)
        refine wb_R_feed_23 hm ⟨fun q => absurd q (nI_ge (b := 20) hk (by omega)), fun _ => ⟨fun q4 => ⟨fun q8 => ⟨fun q12 => ⟨fun q16 => go _ ?_, fun q16 => go _ ?_⟩, fun q12 => go _ ?_⟩, fun q8 => go _ ?_⟩, fun q4 => go _ ?_⟩⟩
        · unfold fbk; rw [if_pos (l4.mp q4), if_pos (l8.mp q8), if_pos (l12.mp q12), if_pos (l16.mp q16)]
        · unfold fbk; rw [if_pos (l4.mp q4), if_pos (l8.mp q8), if_pos (l12.mp q12), if_neg (fun z => q16 (l16.mpr z))]
        · unfold fbk; rw [if_pos (l4.mp q4), if_pos (l8.mp q8), if_neg (fun z => q12 (l12.mpr z))]
        · unfold fbk; rw [if_pos (l4.mp q4), if_neg (fun z => q8 (l8.mpr z))]
        · unfold fbk; rw [if_neg (fun z => q4 (l4.mpr z))]
    have := key 0 (Nat.zero_le _)
    rw [show fed (A 2) (sL s) a b c e g 0 = A 2 from rfl, upC_id, upI_id (show upI I 0 0 0 0 2 = nI (sL s + 0) by rw [upI_f (by decide)]; exact h11)] at this
    exact this
  · rw [if_neg (fun z => q (hle.mpr z))] at h
    exact h _ A _ (rRep_0 hr) ⟨upI_s, rfl⟩
end CA7
