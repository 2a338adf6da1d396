/-! ===== calls: speak, both ===== -/
section CA20
variable {s : ST}
def okSpeak (k a : Int32) : Bool := inR k 0 99 && inR a 0 2
def f_speak (k a : Int32) (s : ST) : Int32 := if a = 0 then nI (sAcc s k (sN s * sN s)).1 else if a = 1 then (sAcc s k (sN s * sN s)).2.1 else (sAcc s k (sN s * sN s)).2.2
theorem C_speak (hs : sOk s) {k a : Int32} : cCall m_S_speak [.int k, .int a] (q1 (okSpeak k a) s (f_speak k a s)) s := by
  intro d Q X H x P I A hr h
  have hm := @mo_S_speak (meth (d + 59)) (meth_smono (d + 59))
  have no : okSpeak k a = false → gWp (gTab (tb_S_speak (meth (d + 59)))) Q X 24 [some (.ref (x + 0)), some (.int k), some (.int a)] [.ref (x + 0)] (gset H x cck P I A) := fun hf => by
    rw [q1_f hf] at h
    exact wb_S_speak_24 hm (wb_S_speak_25 hm (sp_S_need (c := false) hr (fun q => by cases q) (fun _ I' r' => h P I' A r')))
  unfold okSpeak at no h
  refine me_S_speak (wb_S_speak_0 hm (sp_S_within (wb_S_speak_8 hm ⟨fun c1 => no (by rw [b_i00 c1]; rfl), fun c1 => sp_S_within (wb_S_speak_17 hm ⟨fun c2 => no (by rw [b_i01 c1, b_i00 c2]; rfl), fun c2 => wb_S_speak_25 hm (sp_S_need (c := true) hr (fun _ => wb_S_speak_28 hm (cs_hearBoth hs hr (fun I' A' r' m => wb_S_speak_44 hm ?_))) (fun q => by cases q))⟩)⟩)))
  rw [q1_t (by rw [b_i01 c1, b_i01 c2]; rfl)] at h
  have h := h P I' A' r'
  unfold f_speak at h
  obtain ⟨e3, e4, e5⟩ := m
  rw [e3, e4, e5]
  refine ⟨fun q1' => ⟨fun q2 => wb_S_speak_78 hm ?_, fun q2 => wb_S_speak_78 hm ?_⟩, fun q1' => ?_⟩
  · rw [if_neg q1', if_neg q2] at h; exact h
  · rw [if_neg q1', if_pos (Classical.not_not.mp q2)] at h; exact h
  · rw [if_pos (Classical.not_not.mp q1')] at h; exact h
/-- the reference: own and other, by party -/
theorem rs_speaksHas {d : Nat} {Q : gQ} {X : gX} {H : gH} {x : Nat} {P : Nat → Nat} {I A : Nat → Nat → Int32} {k : Int32} (hs : sOk s) (hr : rRep s I A) {p : Nat} (hp : p ≤ 1) {u v : Nat} (hu : u < sN s) (hv : v < sN s) (h : Q (some (.int (if p = 0 then pay s k 0 u v else pay s k 1 v u))) (gset H x mck P I A)) : meth (d + 2) m_R_speaksHas [.ref (x + 0), .int (nI p), .int (nI u), .int (nI v), .int k] (gset H x mck P I A) Q X := by
  have hm := @mo_R_speaksHas (meth (d + 1)) (meth_smono (d + 1))
  have h8 : sN s ≤ 8 := hs.2.1.1
  have hw := hr.2.2.1
  have eN : I 0 19 = nI (sN s) := hr.2.1.1
  have p0 : nI p = 0 ↔ p = 0 := nI_eq (b := 0) (by omega) (by omega)
  -- what the town gets
  generalize ha : (if p = 0 then u else v) = a
  generalize hb : (if p = 0 then v else u) = b
  have eP : (if p = 0 then pay s k 0 u v else pay s k 1 v u) = pay s k (nI p) a b := by
    rcases (show p = 0 ∨ p = 1 by omega) with e | e
    · rw [if_pos e] at ha hb ⊢; rw [ha, hb, e]; rfl
    · rw [if_neg (by omega)] at ha hb ⊢; rw [ha, hb, e]; rfl
  rw [eP] at h
  unfold pay at h
  have key : ∀ t, t ≤ sN s → gWp (gTab (tb_R_speaksHas (meth (d + 1)))) Q X 6 [some (.ref (x + 0)), some (.int (nI p)), some (.int (nI u)), some (.int (nI v)), some (.int k), some (.int (fsum (fun t => if dSide s t (spD a b k t) = nI p then sC s t else 0) t)), some (.int (nI t)), none, none] [] (gset H x mck P I A) := by
    refine gdown ?_ ?_
    · exact wb_R_speaksHas_6 hm ⟨fun _ => h, fun c => absurd (by rw [eN]; exact nI_le (Nat.le_refl _) (by omega)) c⟩
    · intro t ht ih
      rw [← nI_1] at ih
      have e1 : nI t = nI u ↔ t = u := nI_eq (by omega) (by omega)
      have e2 : nI t = nI v ↔ t = v := nI_eq (by omega) (by omega)
      have e3 : nI u = nI v ↔ u = v := nI_eq (by omega) (by omega)
      have g72 : ∀ w7 w : Int32, w = spD a b k t → gWp (gTab (tb_R_speaksHas (meth (d + 1)))) Q X 72 [some (.ref (x + 0)), some (.int (nI p)), some (.int (nI u)), some (.int (nI v)), some (.int k), some (.int (fsum (fun t => if dSide s t (spD a b k t) = nI p then sC s t else 0) t)), some (.int (nI t)), some (.int w7), none] [.int w, .int (A 17 (8 + t))] (gset H x mck P I A) := by
        intro w7 w hw'
        refine wb_R_speaksHas_72 hm ?_
        rw [n_z, nI_clamp (by omega)]
        refine ⟨vp_in_nI (by omega) (by omega), sp_R_held (wb_R_speaksHas_85 hm ?_)⟩
        rw [n_z, nI_clamp (by omega)]
        refine ⟨vp_in_nI (by omega) (by omega), sp_R_goesTo (wb_R_speaksHas_103 hm ?_)⟩
        obtain ⟨vv, bb, v1, v9, _, ev, _⟩ := hs.2.2.1.1 t ht
        rw [rw_V hw ht] at ev
        rw [held_eq (by rw [ev]; exact nI_le (a := 0) (by omega) (by omega)), show fside (gmax 0 (gmin (A 17 t) (A 17 (8 + t) + w))) (A 17 t) = dSide s t (spD a b k t) by unfold dSide fhold; rw [rw_V hw ht, rw_B hw ht, hw'], nI_clamp (by omega), hr.2.1.2.2.1 t ht]
        unfold fsum at ih
        refine ⟨fun q => wb_R_speaksHas_118 hm ?_, fun q => ⟨vp_in_nI (by omega) (by omega), wb_R_speaksHas_118 hm ?_⟩⟩
        · rw [if_neg q] at ih; exact ih
        · rw [if_pos (Classical.not_not.mp q)] at ih; exact ih
      have g48 : ∀ w : Int32, (p = 0 → w = spD a b k t) → (p ≠ 0 → -w = spD a b k t) → gWp (gTab (tb_R_speaksHas (meth (d + 1)))) Q X 48 [some (.ref (x + 0)), some (.int (nI p)), some (.int (nI u)), some (.int (nI v)), some (.int k), some (.int (fsum (fun t => if dSide s t (spD a b k t) = nI p then sC s t else 0) t)), some (.int (nI t)), none, none] [.int w] (gset H x mck P I A) := by
        intro w w0 w1
        refine wb_R_speaksHas_48 hm ?_
        rw [n_8, nI_clamp (by omega)]
        exact ⟨vp_in_nI (by omega) (by omega), fun q => g72 w (-w) (w1 (fun z => q (p0.mpr z))), fun q => g72 w w (w0 (p0.mp (Classical.not_not.mp q)))⟩
      have n0 : ((0 : Int32) - 0) = 0 := by decide
      have n00 : (-(0 : Int32)) = 0 := by decide
      refine wb_R_speaksHas_6 hm ⟨fun c => absurd c (by rw [eN]; exact nI_ge ht (by omega)), fun _ => ⟨fun q => ⟨fun q1 => ⟨fun q2 => g48 0 ?_ ?_, fun q2 => g48 (-k) ?_ ?_⟩, fun q1 => g48 k ?_ ?_⟩, fun q => g48 0 ?_ ?_⟩⟩
      · intro hp0
        rw [if_pos hp0] at ha hb
        unfold spD
        rw [← ha, ← hb, if_neg (fun z => q1 (e1.mpr z)), if_neg (fun z => q2 (e2.mpr z)), n0]
      · intro hp0
        rw [if_neg hp0] at ha hb
        unfold spD
        rw [← ha, ← hb, if_neg (fun z => q2 (e2.mpr z)), if_neg (fun z => q1 (e1.mpr z)), n0, n00]
      · intro hp0
        rw [if_pos hp0] at ha hb
        unfold spD
        rw [← ha, ← hb, if_neg (fun z => q1 (e1.mpr z)), if_pos (e2.mp (Classical.not_not.mp q2)), Int32.zero_sub]
      · intro hp0
        rw [if_neg hp0] at ha hb
        unfold spD
        rw [← ha, ← hb, if_pos (e2.mp (Classical.not_not.mp q2)), if_neg (fun z => q1 (e1.mpr z)), Int32.neg_neg, Int32.sub_zero]
      · have tu := e1.mp (Classical.not_not.mp q1)
        have tv : t ≠ v := fun z => q (e3.mpr (by rw [← tu, ← z]))
        intro hp0
        rw [if_pos hp0] at ha hb
        unfold spD
        rw [← ha, ← hb, if_pos tu, if_neg tv, Int32.sub_zero]
      · have tu := e1.mp (Classical.not_not.mp q1)
        have tv : t ≠ v := fun z => q (e3.mpr (by rw [← tu, ← z]))
        intro hp0
        rw [if_neg hp0] at ha hb
        unfold spD
        rw [← ha, ← hb, if_neg tv, if_pos tu, Int32.zero_sub]
      · intro hp0
        rw [if_pos hp0] at ha hb
        unfold spD
        rw [← ha, ← hb, ← e3.mp (Classical.not_not.mp q), Int32.sub_self]
      · intro hp0
        rw [if_neg hp0] at ha hb
        unfold spD
        rw [← ha, ← hb, ← e3.mp (Classical.not_not.mp q), Int32.sub_self, n00]
  exact me_R_speaksHas (wb_R_speaksHas_0 hm (key 0 (Nat.zero_le _)))
theorem rs_isRest {d : Nat} {Q : gQ} {X : gX} {H : gH} {x : Nat} {P : Nat → Nat} {I A : Nat → Nat → Int32} {k : Int32} (hs : sOk s) (hr : rRep s I A) {a b : Nat} (ha : a < sN s) (hb : b < sN s) (h : Q (some (.int (i01 (rest s k a b)))) (gset H x mck P I A)) : meth (d + 3) m_R_isRest [.ref (x + 0), .int (nI a), .int (nI b), .int k] (gset H x mck P I A) Q X := by
  have hm := @mo_R_isRest (meth (d + 2)) (meth_smono (d + 2))
  have h8 : sN s ≤ 8 := hs.2.1.1
  have eN : I 0 19 = nI (sN s) := hr.2.1.1
  have key : ∀ t, t ≤ sN s → (∀ u, u < t → pay s k 0 u b ≤ pay s k 0 a b ∧ pay s k 1 a u ≤ pay s k 1 a b) → gWp (gTab (tb_R_isRest (meth (d + 2)))) Q X 3 [some (.ref (x + 0)), some (.int (nI a)), some (.int (nI b)), some (.int k), some (.int (nI t))] [] (gset H x mck P I A) := by
    refine gdown ?_ ?_
    · intro e
      refine wb_R_isRest_3 hm ⟨fun _ => ⟨rfl, ?_⟩, fun c => absurd (by rw [eN]; exact nI_le (Nat.le_refl _) (by omega)) c⟩
      unfold rest at h
      rw [decide_eq_true e] at h
      exact h
    · intro t ht' ih e
      have bad : ¬ (pay s k 0 t b ≤ pay s k 0 a b ∧ pay s k 1 a t ≤ pay s k 1 a b) → gWp (gTab (tb_R_isRest (meth (d + 2)))) Q X 52 [some (.ref (x + 0)), some (.int (nI a)), some (.int (nI b)), some (.int k), some (.int (nI t))] [] (gset H x mck P I A) := fun q => by
        unfold rest at h
        rw [decide_eq_false (fun z => q (z t ht'))] at h
        exact wb_R_isRest_52 hm ⟨rfl, h⟩
      refine wb_R_isRest_3 hm ⟨fun c => absurd c (by rw [eN]; exact nI_ge ht' (by omega)), fun _ => rs_speaksHas (p := 0) hs hr (by omega) ht' hb (wb_R_isRest_21 hm (rs_speaksHas (p := 0) hs hr (by omega) ha hb (wb_R_isRest_29 hm ⟨fun c => bad (fun z => absurd c (Int32.not_lt.mpr z.1)), fun c => rs_speaksHas (p := 1) hs hr (by omega) ht' ha (wb_R_isRest_41 hm (rs_speaksHas (p := 1) hs hr (by omega) hb ha (wb_R_isRest_49 hm ⟨fun c2 => ?_, fun c2 => bad (fun z => c2 z.2)⟩)))⟩)))⟩
      rw [nI_1]
      exact ih (fun u hu => if he : u = t then by rw [he]; exact ⟨Int32.not_lt.mp c, c2⟩ else e u (by omega))
  exact me_R_isRest (wb_R_isRest_0 hm (key 0 (Nat.zero_le _) (fun t ht => absurd ht (Nat.not_lt_zero t))))
set_option maxHeartbeats 1000000 in
theorem R_speak (hs : sOk s) {k a : Int32} : rCall m_R_speak [.int k, .int a] kA (.int 0) (q1 (okSpeak k a) s (f_speak k a s)) s := by
  intro d Q X H x P I A hr h
  have hm := @mo_R_speak (meth (d + 59)) (meth_smono (d + 59))
  have h8 : sN s ≤ 8 := hs.2.1.1
  have hN64 : sN s * sN s ≤ 8 * 8 := Nat.mul_le_mul h8 h8
  have no : okSpeak k a = false → gWp (gTab (tb_R_speak (meth (d + 59)))) Q X 29 [some (.ref (x + 0)), some (.int k), some (.int a), none, none, none] [.ref (x + 0)] (gset H x mck P (upI I 0 0 0) A) := fun hf => by
    rw [q1_f hf] at h
    exact wb_R_speak_29 hm (wb_R_speak_30 hm (sp_R_may (c := false) (kind := 1) (code := 1) upI_s (by omega) (by omega) (rRep_0 hr) (fun q => by cases q) (fun _ I' A' r' e => wb_R_speak_35 hm ⟨fun q => absurd rfl q, fun _ => h I' A' _ r' ⟨e, rfl⟩⟩)))
  unfold okSpeak at no h
  refine me_R_speak (wb_R_speak_0 hm (sp_R_within (wb_R_speak_13 hm ⟨fun c1 => no (by rw [b_i00 c1]; rfl), fun c1 => sp_R_within (wb_R_speak_22 hm ⟨fun c2 => no (by rw [b_i01 c1, b_i00 c2]; rfl), fun c2 => wb_R_speak_30 hm (sp_R_may (c := true) (kind := 1) (code := 1) upI_s (by omega) (by omega) (rRep_0 hr) (fun _ => wb_R_speak_35 hm ⟨fun _ => ?_, fun q => absurd (by decide) q⟩) (fun q => by cases q))⟩)⟩)))
  rw [q1_t (by rw [b_i01 c1, b_i01 c2]; rfl)] at h
  have r0 := rRep_0 (a := 0) hr
  have h := fun v => h _ A v r0
  have i00 : upI I 0 0 0 0 0 = 0 := upI_s
  have eN : upI I 0 0 0 0 19 = nI (sN s) := r0.2.1.1
  generalize upI I 0 0 0 = J at r0 h i00 eN no ⊢
  have eNN : nI (sN s) * nI (sN s) = nI (sN s * sN s) := (Int32.ofNat_mul _ _).symm
  unfold f_speak at h
  have loop : ∀ i, i ≤ sN s * sN s → gWp (gTab (tb_R_speak (meth (d + 59)))) Q X 48 [some (.ref (x + 0)), some (.int k), some (.int a), some (.int (nI (sAcc s k i).1)), some (.int (sAcc s k i).2.1), some (.int (nI i))] [] (gset H x mck P J A) := by
    refine gdown ?_ ?_
    · refine wb_R_speak_48 hm ?_
      rw [eN, eNN]
      obtain ⟨_, ok⟩ := sAcc_ok (s := s) (k := k) h8 (sN s * sN s) (Nat.le_refl _)
      refine ⟨fun _ => ⟨fun q1' => ⟨fun q2 => ⟨fun q3 => ?_, fun q3 => wb_R_speak_188 hm (h _ ⟨i00, ?_⟩)⟩, fun q2 => wb_R_speak_188 hm (h _ ⟨i00, ?_⟩)⟩, fun q1' => wb_R_speak_188 hm (h _ ⟨i00, ?_⟩)⟩, fun c => absurd (nI_le (Nat.le_refl _) (by omega)) c⟩
      · rw [if_neg q1', if_neg q2] at h
        rcases ok with ⟨_, e⟩ | ⟨_, u, v, hu, hv, e⟩
        · rw [e] at q3; exact absurd rfl q3
        · rw [e] at h ⊢
          dsimp only at h ⊢
          have d1 : nI (10 * u + v) / (10 : Int32) = nI u := by rw [show (10 : Int32) = nI 10 from rfl, nI_div (by omega) (by omega)]; congr 1; omega
          have d2 : nI (10 * u + v) - nI (10 * u + v) / (10 : Int32) * (10 : Int32) = nI v := by rw [show (10 : Int32) = nI 10 from rfl, nI_mod (by omega) (by omega)]; congr 1; omega
          rw [d2, d1]
          refine ⟨by decide, by decide, rs_speaksHas (p := 0) hs r0 (by omega) hu hv (wb_R_speak_171 hm ?_)⟩
          rw [d2, d1]
          exact ⟨by decide, by decide, rs_speaksHas (p := 1) hs r0 (by omega) hv hu (wb_R_speak_187 hm (wb_R_speak_188 hm (h _ ⟨i00, rfl⟩)))⟩
      · rw [if_neg q1', if_neg q2]
        rcases ok with ⟨_, e⟩ | ⟨_, u, v, hu, hv, e⟩
        · rw [e]
        · rw [e] at q3; exact absurd (Classical.not_not.mp q3) (nI_nm1 (by omega))
      · rw [if_neg q1', if_pos (Classical.not_not.mp q2)]
      · rw [if_pos (Classical.not_not.mp q1')]
    · intro i hi ih
      have hp : 0 < sN s := by
        rcases Nat.eq_zero_or_pos (sN s) with e | e
        · rw [e] at hi; omega
        · exact e
      have hN0 : ¬ nI (sN s) = 0 := fun q => by have := (nI_eq (b := 0) (by omega) (by omega)).mp q; omega
      have hu : i / sN s < sN s := (Nat.div_lt_iff_lt_mul hp).mpr hi
      have hv : i % sN s < sN s := Nat.mod_lt _ hp
      rw [← nI_1, sAcc] at ih
      refine wb_R_speak_48 hm ?_
      rw [eN, eNN, nI_mod (by omega) (by omega), nI_div (by omega) (by omega)]
      obtain ⟨_, ok⟩ := sAcc_ok (s := s) (k := k) h8 i (by omega)
      refine ⟨fun c => absurd c (nI_ge hi (by omega)), fun _ => ⟨hN0, hN0, rs_isRest hs r0 hu hv (wb_R_speak_81 hm ?_)⟩⟩
      rw [eN, nI_mod (by omega) (by omega), nI_div (by omega) (by omega)]
      refine ⟨fun c => ?_, fun c => wb_R_speak_121 hm ?_⟩
      · have hf := b_i01 c
        rw [if_pos hf] at ih
        dsimp only at ih
        rw [nI_1]
        have m10 : (10 : Int32) * nI (i / sN s) + nI (i % sN s) = nI (10 * (i / sN s) + i % sN s) := by rw [show (10 : Int32) * nI (i / sN s) = nI (10 * (i / sN s)) from (Int32.ofNat_mul 10 _).symm]; exact nI_add _ _
        rcases ok with ⟨e0, e⟩ | ⟨e0, u, v, _, _, e⟩
        · rw [if_pos e0] at ih
          rw [e, m10]
          exact ⟨fun q => absurd rfl q, fun _ => ⟨hN0, hN0, wb_R_speak_119 hm (wb_R_speak_121 hm ih)⟩⟩
        · rw [if_neg (by omega)] at ih
          refine ⟨fun _ => wb_R_speak_119 hm (wb_R_speak_121 hm ih), fun q => ?_⟩
          rw [e] at q
          exact absurd (Classical.not_not.mp q) (nI_nm1 (by omega))
      · have hf := b_i00 (Classical.not_not.mp c)
        rw [if_neg (by rw [hf]; decide)] at ih
        exact ih
  exact loop 0 (Nat.zero_le _)
end CA20
