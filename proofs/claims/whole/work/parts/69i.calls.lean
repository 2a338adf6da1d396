/-! ===== calls: image, restore ===== -/
section CA9
variable {s : ST}
theorem nI_358 {m : Nat} : nI m * 358 = nI (358 * m) := by rw [show (358 : Int32) = nI 358 from rfl, Int32.mul_comm]; exact (Int32.ofNat_mul 358 m).symm
set_option maxHeartbeats 1000000 in
theorem C_image (hs : sOk s) : cCall m_S_image [] (f_image s) s := by
  intro d Q X H x P I A hr h
  have hm := @mo_S_image (meth (d + 59)) (meth_smono (d + 59))
  have h3' := hs.2.2.2.2.2.2.1
  have h16 := hs.2.2.2.2.2.1.1
  have h8 : sN s ≤ 8 := hs.2.1.1
  obtain ⟨hp, ht, hl, hw, hL, hb, hU, hM, h1, h2, h3⟩ := hr
  have eM : I 40 3 = nI (sM s).1 := hM.1
  have e3 : I 40 3 < 3 ↔ (sM s).1 < 3 := by rw [eM]; exact nI_ltI (b := 3) (by omega) (by omega)
  unfold f_image at h
  refine me_S_image (wb_S_image_0 hm ⟨fun q => ?_, fun q => ?_⟩)
  · have q3 := e3.mp q
    rw [if_neg (by omega)] at h
    have hm2 := @mo_Past_keepImage (meth (d + 58)) (meth_smono (d + 58))
    refine me_Past_keepImage (wb_Past_keepImage_0 hm2 (o1 := 13) rfl ⟨fun _ => ?_, fun z => absurd q z⟩)
    rw [eM, nI_358, nI_1, nI_clamp (by omega), hU.1]
    refine ⟨vp_in_nI (by omega) (by omega), sp_World_save (o := 13) (a := 42) rfl rfl (by omega) (by omega) (by decide) (fun A1 fA e1 e2 => wb_Past_keepImage_39 hm2 ?_)⟩
    have e22 : nI (358 * (sM s).1) + 1 + 21 = nI (358 * (sM s).1 + 22) := by rw [nI_1]; exact nI_add _ 21
    rw [e22, nI_clamp (by omega), show ((336 : Int32)).toNatClampNeg = 336 from rfl, show ((0 : Int32)).toNatClampNeg = 0 from rfl]
    refine ⟨by decide, by rw [show (0 : Int32) = nI 0 from rfl, nI_ltI (by omega) (by omega)]; omega, by decide, by omega, by omega, wb_S_image_24 hm ?_⟩
    have a1 : A1 42 (358 * (sM s).1) = nI (sU s).1 := by rw [e2 _ (by omega), upA_s, upd_at]
    have ao : ∀ j, j < 358 * (sM s).1 → A1 42 j = A 42 j := fun j hj => by rw [e2 j (by omega), upA_s, upd_ne (by omega)]
    have ew : cRow (sN s) (A1 42) (358 * (sM s).1 + 1) = sW s := by
      rw [e1 (sN s) h8, cW_c (o := 13) (I := I) (A := A) rfl (upA_n (by decide)) (upA_n (by decide))]
      exact hw
    have m : ∀ j, j ≠ 42 → upC A1 42 (va_cpy (A1 41) (A1 42) 0 (358 * (sM s).1 + 22) 336) j = A j := fun j hj => by rw [upC_n hj, fA j (by simp; exact hj), upA_n hj]
    have m41 : A1 41 = A 41 := by rw [fA 41 (by decide), upA_n (by decide)]
    have n : ∀ j, j ≠ 40 → upI I 40 3 (I 40 3 + 1) j = I j := fun j hj => upI_n hj
    have p1 : P 1 = 3 ∨ P 1 = 8 := by rcases hp.1 with ⟨e, _⟩ | ⟨e, _⟩ <;> omega
    have p5 : P 5 = 21 ∨ P 5 = 25 := by rcases hp.2.1 with ⟨e, _⟩ | ⟨e, _⟩ <;> omega
    have p7 : P 7 = 29 ∨ P 7 = 32 := by rcases hp.2.2 with ⟨e, _⟩ | ⟨e, _⟩ <;> omega
    rw [upI_s, eM, nI_1]
    refine h P _ _ ⟨hp, ?_, ?_, ?_, hL.mv (by rw [← eM, ← nI_1] at *; rw [upI_n (by omega)]) (m _ (by omega)), ?_, ?_, ?_, by rw [upI_n (by decide)]; exact h1, by rw [upI_n (by decide)]; exact h2, by rw [upI_n (by decide)]; exact h3⟩
    · rw [upI_n (by decide), m 2 (by decide)]; exact ht
    · show cLand (sZ s) (P 1) _ _
      unfold cLand; rw [upI_n (by omega), m _ (by omega), m _ (by omega), m _ (by omega), m _ (by omega)]; exact hl
    · show cW (sN s) _ _ 13 = sW s
      rw [cW_c (o := 13) (I := I) (A := A) (upI_n (by decide)) (m _ (by decide)) (m _ (by decide))]; exact hw
    · show bC (P 7) (sK s) _ _
      unfold bC; rw [upI_n (by omega), m _ (by omega)]; exact hb
    · refine ⟨by rw [upI_f (by decide)]; exact hU.1, fun i hi => ?_⟩
      rw [m 41 (by decide)]
      exact hU.2 i hi
    · refine ⟨by rw [upI_s]; rfl, fun i hi => ?_⟩
      have hi : i < (sM s).1 + 1 := hi
      rw [upC_s]
      show _ = nI (if i = (sM s).1 then (sW s, (sU s).1, (sU s).2) else (sM s).2 i).2.1 ∧ _ = (if i = (sM s).1 then (sW s, (sU s).1, (sU s).2) else (sM s).2 i).1 ∧ ∀ j, j < (if i = (sM s).1 then (sW s, (sU s).1, (sU s).2) else (sM s).2 i).2.1 → _ = (if i = (sM s).1 then (sW s, (sU s).1, (sU s).2) else (sM s).2 i).2.2 j
      by_cases he : i = (sM s).1
      · rw [if_pos he, he]
        refine ⟨by rw [va_cpy_out (by omega)]; exact a1, ?_, fun j hj => ?_⟩
        · show cRow (sN s) _ _ = sW s
          rw [cRow_c h8 (g := A1 42) (fun j h1 h2 => va_cpy_out (by omega))]; exact ew
        · have hj : j < (sU s).1 := hj
          show cRow (sN s) _ _ = (sU s).2 j
          rw [cRow_sh h8 (g := A 41) (c := 21 * j) (fun t ht => by
            rw [va_cpy_in (by omega) (by omega), m41]
            congr 1
            omega)]
          exact hU.2 j hj
      · rw [if_neg he]
        have hM2 := hM.2 i (by omega)
        refine ⟨by rw [va_cpy_out (by omega), ao _ (by omega)]; exact hM2.1, ?_, fun j hj => ?_⟩
        · show cRow (sN s) _ _ = _
          rw [cRow_c h8 (g := A 42) (fun j h1 h2 => by rw [va_cpy_out (by omega), ao _ (by omega)])]; exact hM2.2.1
        · have hc := (hs.2.2.2.2.2.2.2 i (by omega)).2.1
          show cRow (sN s) _ _ = _
          rw [cRow_c h8 (g := A 42) (fun k h1 h2 => by rw [va_cpy_out (by omega), ao _ (by omega)])]; exact hM2.2.2 j hj
  · have q3 : ¬ (sM s).1 < 3 := fun z => q (e3.mpr z)
    rw [if_pos (by omega)] at h
    exact h P I A ⟨hp, ht, hl, hw, hL, hb, hU, hM, h1, h2, h3⟩
set_option maxHeartbeats 1000000 in
theorem C_restore (hs : sOk s) : cCall m_S_restore [] (f_restore s) s := by
  intro d Q X H x P I A hr h
  have hm := @mo_S_restore (meth (d + 59)) (meth_smono (d + 59))
  have h3' := hs.2.2.2.2.2.2.1
  have h8 : sN s ≤ 8 := hs.2.1.1
  obtain ⟨hp, ht, hl, hw, hL, hb, hU, hM, h1, h2, h3⟩ := hr
  have eM : I 40 3 = nI (sM s).1 := hM.1
  have e3 : 1 ≤ I 40 3 ↔ 1 ≤ (sM s).1 := by rw [eM]; exact nI_leI (a := 1) (by omega) (by omega)
  unfold f_restore at h
  refine me_S_restore (wb_S_restore_0 hm ⟨fun q => ?_, fun q => ?_⟩)
  · have q3 := e3.mp q
    rw [if_neg (by omega)] at h
    have hc := (hs.2.2.2.2.2.2.2 ((sM s).1 - 1) (by omega)).2.1
    have hM2 := hM.2 ((sM s).1 - 1) (by omega)
    have hm2 := @mo_Past_takeImage (meth (d + 58)) (meth_smono (d + 58))
    refine me_Past_takeImage (wb_Past_takeImage_0 hm2 (o1 := 13) rfl ⟨fun _ => ?_, fun z => absurd q z⟩)
    rw [eM, show nI (sM s).1 - 1 = nI ((sM s).1 - 1) by rw [show (1 : Int32) = nI 1 from rfl, nI_sub q3], nI_358, nI_1, nI_clamp (by omega), hM2.1]
    refine ⟨vp_in_nI (by omega) (by omega), sp_World_load (o := 13) (a := 42) rfl rfl (by omega) (by omega) (by decide) (fun I1 A1 fI fA e1 => wb_Past_takeImage_49 hm2 ?_)⟩
    have e22 : nI (358 * ((sM s).1 - 1)) + 1 + 21 = nI (358 * ((sM s).1 - 1) + 22) := by rw [nI_1]; exact nI_add _ 21
    rw [e22, nI_clamp (by omega), show ((336 : Int32)).toNatClampNeg = 336 from rfl, show ((0 : Int32)).toNatClampNeg = 0 from rfl]
    refine ⟨by rw [show (0 : Int32) = nI 0 from rfl, nI_ltI (by omega) (by omega)]; omega, by decide, by decide, by omega, by omega, wb_S_restore_24 hm ?_⟩
    have m42 : A1 42 = A 42 := fA 42 (by decide)
    have m : ∀ j, j ≠ 14 → j ≠ 15 → j ≠ 41 → upC A1 41 (va_cpy (A1 42) (A1 41) (358 * ((sM s).1 - 1) + 22) 0 336) j = A j := fun j a b c => by rw [upC_n c, fA j (by simp; exact ⟨a, b⟩)]
    have i40 : I1 40 = upI (upI I 40 3 (nI ((sM s).1 - 1))) 40 2 (nI ((sM s).2 ((sM s).1 - 1)).2.1) 40 := fI 40 (by decide)
    have n : ∀ j, j ≠ 0 → j ≠ 13 → j ≠ 40 → upI I1 0 13 0 j = I j := fun j a b c => by rw [upI_n a, fI j (by simp; exact b), upI_n c, upI_n c]
    have i0 : upI I1 0 13 0 0 = upd (I1 0) 13 0 := upI_o
    have i0' : I1 0 = I 0 := by rw [fI 0 (by decide), upI_n (by decide), upI_n (by decide)]
    have p1 : P 1 = 3 ∨ P 1 = 8 := by rcases hp.1 with ⟨e, _⟩ | ⟨e, _⟩ <;> omega
    have p5 : P 5 = 21 ∨ P 5 = 25 := by rcases hp.2.1 with ⟨e, _⟩ | ⟨e, _⟩ <;> omega
    have p7 : P 7 = 29 ∨ P 7 = 32 := by rcases hp.2.2 with ⟨e, _⟩ | ⟨e, _⟩ <;> omega
    have ec3 : I1 40 3 = nI ((sM s).1 - 1) := by rw [i40, upI_f (by decide), upI_s]
    have ec2 : I1 40 2 = nI ((sM s).2 ((sM s).1 - 1)).2.1 := by rw [i40, upI_s]
    rw [ec3]
    refine h P _ _ ⟨hp, ?_, ?_, ?_, hL.mv (by rw [n _ (by omega) (by omega) (by omega)]) (m _ (by omega) (by omega) (by omega)), ?_, ?_, ?_, by rw [upI_s]; rfl, by rw [i0, upd_ne (by decide), i0']; exact h2, by rw [i0, upd_ne (by decide), i0']; exact h3⟩
    · rw [n 1 (by decide) (by decide) (by decide), m 2 (by decide) (by decide) (by decide)]; exact ht
    · show cLand (sZ s) (P 1) _ _
      unfold cLand; rw [n _ (by omega) (by omega) (by omega), m _ (by omega) (by omega) (by omega), m _ (by omega) (by omega) (by omega), m _ (by omega) (by omega) (by omega), m _ (by omega) (by omega) (by omega)]; exact hl
    · show cW (sN s) _ _ 13 = ((sM s).2 ((sM s).1 - 1)).1
      rw [cW_c (o := 13) (I := I1) (A := A1) (upI_n (by decide)) (upC_n (by decide)) (upC_n (by decide)), e1 (sN s) h8]
      exact hM2.2.1
    · show bC (P 7) (sK s) _ _
      unfold bC; rw [n _ (by omega) (by omega) (by omega), m _ (by omega) (by omega) (by omega)]; exact hb
    · refine ⟨by rw [upI_n (by decide)]; exact ec2, fun i hi => ?_⟩
      have hi : i < ((sM s).2 ((sM s).1 - 1)).2.1 := hi
      show cRow (sN s) _ _ = ((sM s).2 ((sM s).1 - 1)).2.2 i
      rw [upC_s, cRow_sh h8 (g := A 42) (c := 358 * ((sM s).1 - 1) + 22 + 21 * i) (fun t ht => by
        rw [va_cpy_in (by omega) (by omega), m42]
        congr 1
        omega)]
      exact hM2.2.2 i hi
    · refine ⟨by rw [upI_n (by decide)]; exact ec3, fun i hi => ?_⟩
      have hi : i < (sM s).1 - 1 := hi
      rw [m 42 (by decide) (by decide) (by decide)]
      exact hM.2 i (by omega)
  · have q3 : ¬ 1 ≤ (sM s).1 := fun z => q (e3.mpr z)
    rw [if_pos (by omega)] at h
    exact h P I A ⟨hp, ht, hl, hw, hL, hb, hU, hM, h1, h2, h3⟩
section IN5
variable {d : Nat} {Q : gQ} {X : gX} {H : gH} {x : Nat} {P : Nat → Nat} {I A : Nat → Nat → Int32}
theorem sp_R_keep {a n2 k q : Nat} (ha : mck a = (1, n2)) (ha28 : a ≠ 28) (hk : k ≤ n2) (hn2 : n2 ≤ 2000) (hq : q + k ≤ 1431) (h : ∀ A', Fr [28] A A' → (∀ t, t < k → A' 28 (q + t) = A a t) → (∀ j, j < q ∨ q + k ≤ j → A' 28 j = A 28 j) → Q (some (.int (nI (q + k)))) (gset H x mck P I A')) : meth (d + 1) m_R_keepsRow [.ref (x + 0), .int (nI q), .ref (x + a), .int (nI k), .int 1] (gset H x mck P I A) Q X := by
  have hm := @mo_R_keepsRow (meth d) (meth_smono d)
  refine me_R_keepsRow (wb_R_keepsRow_0 hm ?_)
  have key : ∀ j, j ≤ k → ∀ A', Fr [28] A A' → (∀ t, t < j → A' 28 (q + t) = A a t) → (∀ j, j < q ∨ q + k ≤ j → A' 28 j = A 28 j) → gWp (gTab (tb_R_keepsRow (meth d))) Q X 3 [some (.ref (x + 0)), some (.int (nI q)), some (.ref (x + a)), some (.int (nI k)), some (.int 1), some (.int (nI j))] [] (gset H x mck P I A') := by
    refine gdown ?_ ?_
    · intro A' fA e ej
      refine wb_R_keepsRow_3 hm ha ⟨fun _ => ?_, fun c => absurd (nI_le (Nat.le_refl _) (by omega)) c⟩
      rw [nI_add]
      exact h A' fA e ej
    · intro j hj ih A' fA e ej
      refine wb_R_keepsRow_3 hm ha ⟨fun c => absurd c (nI_ge hj (by omega)), fun _ => ⟨fun c => absurd c (by decide), fun _ => ?_⟩⟩
      rw [nI_add, nI_clamp (by omega), nI_clamp (by omega), fA a (by simp; exact ha28)]
      refine ⟨vp_in_nI (by omega) (by omega), vp_in_nI (by omega) (by omega), wb_R_keepsRow_43 hm ?_⟩
      rw [nI_1]
      refine ih _ (fr_A fA (by simp)) (fun t ht => ?_) (fun i hi => ?_)
      · rw [upA_s]
        by_cases he : t = j
        · rw [he, upd_at]
        · rw [upd_ne (by omega)]; exact e t (by omega)
      · rw [upA_s, upd_ne (by omega)]; exact ej i hi
  exact key 0 (Nat.zero_le _) A fr_r (fun t ht => absurd ht (Nat.not_lt_zero t)) (fun _ _ => rfl)
theorem sp_R_load {a n2 k q : Nat} (ha : mck a = (1, n2)) (ha28 : a ≠ 28) (hk : k ≤ n2) (hn2 : n2 ≤ 2000) (hq : q + k ≤ 1431) (h : ∀ A', Fr [a] A A' → (∀ t, t < k → A' a t = A 28 (q + t)) → Q (some (.int (nI (q + k)))) (gset H x mck P I A')) : meth (d + 1) m_R_keepsRow [.ref (x + 0), .int (nI q), .ref (x + a), .int (nI k), .int 0] (gset H x mck P I A) Q X := by
  have hm := @mo_R_keepsRow (meth d) (meth_smono d)
  refine me_R_keepsRow (wb_R_keepsRow_0 hm ?_)
  have key : ∀ j, j ≤ k → ∀ A', Fr [a] A A' → (∀ t, t < j → A' a t = A 28 (q + t)) → gWp (gTab (tb_R_keepsRow (meth d))) Q X 3 [some (.ref (x + 0)), some (.int (nI q)), some (.ref (x + a)), some (.int (nI k)), some (.int 0), some (.int (nI j))] [] (gset H x mck P I A') := by
    refine gdown ?_ ?_
    · intro A' fA e
      refine wb_R_keepsRow_3 hm ha ⟨fun _ => ?_, fun c => absurd (nI_le (Nat.le_refl _) (by omega)) c⟩
      rw [nI_add]
      exact h A' fA e
    · intro j hj ih A' fA e
      refine wb_R_keepsRow_3 hm ha ⟨fun c => absurd c (nI_ge hj (by omega)), fun _ => ⟨fun _ => ?_, fun c => absurd rfl c⟩⟩
      rw [nI_add, nI_clamp (by omega), nI_clamp (by omega), fA 28 (by simp; exact Ne.symm ha28)]
      refine ⟨vp_in_nI (by omega) (by omega), vp_in_nI (by omega) (by omega), wb_R_keepsRow_43 hm ?_⟩
      rw [nI_1]
      refine ih _ (fr_A fA (by simp)) (fun t ht => ?_)
      rw [upA_s]
      by_cases he : t = j
      · rw [he, upd_at]
      · rw [upd_ne he]; exact e t (by omega)
  exact key 0 (Nat.zero_le _) A fr_r (fun t ht => absurd ht (Nat.not_lt_zero t))
end IN5
theorem rW_sh {n : Nat} {f g : Nat → Int32} (hn : n ≤ 8) (h : ∀ k, k < 28 → f k = g k) : rW n f = rW n g := rW_c hn h
set_option maxHeartbeats 1000000 in
theorem R_image (hs : sOk s) : rCall m_R_image [] kA (.int 0) (f_image s) s := by
  intro d Q X H x P I A hr h
  have hm := @mo_R_image (meth (d + 59)) (meth_smono (d + 59))
  have h3' := hs.2.2.2.2.2.2.1
  have h16 := hs.2.2.2.2.2.1.1
  have h8 : sN s ≤ 8 := hs.2.1.1
  have hr' := hr
  obtain ⟨ht, hl, hw, hL, hb, hU, hM, h1, h2, h3⟩ := hr
  have eM : I 0 53 = nI (sM s).1 := hM.1
  have e3 : I 0 53 = 3 ↔ (sM s).1 = 3 := by rw [eM]; exact nI_eq (b := 3) (by omega) (by omega)
  unfold f_image at h
  refine me_R_image (wb_R_image_0 hm ⟨fun q => ?_, fun q => ?_⟩)
  · have q3 : ¬ (sM s).1 = 3 := fun z => q (e3.mpr z)
    rw [if_neg q3] at h
    have hm2 := @mo_R_keepsAll (meth (d + 58)) (meth_smono (d + 58))
    refine me_R_keepsAll (wb_R_keepsAll_0 hm2 ?_)
    rw [eM, show (477 : Int32) * nI (sM s).1 = nI (477 * (sM s).1) from pk_mul 477 _]
    refine sp_R_keep (a := 17) (n2 := 28) (k := 28) rfl (by decide) (by omega) (by omega) (by omega) (fun A1 f1 a1 b1 => wb_R_keepsAll_16 hm2 ?_)
    refine sp_R_keep (a := 19) (n2 := 448) (k := 448) rfl (by decide) (by omega) (by omega) (by omega) (fun A2 f2 a2 b2 => wb_R_keepsAll_30 hm2 ⟨fun z => absurd z (by decide), fun _ => ⟨vp_in_nI (by omega) (by omega), wb_R_keepsAll_58 hm2 (wb_R_image_24 hm ?_)⟩⟩)
    rw [nI_clamp (by omega)]
    have j53 : upI I 0 0 0 0 53 = nI (sM s).1 := by rw [upI_f (by decide)]; exact eM
    have j32 : upI I 0 0 0 0 32 = nI (sU s).1 := by rw [upI_f (by decide)]; exact hU.1
    rw [j53, j32, nI_1]
    have m19 : A1 19 = A 19 := f1 19 (by decide)
    generalize hB : upA A2 28 (477 * (sM s).1 + 28 + 448) (nI (sU s).1) = B
    have m : ∀ j, j ≠ 28 → B j = A j := fun j hj => by rw [← hB, upA_n hj, f2 j (by simp; exact hj), f1 j (by simp; exact hj)]
    have bo : ∀ j, j < 477 * (sM s).1 → B 28 j = A 28 j := fun j hj => by rw [← hB, upA_s, upd_ne (by omega), b2 j (by omega), b1 j (by omega)]
    have bw : ∀ t, t < 28 → B 28 (477 * (sM s).1 + t) = A 17 t := fun t ht => by rw [← hB, upA_s, upd_ne (by omega), b2 _ (by omega)]; exact a1 t ht
    have bu : ∀ t, t < 448 → B 28 (477 * (sM s).1 + 28 + t) = A 19 t := fun t ht => by rw [← hB, upA_s, upd_ne (by omega), a2 t ht, m19]
    have bc : B 28 (477 * (sM s).1 + 476) = nI (sU s).1 := by rw [← hB, upA_s, show 477 * (sM s).1 + 476 = 477 * (sM s).1 + 28 + 448 by omega, upd_at]
    have n : ∀ f, f ≠ 0 → f ≠ 53 → upI (upI I 0 0 0) 0 53 (nI ((sM s).1 + 1)) 0 f = I 0 f := fun f a b => by rw [upI_f b, upI_f a]
    refine h _ B _ ⟨?_, ?_, ?_, hL.mv (n 27 (by decide) (by decide)) (m 11 (by decide)) (m 12 (by decide)), ?_, ?_, ?_, by rw [n 33 (by decide) (by decide)]; exact h1, by rw [m 1 (by decide)]; exact h2, by rw [m 1 (by decide)]; exact h3⟩ ⟨by rw [upI_f (by decide), upI_s], rfl⟩
    · rw [n 2 (by decide) (by decide), n 8 (by decide) (by decide), m 2 (by decide)]; exact ht
    · show rLand (sZ s) _ _
      unfold rLand; rw [n 19 (by decide) (by decide), n 20 (by decide) (by decide), m 7 (by decide), m 8 (by decide)]; exact hl
    · show rW (sN s) (B 17) = sW s
      rw [m 17 (by decide)]; exact hw
    · rw [n 43 (by decide) (by decide), m 22 (by decide)]; exact hb
    · refine ⟨by rw [n 32 (by decide) (by decide)]; exact hU.1, fun i hi => ?_⟩
      rw [m 19 (by decide)]
      exact hU.2 i hi
    · refine ⟨by rw [upI_s]; rfl, fun i hi => ?_⟩
      have hi : i < (sM s).1 + 1 := hi
      show _ = nI (if i = (sM s).1 then (sW s, (sU s).1, (sU s).2) else (sM s).2 i).2.1 ∧ _ = (if i = (sM s).1 then (sW s, (sU s).1, (sU s).2) else (sM s).2 i).1 ∧ ∀ j, j < (if i = (sM s).1 then (sW s, (sU s).1, (sU s).2) else (sM s).2 i).2.1 → _ = (if i = (sM s).1 then (sW s, (sU s).1, (sU s).2) else (sM s).2 i).2.2 j
      by_cases he : i = (sM s).1
      · rw [if_pos he, he]
        refine ⟨bc, ?_, fun j hj => ?_⟩
        · show rW (sN s) _ = sW s
          rw [rW_sh h8 (g := A 17) (fun k hk => bw k hk)]; exact hw
        · have hj : j < (sU s).1 := hj
          show rW (sN s) _ = (sU s).2 j
          rw [rW_sh h8 (g := fun k => A 19 (28 * j + k)) (fun k hk => by rw [show 477 * (sM s).1 + 28 + 28 * j + k = 477 * (sM s).1 + 28 + (28 * j + k) by omega]; exact bu _ (by omega))]
          exact hU.2 j hj
      · rw [if_neg he]
        have hM2 := hM.2 i (by omega)
        have hc := (hs.2.2.2.2.2.2.2 i (by omega)).2.1
        refine ⟨by rw [bo _ (by omega)]; exact hM2.1, ?_, fun j hj => ?_⟩
        · show rW (sN s) _ = _
          rw [rW_sh h8 (g := fun k => A 28 (477 * i + k)) (fun k hk => bo _ (by omega))]; exact hM2.2.1
        · show rW (sN s) _ = _
          rw [rW_sh h8 (g := fun k => A 28 (477 * i + 28 + 28 * j + k)) (fun k hk => bo _ (by omega))]; exact hM2.2.2 j hj
  · rw [if_pos (e3.mp (Classical.not_not.mp q))] at h
    exact h _ A _ (rRep_0 hr') ⟨upI_s, rfl⟩
set_option maxHeartbeats 1000000 in
theorem R_restore (hs : sOk s) : rCall m_R_restore [] kA (.int 0) (f_restore s) s := by
  intro d Q X H x P I A hr h
  have hm := @mo_R_restore (meth (d + 59)) (meth_smono (d + 59))
  have h3' := hs.2.2.2.2.2.2.1
  have h8 : sN s ≤ 8 := hs.2.1.1
  have hr' := hr
  obtain ⟨ht, hl, hw, hL, hb, hU, hM, h1, h2, h3⟩ := hr
  have eM : I 0 53 = nI (sM s).1 := hM.1
  have e3 : I 0 53 = 0 ↔ (sM s).1 = 0 := by rw [eM]; exact nI_eq (b := 0) (by omega) (by omega)
  unfold f_restore at h
  refine me_R_restore (wb_R_restore_0 hm ⟨fun q => ?_, fun q => ?_⟩)
  · have q3 : ¬ (sM s).1 = 0 := fun z => q (e3.mpr z)
    rw [if_neg q3] at h
    have hM2 := hM.2 ((sM s).1 - 1) (by omega)
    have hc := (hs.2.2.2.2.2.2.2 ((sM s).1 - 1) (by omega)).2.1
    have hm2 := @mo_R_keepsAll (meth (d + 58)) (meth_smono (d + 58))
    refine me_R_keepsAll (wb_R_keepsAll_0 hm2 ?_)
    rw [eM, show nI (sM s).1 - 1 = nI ((sM s).1 - 1) by rw [show (1 : Int32) = nI 1 from rfl, nI_sub (by omega)], show (477 : Int32) * nI ((sM s).1 - 1) = nI (477 * ((sM s).1 - 1)) from pk_mul 477 _]
    refine sp_R_load (a := 17) (n2 := 28) (k := 28) rfl (by decide) (by omega) (by omega) (by omega) (fun A1 f1 a1 => wb_R_keepsAll_16 hm2 ?_)
    refine sp_R_load (a := 19) (n2 := 448) (k := 448) rfl (by decide) (by omega) (by omega) (by omega) (fun A2 f2 a2 => wb_R_keepsAll_30 hm2 ⟨fun _ => ⟨vp_in_nI (by omega) (by omega), wb_R_keepsAll_58 hm2 (wb_R_restore_33 hm ?_)⟩, fun z => absurd rfl z⟩)
    have m28 : A2 28 = A 28 := by rw [f2 28 (by decide), f1 28 (by decide)]
    have m281 : A1 28 = A 28 := f1 28 (by decide)
    have ecw : A2 28 (477 * ((sM s).1 - 1) + 28 + 448) = nI ((sM s).2 ((sM s).1 - 1)).2.1 := by rw [m28, show 477 * ((sM s).1 - 1) + 28 + 448 = 477 * ((sM s).1 - 1) + 476 by omega]; exact hM2.1
    rw [nI_clamp (by omega), ecw, upI_f (show (53 : Nat) ≠ 32 by decide), upI_s]
    have m : ∀ j, j ≠ 17 → j ≠ 19 → A2 j = A j := fun j a b => by rw [f2 j (by simp; exact b), f1 j (by simp; exact a)]
    generalize hJ : upI (upI (upI (upI I 0 0 0) 0 53 (nI ((sM s).1 - 1))) 0 32 (nI ((sM s).2 ((sM s).1 - 1)).2.1)) 0 33 0 = J
    have n : ∀ f, f ≠ 0 → f ≠ 32 → f ≠ 33 → f ≠ 53 → J 0 f = I 0 f := fun f a b c d => by rw [← hJ, upI_f c, upI_f b, upI_f d, upI_f a]
    refine h J A2 _ ⟨?_, ?_, ?_, hL.mv (n 27 (by decide) (by decide) (by decide) (by decide)) (m 11 (by decide) (by decide)) (m 12 (by decide) (by decide)), ?_, ?_, ?_, by rw [← hJ, upI_s]; rfl, by rw [m 1 (by decide) (by decide)]; exact h2, by rw [m 1 (by decide) (by decide)]; exact h3⟩ ⟨by rw [← hJ, upI_f (by decide), upI_f (by decide), upI_f (by decide), upI_s], rfl⟩
    · rw [n 2 (by decide) (by decide) (by decide) (by decide), n 8 (by decide) (by decide) (by decide) (by decide), m 2 (by decide) (by decide)]; exact ht
    · show rLand (sZ s) _ _
      unfold rLand; rw [n 19 (by decide) (by decide) (by decide) (by decide), n 20 (by decide) (by decide) (by decide) (by decide), m 7 (by decide) (by decide), m 8 (by decide) (by decide)]; exact hl
    · show rW (sN s) (A2 17) = ((sM s).2 ((sM s).1 - 1)).1
      rw [rW_sh h8 (g := fun k => A 28 (477 * ((sM s).1 - 1) + k)) (fun k hk => by rw [f2 17 (by decide)]; exact a1 k hk)]
      exact hM2.2.1
    · rw [n 43 (by decide) (by decide) (by decide) (by decide), m 22 (by decide) (by decide)]; exact hb
    · refine ⟨by rw [← hJ, upI_f (by decide), upI_s]; rfl, fun i hi => ?_⟩
      have hi : i < ((sM s).2 ((sM s).1 - 1)).2.1 := hi
      show rW (sN s) _ = ((sM s).2 ((sM s).1 - 1)).2.2 i
      rw [rW_sh h8 (g := fun k => A 28 (477 * ((sM s).1 - 1) + 28 + 28 * i + k)) (fun k hk => by rw [a2 _ (by omega), m281]; congr 1; omega)]
      exact hM2.2.2 i hi
    · refine ⟨by rw [← hJ, upI_f (by decide), upI_f (by decide), upI_s]; rfl, fun i hi => ?_⟩
      have hi : i < (sM s).1 - 1 := hi
      rw [m 28 (by decide) (by decide)]
      exact hM.2 i (by omega)
  · rw [if_pos (e3.mp (Classical.not_not.mp q))] at h
    exact h _ A _ (rRep_0 hr') ⟨upI_s, rfl⟩
end CA9
