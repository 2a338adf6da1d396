/-! ===== calls: undo, image, restore ===== -/
theorem cRow_c {n a : Nat} {f g : Nat → Int32} (hn : n ≤ 8) (h : ∀ j, a ≤ j → j < a + 21 → f j = g j) : cRow n f a = cRow n g a := by
  unfold cRow
  rw [rs_c (f := fun t => f (a + t)) (g := fun t => g (a + t)) (fun t ht => h _ (by omega) (by omega)), rs_c (f := fun t => f (a + 8 + t)) (g := fun t => g (a + 8 + t)) (fun t ht => h _ (by omega) (by omega)), h (a + 16) (by omega) (by omega), h (a + 17) (by omega) (by omega), h (a + 18) (by omega) (by omega), h (a + 19) (by omega) (by omega), h (a + 20) (by omega) (by omega)]
theorem cRow_sh {n a c : Nat} {f g : Nat → Int32} (hn : n ≤ 8) (h : ∀ j, j < 21 → f (a + j) = g (c + j)) : cRow n f a = cRow n g c := by
  unfold cRow
  rw [rs_c (f := fun t => f (a + t)) (g := fun t => g (c + t)) (fun t ht => h _ (by omega)), rs_c (f := fun t => f (a + 8 + t)) (g := fun t => g (c + 8 + t)) (fun t ht => by have := h (8 + t) (by omega); rwa [← Nat.add_assoc, ← Nat.add_assoc] at this), h 16 (by omega), h 17 (by omega), h 18 (by omega), h 19 (by omega), h 20 (by omega)]
section L2P
variable {d : Nat} {Q : gQ} {X : gX} {H : gH} {x : Nat} {P : Nat → Nat} {I A : Nat → Nat → Int32}
theorem ofn_sub {n1 at_ : Nat} (h1 : n1 ≤ 2000) (h2 : at_ + 21 ≤ n1) : nI at_ ≤ Int32.ofNat n1 - 21 := by
  show nI at_ ≤ nI n1 - nI 21
  rw [nI_sub (by omega), nI_leI (by omega) (by omega)]
  omega
set_option maxHeartbeats 1000000 in
theorem sp_World_load {o a n1 at_ : Nat} (ho : cck o = (8 + 2, 0)) (ha : cck a = (1, n1)) (hn1 : n1 ≤ 2000) (hat : at_ + 21 ≤ n1) (hao : a ≠ o + 1 ∧ a ≠ o + 2) (h : ∀ I' A', Fr [o] I I' → Fr [o + 1, o + 2] A A' → (∀ n, n ≤ 8 → cW n I' A' o = cRow n (A a) at_) → Q none (gset H x cck P I' A')) : meth (d + 1) m_World_load [.ref (x + o), .ref (x + a), .int (nI at_)] (gset H x cck P I A) Q X := by
  have hm := @mo_World_load (meth d) (meth_smono d)
  refine me_World_load (wb_World_load_0 hm ha ⟨fun q => absurd q (by rw [show (0 : Int32) = nI 0 from rfl, nI_ltI (by omega) (by omega)]; omega), fun _ => ⟨fun _ => ?_, fun q => absurd (ofn_sub hn1 hat) q⟩⟩)
  have key : ∀ k, k ≤ 8 → ∀ A', Fr [o + 1, o + 2] A A' → (∀ t, t < k → A' (o + 1) t = A a (at_ + t) ∧ A' (o + 2) t = A a (at_ + 8 + t)) → gWp (gTab (tb_World_load (meth d))) Q X 16 [some (.ref (x + o)), some (.ref (x + a)), some (.int (nI at_)), some (.int (nI k))] [] (gset H x cck P I A') := by
    refine gdown ?_ ?_
    · intro A' fA e
      have ea : A' a = A a := fA a (by simp; exact hao)
      have e1 : nI at_ + 16 = nI (at_ + 16) := nI_add _ 16
      have e2 : nI (at_ + 16) + 2 = nI (at_ + 18) := nI_add _ 2
      have e3 : nI (at_ + 16) + 3 = nI (at_ + 19) := nI_add _ 3
      have e4 : nI (at_ + 16) + 4 = nI (at_ + 20) := nI_add _ 4
      refine wb_World_load_16 hm ha ho ⟨fun _ => ?_, fun q => absurd (nI_le (Nat.le_refl 8) (by omega)) q⟩
      rw [e1, e2, e3, e4, nI_1, nI_clamp (by omega), nI_clamp (by omega), nI_clamp (by omega), nI_clamp (by omega), nI_clamp (by omega), ea]
      refine ⟨vp_in_nI (by omega) (by omega), vp_in_nI (by omega) (by omega), vp_in_nI (by omega) (by omega), vp_in_nI (by omega) (by omega), vp_in_nI (by omega) (by omega), h _ A' (fr_I (fr_I (fr_I (fr_I (fr_I fr_r (by simp)) (by simp)) (by simp)) (by simp)) (by simp)) fA (fun n hn => ?_)⟩
      unfold cW cRow
      rw [rs_c (f := A' (o + 1)) (g := fun t => A a (at_ + t)) (fun t ht => (e t (by omega)).1), rs_c (f := A' (o + 2)) (g := fun t => A a (at_ + 8 + t)) (fun t ht => (e t (by omega)).2)]
      simp only [upI_o]
      rfl
    · intro k hk ih A' fA e
      have ea : A' a = A a := fA a (by simp; exact hao)
      have e1 : nI at_ + nI k = nI (at_ + k) := nI_add _ _
      have e2 : nI at_ + 8 + nI k = nI (at_ + 8 + k) := by rw [show nI at_ + 8 = nI (at_ + 8) from nI_add _ 8, nI_add]
      refine wb_World_load_16 hm ha ho ⟨fun q => absurd q (nI_ge (b := 8) hk (by omega)), fun _ => ?_⟩
      rw [e1, e2, nI_clamp (by omega), nI_clamp (by omega), nI_clamp (by omega), upA_n (o := o + 1) (j := a) hao.1, ea, nI_1]
      refine ⟨vp_in_nI (by omega) (by omega), vp_in_nI (by omega) (by omega), vp_in_nI (by omega) (by omega), vp_in_nI (by omega) (by omega), ih _ (fr_A (fr_A fA (by simp)) (by simp)) (fun t ht => ?_)⟩
      rw [upA_n (o := o + 2) (j := o + 1) (by omega), upA_s, upA_s, upA_n (o := o + 1) (j := o + 2) (by omega)]
      by_cases he : t = k
      · rw [he, upd_at, upd_at]; exact ⟨rfl, rfl⟩
      · rw [upd_ne he, upd_ne he]; exact e t (by omega)
  exact key 0 (Nat.zero_le _) A fr_r (fun t ht => absurd ht (Nat.not_lt_zero t))
set_option maxHeartbeats 1000000 in
theorem sp_World_save {o a n1 at_ : Nat} (ho : cck o = (8 + 2, 0)) (ha : cck a = (1, n1)) (hn1 : n1 ≤ 2000) (hat : at_ + 21 ≤ n1) (hao : a ≠ o + 1 ∧ a ≠ o + 2) (h : ∀ A', Fr [a] A A' → (∀ n, n ≤ 8 → cRow n (A' a) at_ = cW n I A o) → (∀ j, j < at_ ∨ at_ + 21 ≤ j → A' a j = A a j) → Q none (gset H x cck P I A')) : meth (d + 1) m_World_save [.ref (x + o), .ref (x + a), .int (nI at_)] (gset H x cck P I A) Q X := by
  have hm := @mo_World_save (meth d) (meth_smono d)
  refine me_World_save (wb_World_save_0 hm ha ⟨fun q => absurd q (by rw [show (0 : Int32) = nI 0 from rfl, nI_ltI (by omega) (by omega)]; omega), fun _ => ⟨fun _ => ?_, fun q => absurd (ofn_sub hn1 hat) q⟩⟩)
  have key : ∀ k, k ≤ 8 → ∀ A', Fr [a] A A' → (∀ t, t < k → A' a (at_ + t) = A (o + 1) t ∧ A' a (at_ + 8 + t) = A (o + 2) t) → (∀ j, j < at_ ∨ at_ + 21 ≤ j → A' a j = A a j) → gWp (gTab (tb_World_save (meth d))) Q X 16 [some (.ref (x + o)), some (.ref (x + a)), some (.int (nI at_)), some (.int (nI k))] [] (gset H x cck P I A') := by
    refine gdown ?_ ?_
    · intro A' fA e ej
      have e1 : nI at_ + 16 = nI (at_ + 16) := nI_add _ 16
      have e2 : nI (at_ + 16) + 2 = nI (at_ + 18) := nI_add _ 2
      have e3 : nI (at_ + 16) + 3 = nI (at_ + 19) := nI_add _ 3
      have e4 : nI (at_ + 16) + 4 = nI (at_ + 20) := nI_add _ 4
      refine wb_World_save_16 hm ha ho ⟨fun _ => ?_, fun q => absurd (nI_le (Nat.le_refl 8) (by omega)) q⟩
      rw [e1, e2, e3, e4, nI_1, nI_clamp (by omega), nI_clamp (by omega), nI_clamp (by omega), nI_clamp (by omega), nI_clamp (by omega)]
      refine ⟨vp_in_nI (by omega) (by omega), vp_in_nI (by omega) (by omega), vp_in_nI (by omega) (by omega), vp_in_nI (by omega) (by omega), vp_in_nI (by omega) (by omega), h _ (fr_A (fr_A (fr_A (fr_A (fr_A fA (by simp)) (by simp)) (by simp)) (by simp)) (by simp)) (fun n hn => ?_) (fun j hj => ?_)⟩
      · unfold cW cRow
        simp only [upA_s]
        generalize hF : upd (upd (upd (upd (upd (A' a) (at_ + 16) (I o 3)) (at_ + 16 + 1) (I o 4)) (at_ + 18) (I o 5)) (at_ + 19) (I o 6)) (at_ + 20) (I o 7) = F
        have f1 : ∀ t, t < n → F (at_ + t) = A (o + 1) t := fun t ht => by rw [← hF, upd_ne (by omega), upd_ne (by omega), upd_ne (by omega), upd_ne (by omega), upd_ne (by omega)]; exact (e t (by omega)).1
        have f2 : ∀ t, t < n → F (at_ + 8 + t) = A (o + 2) t := fun t ht => by rw [← hF, upd_ne (by omega), upd_ne (by omega), upd_ne (by omega), upd_ne (by omega), upd_ne (by omega)]; exact (e t (by omega)).2
        have g16 : F (at_ + 16) = I o 3 := by rw [← hF, upd_ne (by omega), upd_ne (by omega), upd_ne (by omega), upd_ne (by omega), upd_at]
        have g17 : F (at_ + 17) = I o 4 := by rw [← hF, upd_ne (by omega), upd_ne (by omega), upd_ne (by omega), upd_at]
        have g18 : F (at_ + 18) = I o 5 := by rw [← hF, upd_ne (by omega), upd_ne (by omega), upd_at]
        have g19 : F (at_ + 19) = I o 6 := by rw [← hF, upd_ne (by omega), upd_at]
        have g20 : F (at_ + 20) = I o 7 := by rw [← hF, upd_at]
        rw [rs_c (f := fun t => F (at_ + t)) (g := A (o + 1)) f1, rs_c (f := fun t => F (at_ + 8 + t)) (g := A (o + 2)) f2, g16, g17, g18, g19, g20]
      · simp only [upA_s]
        rw [upd_ne (by omega), upd_ne (by omega), upd_ne (by omega), upd_ne (by omega), upd_ne (by omega)]
        exact ej j hj
    · intro k hk ih A' fA e ej
      have eo1 : A' (o + 1) = A (o + 1) := fA _ (by simp; omega)
      have eo2 : A' (o + 2) = A (o + 2) := fA _ (by simp; omega)
      have e1 : nI at_ + nI k = nI (at_ + k) := nI_add _ _
      have e2 : nI at_ + 8 + nI k = nI (at_ + 8 + k) := by rw [show nI at_ + 8 = nI (at_ + 8) from nI_add _ 8, nI_add]
      refine wb_World_save_16 hm ha ho ⟨fun q => absurd q (nI_ge (b := 8) hk (by omega)), fun _ => ?_⟩
      rw [e1, e2, nI_clamp (by omega), nI_clamp (by omega), nI_clamp (by omega), upA_n (o := a) (j := o + 2) (by omega), eo1, eo2, nI_1]
      refine ⟨vp_in_nI (by omega) (by omega), vp_in_nI (by omega) (by omega), vp_in_nI (by omega) (by omega), vp_in_nI (by omega) (by omega), ih _ (fr_A (fr_A fA (by simp)) (by simp)) (fun t ht => ?_) (fun j hj => ?_)⟩
      · simp only [upA_s]
        by_cases he : t = k
        · rw [he, upd_ne (by omega), upd_at, upd_at]; exact ⟨rfl, rfl⟩
        · rw [upd_ne (by omega), upd_ne (by omega), upd_ne (by omega), upd_ne (by omega)]; exact e t (by omega)
      · simp only [upA_s]
        rw [upd_ne (by omega), upd_ne (by omega)]; exact ej j hj
  exact key 0 (Nat.zero_le _) A fr_r (fun t ht => absurd ht (Nat.not_lt_zero t)) (fun _ _ => rfl)
end L2P
section CA8
variable {s : ST}
def sUndo (s : ST) : ST := (s.1, sZ s, (sU s).2 ((sU s).1 - 1), sE s, sK s, ((sU s).1 - 1, (sU s).2), sM s, 0, sX0 s, sX1 s)
def f_undo (s : ST) : (Value ⊕ String) × ST := if (sU s).1 = 0 then (.inl (.int (-1)), s) else (.inl (.int (nI ((sU s).1 - 1))), sUndo s)
theorem nI_m21 {u : Nat} : nI u * 21 = nI (21 * u) := by rw [show (21 : Int32) = nI 21 from rfl, Int32.mul_comm]; exact (Int32.ofNat_mul 21 u).symm
theorem C_undo (hs : sOk s) : cCall m_S_undo [] (f_undo s) s := by
  intro d Q X H x P I A hr h
  have hm := @mo_S_undo (meth (d + 59)) (meth_smono (d + 59))
  have h16 := hs.2.2.2.2.2.1.1
  have h8 : sN s ≤ 8 := hs.2.1.1
  obtain ⟨hp, ht, hl, hw, hL, hb, hU, hM, h1, h2, h3⟩ := hr
  have eU : I 40 2 = nI (sU s).1 := hU.1
  unfold f_undo at h
  refine me_S_undo (wb_S_undo_0 hm ⟨fun q => ?_, fun q => ?_⟩)
  · rw [eU, show (1 : Int32) = nI 1 from rfl, nI_leI (by omega) (by omega)] at q
    rw [if_neg (by omega)] at h
    have hm2 := @mo_Past_takeWork (meth (d + 58)) (meth_smono (d + 58))
    refine me_Past_takeWork (wb_Past_takeWork_0 hm2 (o1 := 13) rfl ⟨fun z => absurd z (by rw [eU, show (0 : Int32) = nI 0 from rfl, nI_leI (by omega) (by omega)]; omega), fun _ => ?_⟩)
    rw [eU, show nI (sU s).1 - 1 = nI ((sU s).1 - 1) by rw [show (1 : Int32) = nI 1 from rfl, nI_sub q], nI_m21]
    refine sp_World_load (o := 13) (a := 41) rfl rfl (by omega) (by omega) (by decide) (fun I' A' fI fA ew => wb_Past_takeWork_32 hm2 (wb_S_undo_24 hm ?_))
    have i40 : I' 40 = upI I 40 2 (nI ((sU s).1 - 1)) 40 := fI 40 (by decide)
    have n : ∀ j, j ≠ 0 → j ≠ 13 → j ≠ 40 → upI I' 0 13 0 j = I j := fun j a b c => by rw [upI_n a, fI j (by simp; exact b), upI_n c]
    have m : ∀ j, j ≠ 14 → j ≠ 15 → A' j = A j := fun j a b => fA j (by simp; exact ⟨a, b⟩)
    have p1 : P 1 = 3 ∨ P 1 = 8 := by rcases hp.1 with ⟨e, _⟩ | ⟨e, _⟩ <;> omega
    have p5 : P 5 = 21 ∨ P 5 = 25 := by rcases hp.2.1 with ⟨e, _⟩ | ⟨e, _⟩ <;> omega
    have p7 : P 7 = 29 ∨ P 7 = 32 := by rcases hp.2.2 with ⟨e, _⟩ | ⟨e, _⟩ <;> omega
    have ec : I' 40 2 = nI ((sU s).1 - 1) := by rw [i40, upI_s]
    have i0 : upI I' 0 13 0 0 = upd (I' 0) 13 0 := upI_o
    have i0' : I' 0 = I 0 := by rw [fI 0 (by decide), upI_n (by decide)]
    rw [ec]
    refine h P _ A' ⟨hp, ?_, ?_, ?_, hL.mv (by rw [n _ (by omega) (by omega) (by omega)]) (m _ (by omega) (by omega)), ?_, ?_, ?_, by rw [upI_s]; rfl, by rw [i0, upd_ne (by decide), i0']; exact h2, by rw [i0, upd_ne (by decide), i0']; exact h3⟩
    · rw [n 1 (by decide) (by decide) (by decide), m 2 (by decide) (by decide)]; exact ht
    · show cLand (sZ s) (P 1) _ _
      unfold cLand; rw [n _ (by omega) (by omega) (by omega), m _ (by omega) (by omega), m _ (by omega) (by omega), m _ (by omega) (by omega), m _ (by omega) (by omega)]; exact hl
    · show cW (sN s) _ _ 13 = (sU s).2 ((sU s).1 - 1)
      rw [cW_c (o := 13) (I := I') (A := A') (upI_n (by decide)) rfl rfl, ew (sN s) h8]
      exact hU.2 _ (by omega)
    · show bC (P 7) (sK s) _ _
      unfold bC; rw [n _ (by omega) (by omega) (by omega), m _ (by omega) (by omega)]; exact hb
    · refine ⟨by rw [upI_n (by decide)]; exact ec, fun i hi => ?_⟩
      have hi : i < (sU s).1 - 1 := hi
      rw [m 41 (by decide) (by decide)]
      exact hU.2 i (by omega)
    · show cImgs s _ _
      unfold cImgs
      rw [m 42 (by decide) (by decide), upI_n (show (40 : Nat) ≠ 0 by decide), i40, upI_f (by decide)]
      exact hM
  · rw [eU, show (1 : Int32) = nI 1 from rfl, nI_leI (by omega) (by omega)] at q
    rw [if_pos (by omega)] at h
    exact h P I A ⟨hp, ht, hl, hw, hL, hb, hU, hM, h1, h2, h3⟩
theorem R_undo (hs : sOk s) : rCall m_R_undo [] kA (.int 0) (f_undo s) s := by
  intro d Q X H x P I A hr h
  have hm := @mo_R_undo (meth (d + 59)) (meth_smono (d + 59))
  have h16 := hs.2.2.2.2.2.1.1
  have h8 : sN s ≤ 8 := hs.2.1.1
  have hr' := hr
  obtain ⟨ht, hl, hw, hL, hb, hU, hM, h1, h2, h3⟩ := hr
  have eU : I 0 32 = nI (sU s).1 := hU.1
  unfold f_undo at h
  have e0 : I 0 32 = 0 ↔ (sU s).1 = 0 := by rw [eU]; exact nI_eq (b := 0) (by omega) (by omega)
  refine me_R_undo (wb_R_undo_0 hm ⟨fun q => ?_, fun q => ?_⟩)
  · have q0 : ¬ (sU s).1 = 0 := fun z => q (e0.mpr z)
    rw [if_neg q0] at h
    rw [eU, show nI (sU s).1 - 1 = nI ((sU s).1 - 1) by rw [show (1 : Int32) = nI 1 from rfl, nI_sub (by omega)]]
    generalize hJ : upI (upI I 0 0 0) 0 32 (nI ((sU s).1 - 1)) = J
    have j32 : J 0 32 = nI ((sU s).1 - 1) := by rw [← hJ, upI_s]
    have key : ∀ k, k ≤ 28 → ∀ A', Fr [17] A A' → (∀ t, t < k → A' 17 t = A 19 (28 * ((sU s).1 - 1) + t)) → gWp (gTab (tb_R_undo (meth (d + 59)))) Q X 26 [some (.ref (x + 0)), some (.int (nI k))] [] (gset H x mck P J A') := by
      refine gdown ?_ ?_
      · intro A' fA e
        refine wb_R_undo_26 hm ⟨fun _ => ?_, fun q => absurd (nI_le (Nat.le_refl 28) (by omega)) q⟩
        have n : ∀ f, f ≠ 0 → f ≠ 32 → f ≠ 33 → upI J 0 33 0 0 f = I 0 f := fun f a b c => by rw [upI_f c, ← hJ, upI_f b, upI_f a]
        have m : ∀ j, j ≠ 17 → A' j = A j := fun j a => fA j (by simp; exact a)
        rw [j32]
        refine h _ A' _ ⟨?_, ?_, ?_, hL.mv (n 27 (by decide) (by decide) (by decide)) (m 11 (by decide)) (m 12 (by decide)), ?_, ?_, ?_, by rw [upI_s]; rfl, by rw [m 1 (by decide)]; exact h2, by rw [m 1 (by decide)]; exact h3⟩ ⟨by rw [upI_f (by decide), ← hJ, upI_f (by decide), upI_s], rfl⟩
        · rw [n 2 (by decide) (by decide) (by decide), n 8 (by decide) (by decide) (by decide), m 2 (by decide)]; exact ht
        · show rLand (sZ s) _ _
          unfold rLand; rw [n 19 (by decide) (by decide) (by decide), n 20 (by decide) (by decide) (by decide), m 7 (by decide), m 8 (by decide)]; exact hl
        · show rW (sN s) (A' 17) = (sU s).2 ((sU s).1 - 1)
          rw [rW_c h8 (s' := fun k => A 19 (28 * ((sU s).1 - 1) + k)) e]
          exact hU.2 _ (by omega)
        · rw [n 43 (by decide) (by decide) (by decide), m 22 (by decide)]; exact hb
        · refine ⟨by rw [upI_f (by decide)]; exact j32, fun i hi => ?_⟩
          have hi : i < (sU s).1 - 1 := hi
          rw [m 19 (by decide)]
          exact hU.2 i (by omega)
        · show rImgs s _ _
          unfold rImgs; rw [n 53 (by decide) (by decide) (by decide), m 28 (by decide)]; exact hM
      · intro k hk ih A' fA e
        refine wb_R_undo_26 hm ⟨fun q => absurd q (nI_ge (b := 28) hk (by omega)), fun _ => ?_⟩
        have e1 : (28 : Int32) * nI ((sU s).1 - 1) + nI k = nI (28 * ((sU s).1 - 1) + k) := by rw [show (28 : Int32) * nI ((sU s).1 - 1) = nI (28 * ((sU s).1 - 1)) from pk_mul 28 _, nI_add]
        rw [j32, e1, nI_clamp (by omega), nI_clamp (by omega), nI_1, fA 19 (by decide)]
        refine ⟨vp_in_nI (by omega) (by omega), vp_in_nI (by omega) (by omega), ih _ (fr_A fA (by simp)) (fun t ht => ?_)⟩
        rw [upA_s]
        by_cases he : t = k
        · rw [he, upd_at]
        · rw [upd_ne he]; exact e t (by omega)
    exact key 0 (Nat.zero_le _) A fr_r (fun t ht => absurd ht (Nat.not_lt_zero t))
  · rw [if_pos (e0.mp (Classical.not_not.mp q))] at h
    exact h _ A _ (rRep_0 hr') ⟨upI_s, rfl⟩
-- image, restore
def sImg (s : ST) : ST := (s.1, sZ s, sW s, sE s, sK s, sU s, ((sM s).1 + 1, fun i => if i = (sM s).1 then (sW s, (sU s).1, (sU s).2) else (sM s).2 i), sR s, sX0 s, sX1 s)
def f_image (s : ST) : (Value ⊕ String) × ST := if (sM s).1 = 3 then (.inl (.int (-1)), s) else (.inl (.int (nI ((sM s).1 + 1))), sImg s)
def sRes (s : ST) : ST := (s.1, sZ s, ((sM s).2 ((sM s).1 - 1)).1, sE s, sK s, (((sM s).2 ((sM s).1 - 1)).2.1, ((sM s).2 ((sM s).1 - 1)).2.2), ((sM s).1 - 1, (sM s).2), 0, sX0 s, sX1 s)
def f_restore (s : ST) : (Value ⊕ String) × ST := if (sM s).1 = 0 then (.inl (.int (-1)), s) else (.inl (.int (nI ((sM s).1 - 1))), sRes s)
theorem va_cpy_in {f g : Nat → Int32} {sp dp n j : Nat} (h1 : dp ≤ j) (h2 : j < dp + n) : va_cpy f g sp dp n j = f (sp + (j - dp)) := by
  unfold va_cpy
  rw [if_pos ⟨h1, h2⟩]
theorem va_cpy_out {f g : Nat → Int32} {sp dp n j : Nat} (h : j < dp ∨ dp + n ≤ j) : va_cpy f g sp dp n j = g j := by
  unfold va_cpy
  rw [if_neg (by omega)]
end CA8
