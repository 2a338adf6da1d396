/-! ===== the reference's first sets, to the letter ===== -/
def zA : Nat → Nat → Int32 := fun _ _ => 0
def m1A : Nat → Int32 := fun t => if t < 8 then -1 else 0
def iA : Nat → Nat → Int32 := upA (upA (upC zA 22 m1A) 17 24 1) 17 25 1
def iI (I : Nat → Nat → Int32) : Nat → Nat → Int32 := upI (upI (upI (upI (upI (upI (upI I 0 19 (I 0 16)) 0 20 (I 0 17)) 0 27 0) 0 43 0) 0 32 0) 0 53 0) 0 33 0
section ST0
variable {d : Nat} {Q : gQ} {X : gX} {H : gH} {x : Nat} {P : Nat → Nat} {I : Nat → Nat → Int32}
theorem fr_eq {A A' : Nat → Nat → Int32} {b : Nat} {f : Nat → Int32} (h : Fr [b] A A') (e : ∀ t, A' b t = f t) : A' = upC A b f := by
  funext j
  by_cases hj : j = b
  · rw [hj, upC_s]; funext t; exact e t
  · rw [upC_n hj, h j (by simp; exact hj)]
theorem zA_C {b : Nat} : upC zA b (fun _ => 0) = zA := upC_id (A := zA) (o := b)
theorem sp_R_sets0 (h16 : I 0 16 = 0) (h18 : I 0 18 = 1) (h : Q none (gset H x mck P (iI I) iA)) : meth (d + 2) m_R_sets [.ref (x + 0)] (gset H x mck P I zA) Q X := by
  have hm := @mo_R_sets (meth (d + 1)) (meth_smono (d + 1))
  have cp : ∀ (a b k : Nat) (A' : Nat → Nat → Int32), Fr [b] zA A' → (∀ t, t < k → A' b t = zA a t) → (∀ t, k ≤ t → A' b t = zA b t) → A' = zA := fun a b k A' f e1 e2 => by
    rw [fr_eq (f := fun _ => 0) f (fun t => by
      by_cases ht : t < k
      · exact e1 t ht
      · exact e2 t (by omega)), zA_C]
  refine me_R_sets (wb_R_sets_0 hm (sp_R_copies (a := 5) (b := 7) (n1 := 8) (n2 := 8) (k := 8) rfl rfl (by omega) (by omega) (by omega) (by omega) (by decide) (fun A1 f1 e1 g1 => ?_)))
  rw [cp 5 7 8 A1 f1 e1 g1]
  refine wb_R_sets_30 hm (sp_R_copies (a := 6) (b := 8) (n1 := 24) (n2 := 24) (k := 24) rfl rfl (by omega) (by omega) (by omega) (by omega) (by decide) (fun A2 f2 e2 g2 => ?_))
  rw [cp 6 8 24 A2 f2 e2 g2]
  refine wb_R_sets_44 hm ?_
  rw [show upI (upI (upI (upI (upI (upI (upI I 0 19 (I 0 16)) 0 20 (I 0 17)) 0 27 0) 0 43 0) 0 32 0) 0 53 0) 0 33 0 = iI I from rfl]
  have j19 : iI I 0 19 = 0 := by unfold iI; rw [upI_f (by decide), upI_f (by decide), upI_f (by decide), upI_f (by decide), upI_f (by decide), upI_f (by decide), upI_s]; exact h16
  have j18 : iI I 0 18 = 1 := by unfold iI; rw [upI_f (by decide), upI_f (by decide), upI_f (by decide), upI_f (by decide), upI_f (by decide), upI_f (by decide), upI_f (by decide)]; exact h18
  have l92 : ∀ i, i ≤ 28 → gWp (gTab (tb_R_sets (meth (d + 1)))) Q X 92 [some (.ref (x + 0)), some (.int (nI i))] [] (gset H x mck P (iI I) (upC zA 22 m1A)) := by
    refine gdown ?_ ?_
    · refine wb_R_sets_92 hm ⟨fun _ => wb_R_sets_113 hm ?_, fun q => absurd (nI_le (a := 28) (by omega) (by omega)) q⟩
      rw [j19, j18]
      exact ⟨fun _ => ⟨vp_in_nI (n := 24) (by omega) (by omega), vp_in_nI (n := 25) (by omega) (by omega), h⟩, fun q => absurd (by decide) q⟩
    · intro i hi ih
      refine wb_R_sets_92 hm ⟨fun q => absurd q (nI_ge (b := 28) hi (by omega)), fun _ => ⟨vp_in_nI (by omega) (by omega), ?_⟩⟩
      rw [nI_clamp (by omega), nI_1, upA_to, upC_n (show (17 : Nat) ≠ 22 by decide), show upd (zA 17) i 0 = zA 17 by funext t; by_cases ht : t = i <;> simp [upd, ht, zA]]
      have e : upC (upC zA 22 m1A) 17 (zA 17) = upC zA 22 m1A := by
        have := upC_id (A := upC zA 22 m1A) (o := 17)
        rw [upC_n (show (17 : Nat) ≠ 22 by decide)] at this
        exact this
      rw [e]
      exact ih
  have l71 : ∀ i, i ≤ 8 → gWp (gTab (tb_R_sets (meth (d + 1)))) Q X 71 [some (.ref (x + 0)), some (.int (nI i))] [] (gset H x mck P (iI I) (upC zA 22 (fun t => if t < i then -1 else 0))) := by
    refine gdown ?_ ?_
    · exact wb_R_sets_71 hm ⟨fun _ => l92 0 (Nat.zero_le _), fun q => absurd (nI_le (a := 8) (by omega) (by omega)) q⟩
    · intro i hi ih
      refine wb_R_sets_71 hm ⟨fun q => absurd q (nI_ge (b := 8) hi (by omega)), fun _ => ⟨vp_in_nI (by omega) (by omega), ?_⟩⟩
      rw [nI_clamp (by omega), nI_1, upA_up]
      have e : upd (fun t => if t < i then (-1 : Int32) else 0) i (-1) = fun t => if t < i + 1 then -1 else 0 := by
        funext t
        by_cases he : t = i
        · rw [he, upd_at, if_pos (by omega)]
        · rw [upd_ne he]
          by_cases hl : t < i
          · rw [if_pos hl, if_pos (by omega)]
          · rw [if_neg hl, if_neg (by omega)]
      rw [e]
      exact ih
  have z := l71 0 (Nat.zero_le _)
  rw [show (fun t : Nat => if t < 0 then (-1 : Int32) else 0) = fun _ => 0 by funext t; rw [if_neg (Nat.not_lt_zero t)], zA_C] at z
  exact z
theorem rRep_iA (h16 : I 0 16 = 0) (h17 : I 0 17 = 0) (i2 : I 0 2 = 0) (i8 : I 0 8 = -1) : rRep sInit (iI I) iA := by
  have a : ∀ j, j ≠ 17 → j ≠ 22 → iA j = fun _ => 0 := fun j h1 h2 => by unfold iA; rw [upA_n h1, upA_n h1, upC_n h2]; rfl
  have n : ∀ f, f ≠ 19 → f ≠ 20 → f ≠ 27 → f ≠ 32 → f ≠ 33 → f ≠ 43 → f ≠ 53 → iI I 0 f = I 0 f := fun f a1 a2 a3 a4 a5 a6 a7 => by unfold iI; rw [upI_f a5, upI_f a7, upI_f a4, upI_f a6, upI_f a3, upI_f a2, upI_f a1]
  refine ⟨⟨?_, ?_, a 2 (by decide) (by decide)⟩, ⟨?_, ?_, fun t ht => absurd ht (Nat.not_lt_zero t), fun t ht => absurd ht (Nat.not_lt_zero t)⟩, ?_, RLawAt_plain ?_, ⟨?_, fun t ht => ?_⟩, ⟨?_, fun i hi => absurd hi (Nat.not_lt_zero i)⟩, ⟨?_, fun i hi => absurd hi (Nat.not_lt_zero i)⟩, ?_, ?_, ?_⟩
  · rw [n 2 (by decide) (by decide) (by decide) (by decide) (by decide) (by decide) (by decide)]; exact i2
  · rw [n 8 (by decide) (by decide) (by decide) (by decide) (by decide) (by decide) (by decide)]; exact i8
  · unfold iI; rw [upI_f (by decide), upI_f (by decide), upI_f (by decide), upI_f (by decide), upI_f (by decide), upI_f (by decide), upI_s]; exact h16
  · unfold iI; rw [upI_f (by decide), upI_f (by decide), upI_f (by decide), upI_f (by decide), upI_f (by decide), upI_s]; exact h17
  · show rW 0 (iA 17) = wNew zNil
    unfold rW wNew
    rw [rs_c (n := 0) (f := iA 17) (g := fun t => nI (zV zNil t)) (fun t ht => absurd ht (Nat.not_lt_zero t)), rs_c (n := 0) (f := fun t => iA 17 (8 + t)) (g := fun t => nI (zB zNil t)) (fun t ht => absurd ht (Nat.not_lt_zero t)), rs_c (n := 0) (f := fun t => iA 17 (16 + t)) (g := fun _ => 0) (fun t ht => absurd ht (Nat.not_lt_zero t))]
    rfl
  · unfold iI; rw [upI_f (by decide), upI_f (by decide), upI_f (by decide), upI_f (by decide), upI_s]
  · unfold iI; rw [upI_f (by decide), upI_f (by decide), upI_f (by decide), upI_s]; rfl
  · unfold iA; rw [upA_n (by decide), upA_n (by decide), upC_s]; exact if_pos ht
  · unfold iI; rw [upI_f (by decide), upI_f (by decide), upI_s]; rfl
  · unfold iI; rw [upI_f (by decide), upI_s]; rfl
  · unfold iI; rw [upI_s]; rfl
  · rw [a 1 (by decide) (by decide)]; rfl
  · rw [a 1 (by decide) (by decide)]; rfl
end ST0
