/-! ===== fresh objects ===== -/
def sInit : ST := sNew (fun _ => 0, 0, -1) zNil 0 0
theorem sInit_ok : sOk sInit := sOk_new (Nat.zero_le _) zNil_ok
theorem rs_thrown {d : Nat} {Q : gQ} {X : gX} {H : gH} {x : Nat} {P : Nat → Nat} {I A : Nat → Nat → Int32} (h : Q (some (.int (I 0 0))) (gset H x mck P I A)) : meth (d + 1) m_R_thrown [.ref (x + 0)] (gset H x mck P I A) Q X := by
  have hm := @mo_R_thrown (meth d) (meth_smono d)
  exact me_R_thrown (wb_R_thrown_0 hm h)
theorem cRep_init {P : Nat → Nat} {I A : Nat → Nat → Int32} (hp : pOkP P) (p1 : P 1 = 3) (p5 : P 5 = 21) (p7 : P 7 = 29) (i11 : I 1 1 = 0) (i18 : I 1 8 = -1) (a2 : A 2 = fun _ => 0) (i30 : I 3 0 = 0) (i31 : I 3 1 = 0) (w3 : I 13 3 = 0) (w4 : I 13 4 = 1) (w5 : I 13 5 = 0) (w6 : I 13 6 = 1) (w7 : I 13 7 = 0) (l3 : I 21 3 = nI 5) (l1 : A 22 = plain0) (b2 : I 29 2 = 0) (b3 : I 29 3 = 0) (k2 : I 40 2 = 0) (k3 : I 40 3 = 0) (x13 : I 0 13 = 0) (x14 : I 0 14 = 0) (x15 : I 0 15 = 0) : cRep sInit P I A := by
  refine ⟨hp, ⟨i11, i18, a2⟩, ?_, ?_, ?_, ?_, ?_, ?_, x13, x14, x15⟩
  · rw [p1]; exact ⟨i30, i31, fun t ht => absurd ht (Nat.not_lt_zero t), fun t ht => absurd ht (Nat.not_lt_zero t)⟩
  · show cW 0 I A 13 = wNew zNil
    unfold cW wNew
    rw [w4, w5, w6, w7]
    rw [rs_c (n := 0) (f := A (13 + 1)) (g := fun t => nI (zV zNil t)) (fun t ht => absurd ht (Nat.not_lt_zero t)), rs_c (n := 0) (f := A (13 + 2)) (g := fun t => nI (zB zNil t)) (fun t ht => absurd ht (Nat.not_lt_zero t)), rs_c (n := 0) (f := fun t => (I 13 3 >>> (nI t &&& 31)) &&& 1) (g := fun _ => 0) (fun t ht => absurd ht (Nat.not_lt_zero t))]
    rfl
  · rw [p5]
    exact LawAt_of rfl (plain_code l3 (fun i _ => by rw [l1])) (by decide) plain_chk
  · rw [p7]
    refine ⟨b2, fun t ht => ?_, fun t _ hne => absurd rfl hne⟩
    rw [b3, b_0]
    exact ⟨fun q => (by cases q), fun q => absurd rfl q⟩
  · exact ⟨k2, fun i hi => absurd hi (Nat.not_lt_zero i)⟩
  · exact ⟨k3, fun i hi => absurd hi (Nat.not_lt_zero i)⟩
theorem rRep_init {I A I' A' : Nat → Nat → Int32} (h : rSet zNil I A I' A') (i2 : I 0 2 = 0) (i8 : I 0 8 = -1) (a2 : A 2 = fun _ => 0) (a10 : A 1 0 = 0) (a11 : A 1 1 = 0) : rRep sInit I' A' := by
  obtain ⟨m, n, s1, s2, s27, s32, s33, s43, s53, s22⟩ := h
  refine ⟨⟨?_, ?_, ?_⟩, s1, s2, RLawAt_plain s27, ⟨s43, s22⟩, ⟨s32, fun i hi => absurd hi (Nat.not_lt_zero i)⟩, ⟨s53, fun i hi => absurd hi (Nat.not_lt_zero i)⟩, s33, ?_, ?_⟩
  · rw [m 2 (by decide) (by decide) (by decide) (by decide) (by decide) (by decide) (by decide)]; exact i2
  · rw [m 8 (by decide) (by decide) (by decide) (by decide) (by decide) (by decide) (by decide)]; exact i8
  · rw [n 2 (by decide)]; exact a2
  · rw [n 1 (by decide)]; exact a10
  · rw [n 1 (by decide)]; exact a11
