/-! ===== L2: who may be moved ===== -/
def wOk (n : Nat) (w : WS) : Prop := ∀ t, t < n → ∃ v b, 1 ≤ v ∧ v ≤ 999 ∧ b ≤ v ∧ wV w t = nI v ∧ wB w t = nI b
def wmost (w : WS) (a c : Nat) : Nat := if a = c then 0 else min (min (wB w a).toNatClampNeg ((wV w a).toNatClampNeg - 1)) (min 99 (999 - (wV w c).toNatClampNeg))
def wcanI (w : WS) (a c : Nat) (k : Int32) : Int32 := if 1 ≤ k ∧ k ≤ nI (wmost w a c) then 1 else 0
theorem nI_sub {a b : Nat} (h : b ≤ a) : nI a - nI b = nI (a - b) := by
  have e : nI a = nI (a - b) + nI b := by rw [nI_add, Nat.sub_add_cancel h]
  rw [e, Int32.add_sub_cancel]
theorem gmin_n {a b : Nat} (ha : a < 2 ^ 31) (hb : b < 2 ^ 31) : gmin (nI a) (nI b) = nI (min a b) := by
  unfold gmin
  by_cases h : b < a
  · rw [if_pos (nI_lt h ha), Nat.min_eq_right (by omega)]
  · rw [if_neg (nI_nlt (by omega) hb), Nat.min_eq_left (by omega)]
theorem gmax_n {a b : Nat} (ha : a < 2 ^ 31) (hb : b < 2 ^ 31) : gmax (nI a) (nI b) = nI (max a b) := by
  unfold gmax
  by_cases h : a < b
  · rw [if_pos (nI_lt h hb), Nat.max_eq_right (by omega)]
  · rw [if_neg (nI_nlt (by omega) ha), Nat.max_eq_left (by omega)]
theorem wmost_99 (w : WS) (a c : Nat) : wmost w a c ≤ 99 := by
  unfold wmost
  by_cases h : a = c
  · rw [if_pos h]; omega
  · rw [if_neg h]; omega
section L2M
variable {d : Nat} {Q : gQ} {X : gX} {H : gH} {x : Nat} {P : Nat → Nat} {I A : Nat → Nat → Int32}
theorem sp_World_mostMovable {o n a c : Nat} (ho : cck o = (8 + 2, 0)) (hn8 : n ≤ 8) (hw : wOk n (cW n I A o)) (ha : a < n) (hc : c < n) (h : Q (some (.int (nI (wmost (cW n I A o) a c)))) (gset H x cck P I A)) : meth (d + 1) m_World_mostMovable [.ref (x + o), .int (nI a), .int (nI c)] (gset H x cck P I A) Q X := by
  have hm := @mo_World_mostMovable (meth d) (meth_smono d)
  obtain ⟨v, b, v1, v9, bv, ev, eb⟩ := hw a ha
  obtain ⟨u, _, u1, u9, _, eu, _⟩ := hw c hc
  have eV : wV (cW n I A o) a = A (o + 1) a := rs_at ha
  have eB : wB (cW n I A o) a = A (o + 2) a := rs_at ha
  have eU : wV (cW n I A o) c = A (o + 1) c := rs_at hc
  have i1 : vp_in (nI a) 8 := vp_in_nI (by omega) (by omega)
  have i2 : vp_in (nI c) 8 := vp_in_nI (by omega) (by omega)
  have pa : ¬ nI a < 0 := nI_pos (by omega)
  have pc : ¬ nI c < 0 := nI_pos (by omega)
  have qa : ¬ (8 : Int32) ≤ nI a := nI_ge (b := 8) (by omega) (by omega)
  have qc : nI c < 8 := nI_lt (b := 8) (by omega) (by omega)
  refine me_World_mostMovable (wb_World_mostMovable_0 hm ho ⟨fun k => wb_World_mostMovable_25 hm ?_, fun k => ⟨fun k2 => absurd k2 pa, fun _ => ⟨fun k2 => absurd k2 qa, fun _ => ⟨fun k2 => absurd k2 pc, fun _ => ⟨fun _ => ⟨i1, i1, i2, ?_⟩, fun k2 => absurd qc k2⟩⟩⟩⟩⟩)
  · have e : a = c := (nI_eq (by omega) (by omega)).mp k
    unfold wmost at h
    rw [if_pos e] at h
    exact h
  · have e : a ≠ c := fun q => k (by rw [q])
    unfold wmost at h
    rw [if_neg e, ev, eb, eu, nI_clamp (by omega), nI_clamp (by omega), nI_clamp (by omega)] at h
    rw [nI_clamp (by omega), nI_clamp (by omega), ← eV, ← eB, ← eU, ev, eb, eu]
    have e1 : nI v - 1 = nI (v - 1) := nI_sub (b := 1) v1
    have e2 : (999 : Int32) - nI u = nI (999 - u) := nI_sub (a := 999) u9
    rw [e1, e2, gmin_n (by omega) (by omega), show (99 : Int32) = nI 99 from rfl, gmin_n (by omega) (by omega), gmin_n (by omega) (by omega), show (0 : Int32) = nI 0 from rfl, gmax_n (by omega) (by omega), Nat.max_eq_right (Nat.zero_le _)]
    exact h
theorem sp_World_movable {o n a c : Nat} {k : Int32} (ho : cck o = (8 + 2, 0)) (hn8 : n ≤ 8) (hw : wOk n (cW n I A o)) (ha : a < n) (hc : c < n) (h : Q (some (.int (wcanI (cW n I A o) a c k))) (gset H x cck P I A)) : meth (d + 2) m_World_movable [.ref (x + o), .int (nI a), .int (nI c), .int k] (gset H x cck P I A) Q X := by
  have hm := @mo_World_movable (meth (d + 1)) (meth_smono (d + 1))
  refine me_World_movable (wb_World_movable_0 hm ho ⟨fun c1 => wb_World_movable_19 hm (wb_World_movable_20 hm ⟨rfl, ?_⟩), fun c1 => sp_World_mostMovable ho hn8 hw ha hc (wb_World_movable_12 hm ⟨fun c2 => wb_World_movable_19 hm (wb_World_movable_20 hm ⟨rfl, ?_⟩), fun c2 => wb_World_movable_20 hm ⟨rfl, ?_⟩⟩)⟩)
  · unfold wcanI at h
    rw [if_neg (fun q => by rw [Int32.lt_iff_toInt_lt] at c1; have := q.1; rw [Int32.le_iff_toInt_le] at this; omega)] at h
    exact h
  · unfold wcanI at h
    rw [if_neg (fun q => by rw [Int32.lt_iff_toInt_lt] at c2; have := q.2; rw [Int32.le_iff_toInt_le] at this; omega)] at h
    exact h
  · unfold wcanI at h
    rw [if_pos ⟨by rw [Int32.lt_iff_toInt_lt] at c1; rw [Int32.le_iff_toInt_le]; omega, by rw [Int32.lt_iff_toInt_lt] at c2; rw [Int32.le_iff_toInt_le]; omega⟩] at h
    exact h
theorem sp_R_canMove {n a c : Nat} {k : Int32} (hn8 : n ≤ 8) (hw : wOk n (rW n (A 18))) (ha : a < n) (hc : c < n) (h : Q (some (.int (wcanI (rW n (A 18)) a c k))) (gset H x mck P I A)) : meth (d + 1) m_R_canMove [.ref (x + 0), .int (nI a), .int (nI c), .int k] (gset H x mck P I A) Q X := by
  have hm := @mo_R_canMove (meth d) (meth_smono d)
  obtain ⟨v, b, v1, v9, bv, ev, eb⟩ := hw a ha
  obtain ⟨u, _, u1, u9, _, eu, _⟩ := hw c hc
  have eV : wV (rW n (A 18)) a = A 18 a := rs_at ha
  have eB : wB (rW n (A 18)) a = A 18 (8 + a) := rs_at (f := fun t => A 18 (8 + t)) ha
  have eU : wV (rW n (A 18)) c = A 18 c := rs_at hc
  have i1 : vp_in ((8 : Int32) + nI a) 28 := by rw [n_8]; exact vp_in_nI (by omega) (by omega)
  have i2 : vp_in ((0 : Int32) + nI a) 28 := by rw [n_z]; exact vp_in_nI (by omega) (by omega)
  have i3 : vp_in ((0 : Int32) + nI c) 28 := by rw [n_z]; exact vp_in_nI (by omega) (by omega)
  have c1 : ((8 : Int32) + nI a).toNatClampNeg = 8 + a := by rw [n_8, nI_clamp (by omega)]
  have c2 : ((0 : Int32) + nI a).toNatClampNeg = a := by rw [n_z, nI_clamp (by omega)]
  have c3 : ((0 : Int32) + nI c).toNatClampNeg = c := by rw [n_z, nI_clamp (by omega)]
  have no : wcanI (rW n (A 18)) a c k = 0 → gWp (gTab (tb_R_canMove (meth d))) Q X 61 [some (.ref (x + 0)), some (.int (nI a)), some (.int (nI c)), some (.int k)] [] (gset H x mck P I A) := fun e => wb_R_canMove_61 hm (wb_R_canMove_62 hm ⟨rfl, by rw [e] at h; exact h⟩)
  have hmo := wmost_99 (rW n (A 18)) a c
  refine me_R_canMove (wb_R_canMove_0 hm ⟨fun q => no ?_, fun q => ⟨fun q1 => no ?_, fun q1 => ⟨fun q2 => no ?_, fun q2 => ⟨i1, ?_⟩⟩⟩⟩)
  · have e : a = c := (nI_eq (by omega) (by omega)).mp q
    unfold wcanI wmost
    rw [if_pos e, if_neg (fun z => by have h1 := z.1; have h2 := z.2; rw [Int32.le_iff_toInt_le] at h1 h2; rw [nI_toInt (by omega)] at h2; have : (1 : Int32).toInt = 1 := rfl; omega)]
  · unfold wcanI
    rw [if_neg (fun z => by have h1 := z.1; rw [Int32.le_iff_toInt_le] at h1; rw [Int32.lt_iff_toInt_lt] at q1; omega)]
  · unfold wcanI
    rw [if_neg (fun z => by have h2 := z.2; rw [Int32.le_iff_toInt_le, nI_toInt (by omega)] at h2; rw [Int32.lt_iff_toInt_lt] at q2; have : (99 : Int32).toInt = 99 := rfl; omega)]
  · have e : a ≠ c := fun z => q (by rw [z])
    obtain ⟨j, hj, rfl⟩ := nI_of2 (M := 99) (n := 99) rfl (x := k) (fun z => q1 (by rw [Int32.lt_iff_toInt_lt] at z ⊢; have e0 : (0 : Int32).toInt = 0 := rfl; have e1 : (1 : Int32).toInt = 1 := rfl; omega)) (by rw [Int32.lt_iff_toInt_lt] at q2; rw [Int32.le_iff_toInt_le]; omega)
    have j1 : 1 ≤ j := by
      rcases Nat.eq_zero_or_pos j with z | z
      · subst z; exact absurd (by decide) q1
      · exact z
    have hval : wcanI (rW n (A 18)) a c (nI j) = if j ≤ min (min b (v - 1)) (min 99 (999 - u)) then 1 else 0 := by
      unfold wcanI wmost
      rw [if_neg e, ev, eb, eu, nI_clamp (by omega), nI_clamp (by omega), nI_clamp (by omega)]
      by_cases z : j ≤ min (min b (v - 1)) (min 99 (999 - u))
      · rw [if_pos z, if_pos ⟨nI_le (a := 1) j1 (by omega), nI_le z (by omega)⟩]
      · rw [if_neg z, if_neg (fun y => z ((nI_leI (by omega) (by omega)).mp y.2))]
    rw [c1, c2, c3, ← eV, ← eB, ← eU, ev, eb, eu, nI_add]
    refine ⟨fun q3 => no ?_, fun q3 => ⟨i2, fun q4 => no ?_, fun q4 => ⟨i3, fun q5 => no ?_, fun q5 => wb_R_canMove_62 hm ⟨rfl, ?_⟩⟩⟩⟩
    · have := (nI_ltI (by omega) (by omega)).mp q3
      rw [hval, if_neg (by omega)]
    · have := (nI_leI (by omega) (by omega)).mp q4
      rw [hval, if_neg (by omega)]
    · have := (nI_ltI (a := 999) (by omega) (by omega)).mp q5
      rw [hval, if_neg (by omega)]
    · have z3 : ¬ b < j := fun z => q3 (nI_lt z (by omega))
      have z4 : ¬ v ≤ j := fun z => q4 (nI_le z (by omega))
      have z5 : ¬ 999 < u + j := fun z => q5 (nI_lt (a := 999) z (by omega))
      rw [hval, if_pos (by omega)] at h
      exact h
end L2M
