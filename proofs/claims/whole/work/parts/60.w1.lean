/-! ===== L2: World and Land, sides and seats ===== -/
theorem gdown {p : Nat → Prop} {n : Nat} (he : p n) (hb : ∀ k, k < n → p (k + 1) → p k) : ∀ k, k ≤ n → p k := by
  have key : ∀ j, j ≤ n → p (n - j) := by
    intro j
    induction j with
    | zero => intro _; exact he
    | succ j ih =>
      intro hj
      refine hb (n - (j + 1)) (by omega) ?_
      rw [show n - (j + 1) + 1 = n - j by omega]
      exact ih (by omega)
  intro k hk
  have := key (n - k) (by omega)
  rwa [show n - (n - k) = k by omega] at this
def fside (b v : Int32) : Int32 := if 2 * b ≤ v then (if v ≤ 2 * b then 2 else 1) else 0
def fbits (p : Int32) (V B : Nat → Int32) : Nat → Int32
  | 0 => 0
  | k + 1 => fbits p V B k ||| (if fside (B k) (V k) = p then 1 <<< (nI k &&& 31) else 0)
def fsum (f : Nat → Int32) : Nat → Int32
  | 0 => 0
  | k + 1 => fsum f k + f k
section L2W
variable {d : Nat} {Q : gQ} {X : gX} {H : gH} {x : Nat} {P : Nat → Nat} {I A : Nat → Nat → Int32}
theorem sp_World_sideBy {b v : Int32} (h : Q (some (.int (fside b v))) (gset H x cck P I A)) : meth (d + 1) m_World_sideBy [.int b, .int v] (gset H x cck P I A) Q X := by
  have hm := @mo_World_sideBy (meth d) (meth_smono d)
  refine me_World_sideBy (wb_World_sideBy_0 hm ⟨fun c => ⟨fun c2 => wb_World_sideBy_21 hm ?_, fun c2 => wb_World_sideBy_21 hm ?_⟩, fun c => ?_⟩)
  · simpa [fside, c, c2] using h
  · simpa [fside, c, c2] using h
  · simpa [fside, c] using h
theorem sp_World_side {o : Nat} {t : Int32} (ho : cck o = (8 + 2, 0)) (ht : vp_in t 8) (h : Q (some (.int (fside (A (o + 2) t.toNatClampNeg) (A (o + 1) t.toNatClampNeg)))) (gset H x cck P I A)) : meth (d + 2) m_World_side [.ref (x + o), .int t] (gset H x cck P I A) Q X := by
  have hm := @mo_World_side (meth (d + 1)) (meth_smono (d + 1))
  exact me_World_side (wb_World_side_0 hm ho ⟨ht, ht, sp_World_sideBy (wb_World_side_15 hm h)⟩)
theorem sp_World_sideBits {o l n : Nat} {p : Int32} (ho : cck o = (8 + 2, 0)) (hl : cck l = (3 + 2, 0)) (hn : I l 0 = nI n) (hn8 : n ≤ 8) (h : Q (some (.int (fbits p (A (o + 1)) (A (o + 2)) n))) (gset H x cck P I A)) : meth (d + 3) m_World_sideBits [.ref (x + o), .int p, .ref (x + l)] (gset H x cck P I A) Q X := by
  have hm := @mo_World_sideBits (meth (d + 2)) (meth_smono (d + 2))
  refine me_World_sideBits (wb_World_sideBits_0 hm ?_)
  have key : ∀ k, k ≤ n → gWp (gTab (tb_World_sideBits (meth (d + 2)))) Q X 5 [some (.ref (x + o)), some (.int p), some (.ref (x + l)), some (.int (fbits p (A (o + 1)) (A (o + 2)) k)), some (.int (nI k))] [] (gset H x cck P I A) := by
    refine gdown ?_ ?_
    · exact wb_World_sideBits_5 hm ho hl ⟨fun _ => h, fun c => absurd (by rw [hn]; exact nI_le (Nat.le_refl n) (by omega)) c⟩
    · intro k hk ih
      refine wb_World_sideBits_5 hm ho hl ⟨fun c => absurd c (by rw [hn]; exact nI_ge hk (by omega)), fun _ => sp_World_side ho (vp_in_nI (by omega) (by omega)) (wb_World_sideBits_21 hm ⟨fun c => wb_World_sideBits_33 hm ?_, fun c => wb_World_sideBits_33 hm ?_⟩)⟩
      · rw [nI_clamp (by omega)] at c
        rw [nI_succ, fbits, if_neg c] at ih
        exact ih
      · rw [nI_clamp (by omega)] at c
        rw [nI_succ, fbits, if_pos (Classical.not_not.mp c)] at ih
        exact ih
  exact key 0 (Nat.zero_le n)
theorem sp_Land_seatsIn {l n : Nat} {s : Int32} (hl : cck l = (3 + 2, 0)) (hn : I l 0 = nI n) (hn8 : n ≤ 8) (h : Q (some (.int (fsum (fun t => if (s >>> (nI t &&& 31)) &&& 1 = 1 then A (l + 1) t else 0) n))) (gset H x cck P I A)) : meth (d + 1) m_Land_seatsIn [.ref (x + l), .int s] (gset H x cck P I A) Q X := by
  have hm := @mo_Land_seatsIn (meth d) (meth_smono d)
  refine me_Land_seatsIn (wb_Land_seatsIn_0 hm ?_)
  have key : ∀ k, k ≤ n → gWp (gTab (tb_Land_seatsIn (meth d))) Q X 4 [some (.ref (x + l)), some (.int s), some (.int (fsum (fun t => if (s >>> (nI t &&& 31)) &&& 1 = 1 then A (l + 1) t else 0) k)), some (.int (nI k))] [] (gset H x cck P I A) := by
    refine gdown ?_ ?_
    · exact wb_Land_seatsIn_4 hm hl ⟨fun _ => h, fun c => absurd (by rw [hn]; exact nI_le (Nat.le_refl n) (by omega)) c⟩
    · intro k hk ih
      refine wb_Land_seatsIn_4 hm hl ⟨fun c => absurd c (by rw [hn]; exact nI_ge hk (by omega)), fun _ => ⟨fun c => wb_Land_seatsIn_32 hm ?_, fun c => ⟨vp_in_nI (by omega) (by omega), wb_Land_seatsIn_32 hm ?_⟩⟩⟩
      · rw [nI_succ, fsum, if_neg c] at ih
        exact ih
      · rw [nI_succ, fsum, if_pos (Classical.not_not.mp c)] at ih
        rw [nI_clamp (by omega)]
        exact ih
  exact key 0 (Nat.zero_le n)
theorem sp_World_seatsOf {o l n : Nat} {p : Int32} (ho : cck o = (8 + 2, 0)) (hl : cck l = (3 + 2, 0)) (hn : I l 0 = nI n) (hn8 : n ≤ 8) (h : Q (some (.int (fsum (fun t => if (fbits p (A (o + 1)) (A (o + 2)) n >>> (nI t &&& 31)) &&& 1 = 1 then A (l + 1) t else 0) n))) (gset H x cck P I A)) : meth (d + 4) m_World_seatsOf [.ref (x + o), .int p, .ref (x + l)] (gset H x cck P I A) Q X := by
  have hm := @mo_World_seatsOf (meth (d + 3)) (meth_smono (d + 3))
  exact me_World_seatsOf (wb_World_seatsOf_0 hm ho (sp_World_sideBits ho hl hn hn8 (wb_World_seatsOf_7 hm hl (sp_Land_seatsIn hl hn hn8 (wb_World_seatsOf_10 hm h)))))
end L2W
