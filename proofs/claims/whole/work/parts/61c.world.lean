theorem nx_and (a b : Nat) : nI a &&& nI b = nI (a &&& b) := by
  apply Int32.toBitVec_inj.1
  show BitVec.ofNat 32 a &&& BitVec.ofNat 32 b = BitVec.ofNat 32 (a &&& b)
  apply BitVec.eq_of_getLsbD_eq
  intro i hi
  simp [hi]
theorem wb_of32 (x : Int32) : ∃ n, n < 2 ^ 32 ∧ x = nI n := ⟨x.toBitVec.toNat, x.toBitVec.isLt, Int32.toBitVec_inj.mp (by show _ = BitVec.ofNat 32 _; simp)⟩
def fbc (v0 : Int32) : Int32 := ((((((((v0 - (((v0.toUInt32 >>> ((1 : Int32).toUInt32 &&& Int32.toUInt32 31)).toInt32) &&& 1431655765)) &&& 858993459) + ((((v0 - (((v0.toUInt32 >>> ((1 : Int32).toUInt32 &&& Int32.toUInt32 31)).toInt32) &&& 1431655765)).toUInt32 >>> ((2 : Int32).toUInt32 &&& Int32.toUInt32 31)).toInt32) &&& 858993459)) + (((((v0 - (((v0.toUInt32 >>> ((1 : Int32).toUInt32 &&& Int32.toUInt32 31)).toInt32) &&& 1431655765)) &&& 858993459) + ((((v0 - (((v0.toUInt32 >>> ((1 : Int32).toUInt32 &&& Int32.toUInt32 31)).toInt32) &&& 1431655765)).toUInt32 >>> ((2 : Int32).toUInt32 &&& Int32.toUInt32 31)).toInt32) &&& 858993459)).toUInt32 >>> ((4 : Int32).toUInt32 &&& Int32.toUInt32 31)).toInt32)) &&& 252645135) + (((((((v0 - (((v0.toUInt32 >>> ((1 : Int32).toUInt32 &&& Int32.toUInt32 31)).toInt32) &&& 1431655765)) &&& 858993459) + ((((v0 - (((v0.toUInt32 >>> ((1 : Int32).toUInt32 &&& Int32.toUInt32 31)).toInt32) &&& 1431655765)).toUInt32 >>> ((2 : Int32).toUInt32 &&& Int32.toUInt32 31)).toInt32) &&& 858993459)) + (((((v0 - (((v0.toUInt32 >>> ((1 : Int32).toUInt32 &&& Int32.toUInt32 31)).toInt32) &&& 1431655765)) &&& 858993459) + ((((v0 - (((v0.toUInt32 >>> ((1 : Int32).toUInt32 &&& Int32.toUInt32 31)).toInt32) &&& 1431655765)).toUInt32 >>> ((2 : Int32).toUInt32 &&& Int32.toUInt32 31)).toInt32) &&& 858993459)).toUInt32 >>> ((4 : Int32).toUInt32 &&& Int32.toUInt32 31)).toInt32)) &&& 252645135).toUInt32 >>> ((8 : Int32).toUInt32 &&& Int32.toUInt32 31)).toInt32)) + ((((((((v0 - (((v0.toUInt32 >>> ((1 : Int32).toUInt32 &&& Int32.toUInt32 31)).toInt32) &&& 1431655765)) &&& 858993459) + ((((v0 - (((v0.toUInt32 >>> ((1 : Int32).toUInt32 &&& Int32.toUInt32 31)).toInt32) &&& 1431655765)).toUInt32 >>> ((2 : Int32).toUInt32 &&& Int32.toUInt32 31)).toInt32) &&& 858993459)) + (((((v0 - (((v0.toUInt32 >>> ((1 : Int32).toUInt32 &&& Int32.toUInt32 31)).toInt32) &&& 1431655765)) &&& 858993459) + ((((v0 - (((v0.toUInt32 >>> ((1 : Int32).toUInt32 &&& Int32.toUInt32 31)).toInt32) &&& 1431655765)).toUInt32 >>> ((2 : Int32).toUInt32 &&& Int32.toUInt32 31)).toInt32) &&& 858993459)).toUInt32 >>> ((4 : Int32).toUInt32 &&& Int32.toUInt32 31)).toInt32)) &&& 252645135) + (((((((v0 - (((v0.toUInt32 >>> ((1 : Int32).toUInt32 &&& Int32.toUInt32 31)).toInt32) &&& 1431655765)) &&& 858993459) + ((((v0 - (((v0.toUInt32 >>> ((1 : Int32).toUInt32 &&& Int32.toUInt32 31)).toInt32) &&& 1431655765)).toUInt32 >>> ((2 : Int32).toUInt32 &&& Int32.toUInt32 31)).toInt32) &&& 858993459)) + (((((v0 - (((v0.toUInt32 >>> ((1 : Int32).toUInt32 &&& Int32.toUInt32 31)).toInt32) &&& 1431655765)) &&& 858993459) + ((((v0 - (((v0.toUInt32 >>> ((1 : Int32).toUInt32 &&& Int32.toUInt32 31)).toInt32) &&& 1431655765)).toUInt32 >>> ((2 : Int32).toUInt32 &&& Int32.toUInt32 31)).toInt32) &&& 858993459)).toUInt32 >>> ((4 : Int32).toUInt32 &&& Int32.toUInt32 31)).toInt32)) &&& 252645135).toUInt32 >>> ((8 : Int32).toUInt32 &&& Int32.toUInt32 31)).toInt32)).toUInt32 >>> ((16 : Int32).toUInt32 &&& Int32.toUInt32 31)).toInt32)) &&& 63)
theorem b_small {x : Int32} (h : ∀ i, 8 ≤ i → i < 32 → bt x i = false) : ∃ k, k < 256 ∧ x = nI k := by
  obtain ⟨m, hm, rfl⟩ := wb_of32 x
  refine ⟨m &&& 255, Nat.lt_of_le_of_lt Nat.and_le_right (by omega), ?_⟩
  rw [← nx_and]
  apply b_ext
  intro i hi
  rw [b_and, show nI 255 = 255 from rfl, b_255]
  by_cases h8 : i < 8
  · rw [decide_eq_true h8, Bool.and_true]
  · rw [h i (by omega) hi, Bool.false_and]
theorem fbc_256 : ∀ k, k < 256 → fbc (nI k) = fsum (fun o => if bt (nI k) o = true then 1 else 0) 8 := by decide +kernel
theorem fsum_cut {f : Nat → Int32} {n m : Nat} (h : ∀ t, n ≤ t → t < n + m → f t = 0) : fsum f (n + m) = fsum f n := by
  induction m with
  | zero => rfl
  | succ m ih => rw [← Nat.add_assoc, fsum, ih (fun t h1 h2 => h t h1 (by omega)), h (n + m) (by omega) (by omega), Int32.add_zero]
theorem fbc_near {N : Int32} {V B : Nat → Int32} {n : Nat} (hn : n ≤ 8) (hN : ∀ i, i < 32 → bt N i = true → i < n) : fbc (N &&& fbits 0 V B n) = fsum (fun o => if bt N o = true ∧ fside (B o) (V o) = 0 then 1 else 0) n := by
  obtain ⟨k, hk, hx⟩ := b_small (x := N &&& fbits 0 V B n) (fun i h8 hi => by
    rw [b_and]
    cases hb : bt N i
    · rfl
    · exact absurd (hN i hi hb) (by omega))
  rw [hx, fbc_256 k hk, show (8 : Nat) = n + (8 - n) by omega, ← hx]
  have hb : ∀ o, o < 8 → (bt (N &&& fbits 0 V B n) o = true ↔ bt N o = true ∧ fside (B o) (V o) = 0) := by
    intro o ho
    rw [b_and, bt_fbits (by omega) (by omega), Bool.and_eq_true, Bool.and_eq_true, decide_eq_true_eq, decide_eq_true_eq]
    exact ⟨fun h => ⟨h.1, h.2.2⟩, fun h => ⟨h.1, hN o (by omega) h.1, h.2⟩⟩
  rw [fsum_cut (fun t h1 h2 => by
    rw [if_neg]
    intro q
    have := hN t (by omega) ((hb t (by omega)).mp q).1
    omega)]
  refine fsum_c (fun t ht => ?_)
  by_cases hc : bt N t = true ∧ fside (B t) (V t) = 0
  · rw [if_pos hc, if_pos ((hb t (by omega)).mpr hc)]
  · rw [if_neg hc, if_neg (fun q => hc ((hb t (by omega)).mp q))]
theorem vpd {i : Int32} {n : Nat} (h : (decide (i < 0) || decide (n ≤ i.toNatClampNeg)) = false) : vp_in i n := by
  rw [Bool.or_eq_false_iff, decide_eq_false_iff_not, decide_eq_false_iff_not] at h
  exact fun q => q.elim h.1 h.2
theorem upA_to {A : Nat → Nat → Int32} {o i : Nat} {a : Int32} : upA A o i a = upC A o (upd (A o) i a) := upA_C.symm
theorem upC_s {A : Nat → Nat → Int32} {o : Nat} {g : Nat → Int32} : upC A o g o = g := by simp [upC]
theorem upC_n {A : Nat → Nat → Int32} {o j : Nat} {g : Nat → Int32} (h : j ≠ o) : upC A o g j = A j := by simp [upC, h]
theorem upC_C {A : Nat → Nat → Int32} {o : Nat} {f g : Nat → Int32} : upC (upC A o f) o g = upC A o g := by
  funext j
  unfold upC
  by_cases h : j = o
  · rw [if_pos h, if_pos h]
  · rw [if_neg h, if_neg h, if_neg h]
theorem upA_up {A : Nat → Nat → Int32} {o i : Nat} {a : Int32} {f : Nat → Int32} : upA (upC A o f) o i a = upC A o (upd f i a) := by rw [upA_to, upC_s, upC_C]
theorem upC_id {A : Nat → Nat → Int32} {o : Nat} : upC A o (A o) = A := by
  funext j
  unfold upC
  by_cases h : j = o
  · rw [if_pos h, h]
  · rw [if_neg h]
def tell6 (f : Nat → Int32) (a b c d e g : Int32) : Nat → Int32 := upd (upd (upd (upd (upd (upd f 0 a) 1 b) 2 c) 4 d) 5 e) 8 g
def tell4 (f : Nat → Int32) (a b c d : Int32) : Nat → Int32 := upd (upd (upd (upd f 3 a) 6 b) 7 c) 9 d
theorem tell_fct {f : Nat → Int32} {v b c cm s nr vt pt t y : Int32} : ∀ k, k < 10 → tell4 (tell6 f v b c s nr t) cm vt pt y k = fct v b c cm s nr vt pt t y k := by
  intro k hk
  rcases (show k = 0 ∨ k = 1 ∨ k = 2 ∨ k = 3 ∨ k = 4 ∨ k = 5 ∨ k = 6 ∨ k = 7 ∨ k = 8 ∨ k = 9 by omega) with rfl | rfl | rfl | rfl | rfl | rfl | rfl | rfl | rfl | rfl <;> rfl
/-- the law that lies at q: asked, it answers ev of the facts told; it writes on its stack alone -/
def LawAt (I A : Nat → Nat → Int32) (q : Nat) (ev : (Nat → Int32) → Int32) : Prop :=
  ∀ (d : Nat) (Q : gQ) (X : gX) (H : gH) (x : Nat) (P : Nat → Nat) (I' A' : Nat → Nat → Int32), I' q 3 = I q 3 → A' (q + 1) = A (q + 1) → (∀ K, Q (some (.int (ev (A' (q + 2))))) (gset H x cck P I' (upC A' (q + 3) K))) → meth (d + 2) m_Law_outcome [.ref (x + q)] (gset H x cck P I' A') Q X
theorem LawAt.mv {I A I' A' : Nat → Nat → Int32} {q : Nat} {ev : (Nat → Int32) → Int32} (h : LawAt I A q ev) (h1 : I' q 3 = I q 3) (h2 : A' (q + 1) = A (q + 1)) : LawAt I' A' q ev :=
  fun d Q X H x P I2 A2 e1 e2 k => h d Q X H x P I2 A2 (e1.trans h1) (e2.trans h2) k
section L2X
variable {d : Nat} {Q : gQ} {X : gX} {H : gH} {x : Nat} {P : Nat → Nat} {I A : Nat → Nat → Int32}
theorem sp_bitCount {v : Int32} (h : Q (some (.int (fbc v))) (gset H x cck P I A)) : meth (d + 1) m_Integer_bitCount [.int v] (gset H x cck P I A) Q X := by
  have hm := @mo_Integer_bitCount (meth d) (meth_smono d)
  exact me_Integer_bitCount (wb_Integer_bitCount_0 hm h)
theorem sp_World_parted {o : Nat} {t : Int32} (ho : cck o = (8 + 2, 0)) (h : Q (some (.int ((I o 3 >>> (t &&& 31)) &&& 1))) (gset H x cck P I A)) : meth (d + 1) m_World_parted [.ref (x + o), .int t] (gset H x cck P I A) Q X := by
  have hm := @mo_World_parted (meth d) (meth_smono d)
  exact me_World_parted (wb_World_parted_0 hm ho h)
theorem sp_World_shifted {o : Nat} {t m : Int32} (ho : cck o = (8 + 2, 0)) (ht : vp_in t 8) (h : Q (some (.int (fhold (A (o + 2) t.toNatClampNeg) (A (o + 1) t.toNatClampNeg) m))) (gset H x cck P I A)) : meth (d + 1) m_World_shifted [.ref (x + o), .int t, .int m] (gset H x cck P I A) Q X := by
  have hm := @mo_World_shifted (meth d) (meth_smono d)
  exact me_World_shifted (wb_World_shifted_0 hm ho ⟨ht, ht, h⟩)
theorem sp_World_apart {o : Nat} {t : Int32} (ho : cck o = (8 + 2, 0)) (ht : vp_in t 8) (h : Q (some (.int (gabs (2 * A (o + 2) t.toNatClampNeg - A (o + 1) t.toNatClampNeg)))) (gset H x cck P I A)) : meth (d + 1) m_World_apart [.ref (x + o), .int t] (gset H x cck P I A) Q X := by
  have hm := @mo_World_apart (meth d) (meth_smono d)
  exact me_World_apart (wb_World_apart_0 hm ho ⟨ht, ht, h⟩)
theorem sp_World_allVoters {o l n : Nat} (ho : cck o = (8 + 2, 0)) (hl : cck l = (3 + 2, 0)) (hn : I l 0 = nI n) (hn8 : n ≤ 8) (h : Q (some (.int (fsum (A (o + 1)) n))) (gset H x cck P I A)) : meth (d + 1) m_World_allVoters [.ref (x + o), .ref (x + l)] (gset H x cck P I A) Q X := by
  have hm := @mo_World_allVoters (meth d) (meth_smono d)
  refine me_World_allVoters (wb_World_allVoters_0 hm ?_)
  have key : ∀ k, k ≤ n → gWp (gTab (tb_World_allVoters (meth d))) Q X 4 [some (.ref (x + o)), some (.ref (x + l)), some (.int (fsum (A (o + 1)) k)), some (.int (nI k))] [] (gset H x cck P I A) := by
    refine gdown ?_ ?_
    · exact wb_World_allVoters_4 hm ho hl ⟨fun _ => h, fun c => absurd (by rw [hn]; exact nI_le (Nat.le_refl n) (by omega)) c⟩
    · intro k hk ih
      refine wb_World_allVoters_4 hm ho hl ⟨fun c => absurd c (by rw [hn]; exact nI_ge hk (by omega)), fun _ => ⟨vp_in_nI (by omega) (by omega), ?_⟩⟩
      rw [nI_succ, fsum] at ih
      rw [nI_clamp (by omega)]
      exact ih
  exact key 0 (Nat.zero_le n)
theorem sp_World_allBreathe {o l n : Nat} (ho : cck o = (8 + 2, 0)) (hl : cck l = (3 + 2, 0)) (hn : I l 0 = nI n) (hn8 : n ≤ 8) (h : Q (some (.int (fsum (A (o + 2)) n))) (gset H x cck P I A)) : meth (d + 1) m_World_allBreathe [.ref (x + o), .ref (x + l)] (gset H x cck P I A) Q X := by
  have hm := @mo_World_allBreathe (meth d) (meth_smono d)
  refine me_World_allBreathe (wb_World_allBreathe_0 hm ?_)
  have key : ∀ k, k ≤ n → gWp (gTab (tb_World_allBreathe (meth d))) Q X 4 [some (.ref (x + o)), some (.ref (x + l)), some (.int (fsum (A (o + 2)) k)), some (.int (nI k))] [] (gset H x cck P I A) := by
    refine gdown ?_ ?_
    · exact wb_World_allBreathe_4 hm ho hl ⟨fun _ => h, fun c => absurd (by rw [hn]; exact nI_le (Nat.le_refl n) (by omega)) c⟩
    · intro k hk ih
      refine wb_World_allBreathe_4 hm ho hl ⟨fun c => absurd c (by rw [hn]; exact nI_ge hk (by omega)), fun _ => ⟨vp_in_nI (by omega) (by omega), ?_⟩⟩
      rw [nI_succ, fsum] at ih
      rw [nI_clamp (by omega)]
      exact ih
  exact key 0 (Nat.zero_le n)
theorem sp_Law_tellTown {q : Nat} {a b c e f g : Int32} (hq : cck q = (4 + 2, 0)) (h : Q none (gset H x cck P I (upC A (q + 2) (tell6 (A (q + 2)) a b c e f g)))) : meth (d + 1) m_Law_tellTown [.ref (x + q), .int a, .int b, .int c, .int e, .int f, .int g] (gset H x cck P I A) Q X := by
  have hm := @mo_Law_tellTown (meth d) (meth_smono d)
  refine me_Law_tellTown (wb_Law_tellTown_0 hm hq ⟨vpd (by decide), vpd (by decide), vpd (by decide), vpd (by decide), vpd (by decide), vpd (by decide), ?_⟩)
  simp only [upA_to, upC_s, upC_C]
  exact h
theorem sp_Law_tellAll {q : Nat} {a b c e : Int32} (hq : cck q = (4 + 2, 0)) (h : Q none (gset H x cck P I (upC A (q + 2) (tell4 (A (q + 2)) a b c e)))) : meth (d + 1) m_Law_tellAll [.ref (x + q), .int a, .int b, .int c, .int e] (gset H x cck P I A) Q X := by
  have hm := @mo_Law_tellAll (meth d) (meth_smono d)
  refine me_Law_tellAll (wb_Law_tellAll_0 hm hq ⟨vpd (by decide), vpd (by decide), vpd (by decide), vpd (by decide), ?_⟩)
  simp only [upA_to, upC_s, upC_C]
  exact h
theorem sp_World_swayBy {o l q : Nat} {bits t : Int32} {ev : (Nat → Int32) → Int32} (ho : cck o = (8 + 2, 0)) (hl : cck l = (3 + 2, 0)) (hq : cck q = (4 + 2, 0)) (hL : LawAt I A q ev) (hev : evOk ev) (ht : vp_in t 8)
    (h : ∀ F K, Q (some (.int (ev (fct (A (o + 1) t.toNatClampNeg) (A (o + 2) t.toNatClampNeg) (A (l + 1) t.toNatClampNeg) (I o 4) ((I o 3 >>> (t &&& 31)) &&& 1) (fbc (A (l + 2) t.toNatClampNeg &&& bits)) (I o 5) (I o 6) t (I o 7))))) (gset H x cck P I (upC (upC A (q + 2) F) (q + 3) K))) : meth (d + 3) m_World_swayBy [.ref (x + o), .int bits, .int t, .ref (x + l), .ref (x + q)] (gset H x cck P I A) Q X := by
  have hm := @mo_World_swayBy (meth (d + 2)) (meth_smono (d + 2))
  refine me_World_swayBy (wb_World_swayBy_0 hm hl ⟨ht, sp_bitCount (wb_World_swayBy_11 hm ho hl ⟨ht, ht, ht, sp_World_parted ho (wb_World_swayBy_38 hm hq (sp_Law_tellTown hq (wb_World_swayBy_44 hm ho hq (sp_Law_tellAll hq (wb_World_swayBy_65 hm hq (hL _ _ _ _ _ _ _ _ rfl ?_ ?_))))))⟩)⟩)
  · rw [upC_C, upC_n (by omega)]
  · intro K
    refine wb_World_swayBy_70 hm ?_
    rw [upC_C, upC_s, upC_s]
    rw [hev _ _ tell_fct]
    exact h _ K
end L2X
