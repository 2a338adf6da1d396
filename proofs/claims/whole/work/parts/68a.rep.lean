/-! ===== the state of an object, as both have it ===== -/
/-- tape: bytes, how many, the fault's place; what was told; the world; the law; the book; works; images; refused steps, calls refused (0, 1) -/
abbrev ST : Type := ((Nat → Int32) × Nat × Int32) × LZ × WS × ((Nat → Int32) → Int32) × BZ × (Nat × (Nat → WS)) × (Nat × (Nat → WS × Nat × (Nat → WS))) × Int32 × Int32 × Int32
def sB (s : ST) : Nat → Int32 := s.1.1
def sL (s : ST) : Nat := s.1.2.1
def sF (s : ST) : Int32 := s.1.2.2
def sZ (s : ST) : LZ := s.2.1
def sN (s : ST) : Nat := zN (sZ s)
def sW (s : ST) : WS := s.2.2.1
def sE (s : ST) : (Nat → Int32) → Int32 := s.2.2.2.1
def sK (s : ST) : BZ := s.2.2.2.2.1
def sU (s : ST) : Nat × (Nat → WS) := s.2.2.2.2.2.1
def sM (s : ST) : Nat × (Nat → WS × Nat × (Nat → WS)) := s.2.2.2.2.2.2.1
def sR (s : ST) : Int32 := s.2.2.2.2.2.2.2.1
def sX0 (s : ST) : Int32 := s.2.2.2.2.2.2.2.2.1
def sX1 (s : ST) : Int32 := s.2.2.2.2.2.2.2.2.2
def sC (s : ST) : Nat → Int32 := fun t => nI (zC (sZ s) t)
def sNr (s : ST) : Nat → Int32 := fun t => froads (rdA (zF (sZ s)) (zT (sZ s))) (nI t) (zM (sZ s))
def sNo (s : ST) : ST := (s.1, sZ s, sW s, sE s, sK s, sU s, sM s, sR s, sX0 s + 1, sX1 s)
def sBad (s : ST) : ST := (s.1, sZ s, sW s, sE s, sK s, sU s, sM s, sR s, sX0 s, sX1 s + 1)
def cRow (n : Nat) (f : Nat → Int32) (a : Nat) : WS := (rs n (fun t => f (a + t)), rs n (fun t => f (a + 8 + t)), rs n (fun t => (f (a + 16) >>> (nI t &&& 31)) &&& 1), f (a + 17), f (a + 18), f (a + 19), f (a + 20))
def sOk (s : ST) : Prop := sL s ≤ 600 ∧ zOk (sZ s) ∧ (wOk (sN s) (sW s) ∧ wYok (sW s)) ∧ evOk (sE s) ∧ bOk (sN s) (sK s) ∧ ((sU s).1 ≤ 16 ∧ ∀ i, i < (sU s).1 → wOk (sN s) ((sU s).2 i) ∧ wYok ((sU s).2 i)) ∧ ((sM s).1 ≤ 3 ∧ ∀ i, i < (sM s).1 → (wOk (sN s) ((sM s).2 i).1 ∧ wYok ((sM s).2 i).1) ∧ ((sM s).2 i).2.1 ≤ 16 ∧ ∀ j, j < ((sM s).2 i).2.1 → wOk (sN s) (((sM s).2 i).2.2 j) ∧ wYok (((sM s).2 i).2.2 j))
def cLand (z : LZ) (l : Nat) (I A : Nat → Nat → Int32) : Prop := I l 0 = nI (zN z) ∧ I l 1 = nI (zM z) ∧ (∀ t, t < zN z → A (l + 1) t = nI (zC z t) ∧ A (l + 2) t = froads (rdA (zF z) (zT z)) (nI t) (zM z)) ∧ ∀ e, e < zM z → A (l + 3) e = nI (zF z e) ∧ A (l + 4) e = nI (zT z e)
def pOkP (P : Nat → Nat) : Prop := ((P 1 = 3 ∧ P 2 = 8) ∨ (P 1 = 8 ∧ P 2 = 3)) ∧ ((P 5 = 21 ∧ P 6 = 25) ∨ (P 5 = 25 ∧ P 6 = 21)) ∧ ((P 7 = 29 ∧ P 8 = 32) ∨ (P 7 = 32 ∧ P 8 = 29))
def cWorks (s : ST) (I A : Nat → Nat → Int32) : Prop := I 40 2 = nI (sU s).1 ∧ ∀ i, i < (sU s).1 → cRow (sN s) (A 41) (21 * i) = (sU s).2 i
def cImgs (s : ST) (I A : Nat → Nat → Int32) : Prop := I 40 3 = nI (sM s).1 ∧ ∀ i, i < (sM s).1 → A 42 (358 * i) = nI ((sM s).2 i).2.1 ∧ cRow (sN s) (A 42) (358 * i + 1) = ((sM s).2 i).1 ∧ ∀ j, j < ((sM s).2 i).2.1 → cRow (sN s) (A 42) (358 * i + 22 + 21 * j) = ((sM s).2 i).2.2 j
def cRep (s : ST) (P : Nat → Nat) (I A : Nat → Nat → Int32) : Prop := pOkP P ∧ (I 1 1 = nI (sL s) ∧ I 1 8 = sF s ∧ A 2 = sB s) ∧ cLand (sZ s) (P 1) I A ∧ cW (sN s) I A 13 = sW s ∧ LawAt I A (P 5) (sE s) ∧ bC (P 7) (sK s) I A ∧ cWorks s I A ∧ cImgs s I A ∧ I 0 13 = sR s ∧ I 0 14 = sX0 s ∧ I 0 15 = sX1 s
def rLand (z : LZ) (I A : Nat → Nat → Int32) : Prop := I 0 19 = nI (zN z) ∧ I 0 20 = nI (zM z) ∧ (∀ t, t < zN z → A 7 t = nI (zC z t)) ∧ ∀ e, e < zM z → A 8 (2 * e) = nI (zF z e) ∧ A 8 (2 * e + 1) = nI (zT z e)
def rWorks (s : ST) (I A : Nat → Nat → Int32) : Prop := I 0 32 = nI (sU s).1 ∧ ∀ i, i < (sU s).1 → rW (sN s) (fun k => A 19 (28 * i + k)) = (sU s).2 i
def rImgs (s : ST) (I A : Nat → Nat → Int32) : Prop := I 0 53 = nI (sM s).1 ∧ ∀ i, i < (sM s).1 → A 28 (477 * i + 476) = nI ((sM s).2 i).2.1 ∧ rW (sN s) (fun k => A 28 (477 * i + k)) = ((sM s).2 i).1 ∧ ∀ j, j < ((sM s).2 i).2.1 → rW (sN s) (fun k => A 28 (477 * i + 28 + 28 * j + k)) = ((sM s).2 i).2.2 j
def rRep (s : ST) (I A : Nat → Nat → Int32) : Prop := (I 0 2 = nI (sL s) ∧ I 0 8 = sF s ∧ A 2 = sB s) ∧ rLand (sZ s) I A ∧ rW (sN s) (A 17) = sW s ∧ RLawAt I A (sE s) ∧ (I 0 43 = nI (sK s).1 ∧ ∀ t, t < 8 → A 22 t = (sK s).2 t) ∧ rWorks s I A ∧ rImgs s I A ∧ I 0 33 = sR s ∧ A 1 0 = sX0 s ∧ A 1 1 = sX1 s
theorem pOk_1 {P : Nat → Nat} (h : pOkP P) : cck (P 1) = (3 + 2, 0) := by rcases h.1 with ⟨e, _⟩ | ⟨e, _⟩ <;> rw [e] <;> rfl
theorem pOk_2 {P : Nat → Nat} (h : pOkP P) : cck (P 2) = (3 + 2, 0) := by rcases h.1 with ⟨_, e⟩ | ⟨_, e⟩ <;> rw [e] <;> rfl
theorem pOk_5 {P : Nat → Nat} (h : pOkP P) : cck (P 5) = (4 + 2, 0) := by rcases h.2.1 with ⟨e, _⟩ | ⟨e, _⟩ <;> rw [e] <;> rfl
theorem pOk_6 {P : Nat → Nat} (h : pOkP P) : cck (P 6) = (4 + 2, 0) := by rcases h.2.1 with ⟨_, e⟩ | ⟨_, e⟩ <;> rw [e] <;> rfl
theorem pOk_7 {P : Nat → Nat} (h : pOkP P) : cck (P 7) = (0 + 2, 0) := by rcases h.2.2 with ⟨e, _⟩ | ⟨e, _⟩ <;> rw [e] <;> rfl
theorem pOk_8 {P : Nat → Nat} (h : pOkP P) : cck (P 8) = (0 + 2, 0) := by rcases h.2.2 with ⟨_, e⟩ | ⟨_, e⟩ <;> rw [e] <;> rfl
theorem cW_c {n o : Nat} {I I' A A' : Nat → Nat → Int32} (hI : I' o = I o) (h1 : A' (o + 1) = A (o + 1)) (h2 : A' (o + 2) = A (o + 2)) : cW n I' A' o = cW n I A o := by
  unfold cW
  rw [hI, h1, h2]
/-- cells that the picture of the class doesn't show may change -/
theorem cRep_mv {s : ST} {P : Nat → Nat} {I A I' A' : Nat → Nat → Int32} (h : cRep s P I A) (i0 : I' 0 = I 0) (i1 : I' 1 = I 1) (iL : I' (P 1) = I (P 1)) (i13 : I' 13 = I 13) (i40 : I' 40 = I 40) (i5 : I' (P 5) = I (P 5)) (i72 : I' (P 7) 2 = I (P 7) 2) (i73 : I' (P 7) 3 = I (P 7) 3) (a2 : A' 2 = A 2) (l1 : A' (P 1 + 1) = A (P 1 + 1)) (l2 : A' (P 1 + 2) = A (P 1 + 2)) (l3 : A' (P 1 + 3) = A (P 1 + 3)) (l4 : A' (P 1 + 4) = A (P 1 + 4)) (a14 : A' 14 = A 14) (a15 : A' 15 = A 15) (q1 : A' (P 5 + 1) = A (P 5 + 1)) (k1 : A' (P 7 + 1) = A (P 7 + 1)) (a41 : A' 41 = A 41) (a42 : A' 42 = A 42) : cRep s P I' A' := by
  obtain ⟨hp, ht, hl, hw, hL, hb, hU, hM, h1, h2, h3⟩ := h
  refine ⟨hp, ?_, ?_, ?_, hL.mv (by rw [i5]) q1, ?_, ?_, ?_, by rw [i0]; exact h1, by rw [i0]; exact h2, by rw [i0]; exact h3⟩
  · rw [i1, a2]; exact ht
  · unfold cLand; rw [iL, l1, l2, l3, l4]; exact hl
  · rw [cW_c (o := 13) i13 a14 a15]; exact hw
  · unfold bC; rw [i72, i73, k1]; exact hb
  · unfold cWorks; rw [i40, a41]; exact hU
  · unfold cImgs; rw [i40, a42]; exact hM
/-- frames that spare the picture -/
def cSp (P : Nat → Nat) (L : List Nat) : Prop := 0 ∉ L ∧ 1 ∉ L ∧ P 1 ∉ L ∧ 13 ∉ L ∧ 40 ∉ L ∧ P 5 ∉ L ∧ P 7 ∉ L
def cSpA (P : Nat → Nat) (L : List Nat) : Prop := 2 ∉ L ∧ P 1 + 1 ∉ L ∧ P 1 + 2 ∉ L ∧ P 1 + 3 ∉ L ∧ P 1 + 4 ∉ L ∧ 14 ∉ L ∧ 15 ∉ L ∧ P 5 + 1 ∉ L ∧ P 7 + 1 ∉ L ∧ 41 ∉ L ∧ 42 ∉ L
theorem cRep_fr {s : ST} {P : Nat → Nat} {I A I' A' : Nat → Nat → Int32} {L L' : List Nat} (h : cRep s P I A) (fI : Fr L I I') (fA : Fr L' A A') (hL : cSp P L) (hL' : cSpA P L') : cRep s P I' A' := by
  obtain ⟨a0, a1, a2, a3, a4, a5, a6⟩ := hL
  obtain ⟨b0, b1, b2, b3, b4, b5, b6, b7, b8, b9, b10⟩ := hL'
  exact cRep_mv h (fI _ a0) (fI _ a1) (fI _ a2) (fI _ a3) (fI _ a4) (fI _ a5) (by rw [fI _ a6]) (by rw [fI _ a6]) (fA _ b0) (fA _ b1) (fA _ b2) (fA _ b3) (fA _ b4) (fA _ b5) (fA _ b6) (fA _ b7) (fA _ b8) (fA _ b9) (fA _ b10)
theorem rRep_mv {s : ST} {I A I' A' : Nat → Nat → Int32} (h : rRep s I A) (hI : ∀ f, f = 2 ∨ f = 8 ∨ f = 19 ∨ f = 20 ∨ f = 27 ∨ f = 32 ∨ f = 33 ∨ f = 43 ∨ f = 53 → I' 0 f = I 0 f) (hA : ∀ j, j = 1 ∨ j = 2 ∨ j = 7 ∨ j = 8 ∨ j = 11 ∨ j = 12 ∨ j = 17 ∨ j = 19 ∨ j = 22 ∨ j = 28 → A' j = A j) : rRep s I' A' := by
  obtain ⟨ht, hl, hw, hL, hb, hU, hM, h1, h2, h3⟩ := h
  refine ⟨?_, ?_, ?_, hL.mv (hI 27 (by omega)) (hA 11 (by omega)) (hA 12 (by omega)), ?_, ?_, ?_, by rw [hI 33 (by omega)]; exact h1, by rw [hA 1 (by omega)]; exact h2, by rw [hA 1 (by omega)]; exact h3⟩
  · rw [hI 2 (by omega), hI 8 (by omega), hA 2 (by omega)]; exact ht
  · unfold rLand; rw [hI 19 (by omega), hI 20 (by omega), hA 7 (by omega), hA 8 (by omega)]; exact hl
  · rw [hA 17 (by omega)]; exact hw
  · rw [hI 43 (by omega), hA 22 (by omega)]; exact hb
  · unfold rWorks; rw [hI 32 (by omega), hA 19 (by omega)]; exact hU
  · unfold rImgs; rw [hI 53 (by omega), hA 28 (by omega)]; exact hM
def rSpA (L : List Nat) : Prop := ∀ j, j = 1 ∨ j = 2 ∨ j = 7 ∨ j = 8 ∨ j = 11 ∨ j = 12 ∨ j = 17 ∨ j = 19 ∨ j = 22 ∨ j = 28 → j ∉ L
theorem rRep_fr {s : ST} {I A I' A' : Nat → Nat → Int32} {L' : List Nat} (h : rRep s I A) (hI : ∀ f, f = 2 ∨ f = 8 ∨ f = 19 ∨ f = 20 ∨ f = 27 ∨ f = 32 ∨ f = 33 ∨ f = 43 ∨ f = 53 → I' 0 f = I 0 f) (fA : Fr L' A A') (hL : rSpA L') : rRep s I' A' := rRep_mv h hI (fun j hj => fA j (hL j hj))
theorem rRep_0 {s : ST} {I A : Nat → Nat → Int32} {a : Int32} (h : rRep s I A) : rRep s (upI I 0 0 a) A := rRep_mv h (fun f hf => by rw [upI_f (by omega)]) (fun _ _ => rfl)
-- refused calls
def IAE : String := "java/lang/IllegalArgumentException"
def NSE : String := "java/util/NoSuchElementException"
theorem cRep_bad {s : ST} {P : Nat → Nat} {I A : Nat → Nat → Int32} (h : cRep s P I A) : cRep (sBad s) P (upI I 0 15 (I 0 15 + 1)) A := by
  obtain ⟨hp, ht, hl, hw, hL, hb, hU, hM, h1, h2, h3⟩ := h
  have n : ∀ j, j ≠ 0 → upI I 0 15 (I 0 15 + 1) j = I j := fun j hj => upI_n hj
  have p1 : P 1 ≠ 0 := by rcases hp.1 with ⟨e, _⟩ | ⟨e, _⟩ <;> omega
  have p5 : P 5 ≠ 0 := by rcases hp.2.1 with ⟨e, _⟩ | ⟨e, _⟩ <;> omega
  have p7 : P 7 ≠ 0 := by rcases hp.2.2 with ⟨e, _⟩ | ⟨e, _⟩ <;> omega
  refine ⟨hp, ?_, ?_, ?_, hL.mv (by rw [n _ p5]) rfl, ?_, ?_, ?_, by rw [upI_f (by decide)]; exact h1, by rw [upI_f (by decide)]; exact h2, by rw [upI_s, h3]; rfl⟩
  · rw [n 1 (by decide)]; exact ht
  · unfold cLand; rw [n _ p1]; exact hl
  · rw [cW_c (o := 13) (n 13 (by decide)) rfl rfl]; exact hw
  · unfold bC; rw [n _ p7]; exact hb
  · unfold cWorks; rw [n 40 (by decide)]; exact hU
  · unfold cImgs; rw [n 40 (by decide)]; exact hM
theorem cRep_no {s : ST} {P : Nat → Nat} {I A : Nat → Nat → Int32} (h : cRep s P I A) : cRep (sNo s) P (upI I 0 14 (I 0 14 + 1)) A := by
  obtain ⟨hp, ht, hl, hw, hL, hb, hU, hM, h1, h2, h3⟩ := h
  have n : ∀ j, j ≠ 0 → upI I 0 14 (I 0 14 + 1) j = I j := fun j hj => upI_n hj
  have p1 : P 1 ≠ 0 := by rcases hp.1 with ⟨e, _⟩ | ⟨e, _⟩ <;> omega
  have p5 : P 5 ≠ 0 := by rcases hp.2.1 with ⟨e, _⟩ | ⟨e, _⟩ <;> omega
  have p7 : P 7 ≠ 0 := by rcases hp.2.2 with ⟨e, _⟩ | ⟨e, _⟩ <;> omega
  refine ⟨hp, ?_, ?_, ?_, hL.mv (by rw [n _ p5]) rfl, ?_, ?_, ?_, by rw [upI_f (by decide)]; exact h1, by rw [upI_s, h2]; rfl, by rw [upI_f (by decide)]; exact h3⟩
  · rw [n 1 (by decide)]; exact ht
  · unfold cLand; rw [n _ p1]; exact hl
  · rw [cW_c (o := 13) (n 13 (by decide)) rfl rfl]; exact hw
  · unfold bC; rw [n _ p7]; exact hb
  · unfold cWorks; rw [n 40 (by decide)]; exact hU
  · unfold cImgs; rw [n 40 (by decide)]; exact hM
theorem rRep_x {s s' : ST} {I A A' : Nat → Nat → Int32} {a : Int32} (h : rRep s I A) (fA : Fr [1] A A') (e : s' = (s.1, sZ s, sW s, sE s, sK s, sU s, sM s, sR s, A' 1 0, A' 1 1)) : rRep s' (upI I 0 0 a) A' := by
  obtain ⟨ht, hl, hw, hL, hb, hU, hM, h1, h2, h3⟩ := h
  subst e
  have n : ∀ f, f ≠ 0 → upI I 0 0 a 0 f = I 0 f := fun f hf => upI_f hf
  have m : ∀ j, j ≠ 1 → A' j = A j := fun j hj => fA j (by simp; exact hj)
  refine ⟨?_, ?_, ?_, hL.mv (n 27 (by decide)) (m 11 (by decide)) (m 12 (by decide)), ?_, ?_, ?_, by rw [n 33 (by decide)]; exact h1, rfl, rfl⟩
  · rw [n 2 (by decide), n 8 (by decide), m 2 (by decide)]; exact ht
  · unfold rLand; rw [n 19 (by decide), n 20 (by decide), m 7 (by decide), m 8 (by decide)]; exact hl
  · rw [m 17 (by decide)]; exact hw
  · rw [n 43 (by decide), m 22 (by decide)]; exact hb
  · unfold rWorks; rw [n 32 (by decide), m 19 (by decide)]; exact hU
  · unfold rImgs; rw [n 53 (by decide), m 28 (by decide)]; exact hM
def inR (v lo hi : Int32) : Bool := decide (¬ v < lo ∧ ¬ hi < v)
section L2NE
variable {d : Nat} {Q : gQ} {X : gX} {H : gH} {x : Nat} {P : Nat → Nat} {I A : Nat → Nat → Int32} {s : ST}
theorem sp_S_within {v lo hi : Int32} (h : Q (some (.int (i01 (inR v lo hi)))) (gset H x cck P I A)) : meth (d + 1) m_S_within [.int v, .int lo, .int hi] (gset H x cck P I A) Q X := by
  have hm := @mo_S_within (meth d) (meth_smono d)
  refine me_S_within (wb_S_within_0 hm ⟨fun c => wb_S_within_14 hm (wb_S_within_15 hm ⟨rfl, ?_⟩), fun c => ⟨fun c2 => wb_S_within_14 hm (wb_S_within_15 hm ⟨rfl, ?_⟩), fun c2 => wb_S_within_15 hm ⟨rfl, ?_⟩⟩⟩)
  · unfold inR at h; rw [decide_eq_false (fun q => q.1 c)] at h; exact h
  · unfold inR at h; rw [decide_eq_false (fun q => q.2 c2)] at h; exact h
  · unfold inR at h; rw [decide_eq_true ⟨c, c2⟩] at h; exact h
theorem sp_S_need {c : Bool} (hr : cRep s P I A) (h1 : c = true → Q none (gset H x cck P I A)) (h0 : c = false → ∀ I', cRep (sBad s) P I' A → X IAE (gset H x cck P I' A)) : meth (d + 1) m_S_need [.ref (x + 0), .int (i01 c)] (gset H x cck P I A) Q X := by
  have hm := @mo_S_need (meth d) (meth_smono d)
  exact me_S_need (wb_S_need_0 hm ⟨fun q => h1 (b_i01 q), fun q => h0 (b_i00 (Classical.not_not.mp q)) _ (cRep_bad hr)⟩)
theorem sp_S_needSuch {c : Bool} (hr : cRep s P I A) (h1 : c = true → Q none (gset H x cck P I A)) (h0 : c = false → ∀ I', cRep (sNo s) P I' A → X NSE (gset H x cck P I' A)) : meth (d + 1) m_S_needSuch [.ref (x + 0), .int (i01 c)] (gset H x cck P I A) Q X := by
  have hm := @mo_S_needSuch (meth d) (meth_smono d)
  exact me_S_needSuch (wb_S_needSuch_0 hm ⟨fun q => h1 (b_i01 q), fun q => h0 (b_i00 (Classical.not_not.mp q)) _ (cRep_no hr)⟩)
/-- is there such a town -/
def isT (s : ST) (t : Int32) : Bool := inR t 0 (nI (sN s) - 1)
theorem isT_n {s : ST} {t : Int32} (hs : sOk s) (h : isT s t = true) : ∃ k, k < sN s ∧ sN s ≤ 8 ∧ t = nI k := by
  unfold isT inR at h
  rw [decide_eq_true_eq] at h
  have h8 : sN s ≤ 8 := hs.2.1.1
  have h2 : t ≤ nI (sN s) - 1 := Int32.not_lt.mp h.2
  have hlt : t ≤ nI 8 := by
    rw [Int32.le_iff_toInt_le] at h2 ⊢
    rw [nI_toInt (by omega)]
    have e1 : (nI (sN s) - 1).toInt = (sN s : Int) - 1 := by
      rw [show (1 : Int32) = nI 1 from rfl, _root_.Jvm.Kit.i32_sub (by rw [nI_toInt (by omega), nI_toInt (by omega)]; omega) (by rw [nI_toInt (by omega), nI_toInt (by omega)]; omega), nI_toInt (by omega), nI_toInt (by omega)]
      rfl
    omega
  obtain ⟨k, hk, rfl⟩ := nI_of2 (M := nI 8) (n := 8) (nI_toInt (by omega)) (x := t) h.1 hlt
  rw [nI_m1 (by omega) (by omega)] at h2
  exact ⟨k, h2, h8, rfl⟩
theorem sp_S_needTown {t : Int32} (hr : cRep s P I A) (h1 : isT s t = true → Q none (gset H x cck P I A)) (h0 : isT s t = false → ∀ I', cRep (sNo s) P I' A → X NSE (gset H x cck P I' A)) : meth (d + 2) m_S_needTown [.ref (x + 0), .int t] (gset H x cck P I A) Q X := by
  have hm := @mo_S_needTown (meth (d + 1)) (meth_smono (d + 1))
  refine me_S_needTown (wb_S_needTown_0 hm (pOk_1 hr.1) ?_)
  rw [hr.2.2.1.1]
  exact sp_S_within (wb_S_needTown_15 hm (sp_S_needSuch hr (fun q => wb_S_needTown_18 hm (h1 q)) h0))
theorem sp_R_within {v lo hi : Int32} (h : Q (some (.int (i01 (inR v lo hi)))) (gset H x mck P I A)) : meth (d + 1) m_R_within [.int v, .int lo, .int hi] (gset H x mck P I A) Q X := by
  have hm := @mo_R_within (meth d) (meth_smono d)
  refine me_R_within (wb_R_within_0 hm ⟨fun c => wb_R_within_14 hm (wb_R_within_15 hm ⟨rfl, ?_⟩), fun c => ⟨fun c2 => wb_R_within_14 hm (wb_R_within_15 hm ⟨rfl, ?_⟩), fun c2 => wb_R_within_15 hm ⟨rfl, ?_⟩⟩⟩)
  · unfold inR at h; rw [decide_eq_false (fun q => q.1 c)] at h; exact h
  · unfold inR at h; rw [decide_eq_false (fun q => q.2 c2)] at h; exact h
  · unfold inR at h; rw [decide_eq_true ⟨c, c2⟩] at h; exact h
theorem sp_R_may {c : Bool} {code kind : Nat} (h00 : I 0 0 = 0) (hk : kind ≤ 1) (hcd : 1 ≤ code ∧ code ≤ 2) (hr : rRep s I A) (h1 : c = true → Q (some (.int 1)) (gset H x mck P I A)) (h0 : c = false → ∀ I' A', rRep (if kind = 0 then sNo s else sBad s) I' A' → I' 0 0 = nI code → Q (some (.int 0)) (gset H x mck P I' A')) : meth (d + 1) m_R_may [.ref (x + 0), .int (i01 c), .int (nI code), .int (nI kind)] (gset H x mck P I A) Q X := by
  have hm := @mo_R_may (meth d) (meth_smono d)
  refine me_R_may (wb_R_may_0 hm ⟨fun q => wb_R_may_26 hm ⟨fun q2 => absurd h00 q2, fun _ => wb_R_may_38 hm ⟨rfl, h1 (b_i01 q)⟩⟩, fun q => ⟨fun q2 => absurd h00 q2, fun _ => ⟨vp_in_nI (by omega) (by omega), vp_in_nI (by omega) (by omega), wb_R_may_26 hm ⟨fun _ => wb_R_may_38 hm ⟨rfl, ?_⟩, fun q2 => absurd (by rw [upI_s]; exact nI_ne0 (by omega) (by omega)) q2⟩⟩⟩⟩)
  rw [nI_clamp (by omega)]
  refine h0 (b_i00 (Classical.not_not.mp q)) _ _ (rRep_x hr (fr_A fr_r (by simp)) ?_) upI_s
  have e2 := hr.2.2.2.2.2.2.2.2.1
  have e3 := hr.2.2.2.2.2.2.2.2.2
  rcases (show kind = 0 ∨ kind = 1 by omega) with rfl | rfl
  · rw [if_pos rfl, upA_s, upd_at, upd_ne (by decide), e2, e3]; rfl
  · rw [if_neg (by decide), upA_s, upd_at, upd_ne (by decide), e2, e3]; rfl
theorem sp_R_isTown {t : Int32} {code : Nat} (h00 : I 0 0 = 0) (hcd : 1 ≤ code ∧ code ≤ 2) (hr : rRep s I A) (h1 : isT s t = true → Q (some (.int 1)) (gset H x mck P I A)) (h0 : isT s t = false → ∀ I' A', rRep (sNo s) I' A' → I' 0 0 = nI code → Q (some (.int 0)) (gset H x mck P I' A')) : meth (d + 2) m_R_isTown [.ref (x + 0), .int t, .int (nI code)] (gset H x mck P I A) Q X := by
  have hm := @mo_R_isTown (meth (d + 1)) (meth_smono (d + 1))
  refine me_R_isTown (wb_R_isTown_0 hm ?_)
  rw [hr.2.1.1]
  exact sp_R_within (wb_R_isTown_12 hm (sp_R_may (kind := 0) h00 (by omega) hcd hr (fun q => wb_R_isTown_17 hm ⟨rfl, h1 q⟩) (fun q I' A' r e => wb_R_isTown_17 hm ⟨rfl, h0 q I' A' r e⟩)))
end L2NE
