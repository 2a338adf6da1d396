/-! ===== calls: speak ===== -/
theorem nI_div {a b : Nat} (ha : a < 2 ^ 31) (hb : b < 2 ^ 31) : nI a / nI b = nI (a / b) := by
  rw [← Int32.toInt_inj, Int32.toInt_div_of_ne_left _ _ (fun q => ?_), nI_toInt ha, nI_toInt hb, nI_toInt (Nat.lt_of_le_of_lt (Nat.div_le_self _ _) ha), Int.tdiv_eq_ediv_of_nonneg (Int.natCast_nonneg _)]
  · exact (Int.natCast_ediv a b).symm
  · have := congrArg Int32.toInt q
    rw [nI_toInt ha] at this
    have e : Int32.minValue.toInt = -2147483648 := by decide
    omega
theorem nI_mod {a b : Nat} (ha : a < 2 ^ 31) (hb : b < 2 ^ 31) : nI a - nI a / nI b * nI b = nI (a % b) := by
  rw [nI_div ha hb, show nI (a / b) * nI b = nI (a / b * b) from (Int32.ofNat_mul _ _).symm]
  have e : nI a = nI (a % b) + nI (a / b * b) := by
    rw [show nI (a % b) + nI (a / b * b) = nI (a % b + a / b * b) from nI_add _ _, Nat.mul_comm, Nat.mod_add_div]
  rw [e, Int32.add_sub_cancel]
def spD (a b : Nat) (k : Int32) (t : Nat) : Int32 := (if t = a then k else 0) - (if t = b then k else 0)
def pay (s : ST) (k : Int32) (p : Int32) (a b : Nat) : Int32 := fsum (fun t => if dSide s t (spD a b k t) = p then sC s t else 0) (sN s)
def rest (s : ST) (k : Int32) (a b : Nat) : Bool := decide (∀ t, t < sN s → pay s k 0 t b ≤ pay s k 0 a b ∧ pay s k 1 a t ≤ pay s k 1 a b)
def sAcc (s : ST) (k : Int32) : Nat → Nat × Int32 × Int32
  | 0 => (0, -1, 0)
  | i + 1 => if rest s k (i / sN s) (i % sN s) = true then ((sAcc s k i).1 + 1, if (sAcc s k i).1 = 0 then (nI (10 * (i / sN s) + i % sN s), pay s k 0 (i / sN s) (i % sN s) + pay s k 1 (i / sN s) (i % sN s)) else (sAcc s k i).2) else sAcc s k i
theorem sAcc_ok {s : ST} {k : Int32} (h8 : sN s ≤ 8) : ∀ i, i ≤ sN s * sN s → (sAcc s k i).1 ≤ i ∧ (((sAcc s k i).1 = 0 ∧ (sAcc s k i).2 = (-1, 0)) ∨ (0 < (sAcc s k i).1 ∧ ∃ a b, a < sN s ∧ b < sN s ∧ (sAcc s k i).2 = (nI (10 * a + b), pay s k 0 a b + pay s k 1 a b)))
  | 0, _ => ⟨Nat.le_refl _, Or.inl ⟨rfl, rfl⟩⟩
  | i + 1, hi => by
    have ih := sAcc_ok (s := s) (k := k) h8 i (by omega)
    rw [sAcc]
    by_cases hr : rest s k (i / sN s) (i % sN s) = true
    · rw [if_pos hr]
      refine ⟨by show (sAcc s k i).1 + 1 ≤ i + 1; omega, Or.inr ⟨Nat.succ_pos _, ?_⟩⟩
      have hp : 0 < sN s := by
        rcases Nat.eq_zero_or_pos (sN s) with e | e
        · rw [e] at hi; omega
        · exact e
      dsimp only
      by_cases h0 : (sAcc s k i).1 = 0
      · rw [if_pos h0]
        exact ⟨i / sN s, i % sN s, (Nat.div_lt_iff_lt_mul hp).mpr (by omega), Nat.mod_lt _ hp, rfl⟩
      · rw [if_neg h0]
        rcases ih.2 with q | q
        · exact absurd q.1 h0
        · exact q.2
    · rw [if_neg hr]
      exact ⟨by omega, ih.2⟩
section SPC
variable {s : ST} {d : Nat} {Q : gQ} {X : gX} {H : gH} {x : Nat} {P : Nat → Nat} {I A : Nat → Nat → Int32} {k : Int32}
theorem cs_paid (hs : sOk s) (hr : cRep s P I A) {p : Int32} {a b : Nat} (ha : a < sN s) (hb : b < sN s) (h : Q (some (.int (pay s k p a b))) (gset H x cck P I A)) : meth (d + 2) m_Polls_paid [.ref (x + 43), .int p, .int (nI a), .int (nI b), .int k, .ref (x + 13), .ref (x + P 1)] (gset H x cck P I A) Q X := by
  have hm := @mo_Polls_paid (meth (d + 1)) (meth_smono (d + 1))
  have h8 : sN s ≤ 8 := hs.2.1.1
  have eN : I (P 1) 0 = nI (sN s) := hr.2.2.1.1
  have h1 := pOk_1 hr.1
  unfold pay at h
  have key : ∀ t, t ≤ sN s → gWp (gTab (tb_Polls_paid (meth (d + 1)))) Q X 6 [some (.ref (x + 43)), some (.int p), some (.int (nI a)), some (.int (nI b)), some (.int k), some (.ref (x + 13)), some (.ref (x + P 1)), some (.int (fsum (fun t => if dSide s t (spD a b k t) = p then sC s t else 0) t)), some (.int (nI t)), none, none] [] (gset H x cck P I A) := by
    refine gdown ?_ ?_
    · exact wb_Polls_paid_6 hm h1 ⟨fun _ => h, fun c => absurd (by rw [eN]; exact nI_le (Nat.le_refl _) (by omega)) c⟩
    · intro t ht ih
      rw [← nI_1] at ih
      have e1 : nI t = nI a ↔ t = a := nI_eq (by omega) (by omega)
      have e2 : nI t = nI b ↔ t = b := nI_eq (by omega) (by omega)
      -- from 40
      have g40 : ∀ u v : Int32, u = (if t = a then k else 0) → v = (if t = b then k else 0) → gWp (gTab (tb_Polls_paid (meth (d + 1)))) Q X 40 [some (.ref (x + 43)), some (.int p), some (.int (nI a)), some (.int (nI b)), some (.int k), some (.ref (x + 13)), some (.ref (x + P 1)), some (.int (fsum (fun t => if dSide s t (spD a b k t) = p then sC s t else 0) t)), some (.int (nI t)), none, none] [.int v, .int u] (gset H x cck P I A) := by
        intro u v hu hv
        refine wb_Polls_paid_40 hm (o5 := 13) rfl (sp_World_shifted (o := 13) rfl (vp_in_nI (by omega) (by omega)) (wb_Polls_paid_52 hm (o5 := 13) rfl ⟨vp_in_nI (by omega) (by omega), sp_World_sideBy (wb_Polls_paid_63 hm h1 ?_)⟩))
        rw [nI_clamp (by omega), cl_C hr ht, show fside (fhold (A (13 + 2) t) (A (13 + 1) t) (u - v)) (A (13 + 1) t) = dSide s t (spD a b k t) by unfold dSide spD; rw [cw_V hr ht, cw_B hr ht, hu, hv]]
        unfold fsum at ih
        refine ⟨fun q => wb_Polls_paid_85 hm ?_, fun q => ⟨vp_in_nI (by omega) (by omega), wb_Polls_paid_85 hm ?_⟩⟩
        · rw [if_neg q] at ih; exact ih
        · rw [if_pos (Classical.not_not.mp q)] at ih; exact ih
      have g28 : ∀ u : Int32, u = (if t = a then k else 0) → gWp (gTab (tb_Polls_paid (meth (d + 1)))) Q X 28 [some (.ref (x + 43)), some (.int p), some (.int (nI a)), some (.int (nI b)), some (.int k), some (.ref (x + 13)), some (.ref (x + P 1)), some (.int (fsum (fun t => if dSide s t (spD a b k t) = p then sC s t else 0) t)), some (.int (nI t)), none, none] [.int u] (gset H x cck P I A) := by
        intro u hu
        refine wb_Polls_paid_28 hm ⟨fun q => g40 u 0 hu ?_, fun q => g40 u k hu ?_⟩
        · rw [if_neg (fun z => q (e2.mpr z))]
        · rw [if_pos (e2.mp (Classical.not_not.mp q))]
      refine wb_Polls_paid_6 hm h1 ⟨fun c => absurd c (by rw [eN]; exact nI_ge ht (by omega)), fun _ => ⟨fun q => g28 0 ?_, fun q => g28 k ?_⟩⟩
      · rw [if_neg (fun z => q (e1.mpr z))]
      · rw [if_pos (e1.mp (Classical.not_not.mp q))]
  exact me_Polls_paid (wb_Polls_paid_0 hm (key 0 (Nat.zero_le _)))
def tabs (s : ST) (k : Int32) (A : Nat → Nat → Int32) : Prop := ∀ a, a < sN s → ∀ b, b < sN s → A 45 (8 * a + b) = pay s k 0 a b ∧ A 46 (8 * a + b) = pay s k 1 a b
theorem nI_8m {a : Nat} : nI a * 8 = nI (8 * a) := by rw [show (8 : Int32) = nI 8 from rfl, Int32.mul_comm]; exact (Int32.ofNat_mul 8 a).symm
theorem cs_isRest (hs : sOk s) (hr : cRep s P I A) (ht : tabs s k A) {a b : Nat} (ha : a < sN s) (hb : b < sN s) (h : Q (some (.int (i01 (rest s k a b)))) (gset H x cck P I A)) : meth (d + 1) m_Polls_isRest [.ref (x + 43), .int (nI a), .int (nI b), .ref (x + P 1)] (gset H x cck P I A) Q X := by
  have hm := @mo_Polls_isRest (meth d) (meth_smono d)
  have h8 : sN s ≤ 8 := hs.2.1.1
  have eN : I (P 1) 0 = nI (sN s) := hr.2.2.1.1
  have h1 := pOk_1 hr.1
  have key : ∀ t, t ≤ sN s → (∀ u, u < t → pay s k 0 u b ≤ pay s k 0 a b ∧ pay s k 1 a u ≤ pay s k 1 a b) → gWp (gTab (tb_Polls_isRest (meth d))) Q X 3 [some (.ref (x + 43)), some (.int (nI a)), some (.int (nI b)), some (.ref (x + P 1)), some (.int (nI t)), none, none] [] (gset H x cck P I A) := by
    refine gdown ?_ ?_
    · intro e
      refine wb_Polls_isRest_3 hm h1 ⟨fun _ => ⟨rfl, ?_⟩, fun c => absurd (by rw [eN]; exact nI_le (Nat.le_refl _) (by omega)) c⟩
      unfold rest at h
      rw [decide_eq_true e] at h
      exact h
    · intro t ht' ih e
      have bad : ¬ (pay s k 0 t b ≤ pay s k 0 a b ∧ pay s k 1 a t ≤ pay s k 1 a b) → ∀ v5 v6 : Int32, gWp (gTab (tb_Polls_isRest (meth d))) Q X 88 [some (.ref (x + 43)), some (.int (nI a)), some (.int (nI b)), some (.ref (x + P 1)), some (.int (nI t)), some (.int v5), some (.int v6)] [] (gset H x cck P I A) := fun q v5 v6 => by
        unfold rest at h
        rw [decide_eq_false (fun z => q (z t ht'))] at h
        exact wb_Polls_isRest_88 hm ⟨rfl, h⟩
      refine wb_Polls_isRest_3 hm h1 ⟨fun c => absurd c (by rw [eN]; exact nI_ge ht' (by omega)), fun _ => ?_⟩
      have i1 : vp_in (nI (8 * t + b)) 64 := vp_in_nI (by omega) (by omega)
      have i2 : vp_in (nI (8 * a + b)) 64 := vp_in_nI (by omega) (by omega)
      have i3 : vp_in (nI (8 * a + t)) 64 := vp_in_nI (by omega) (by omega)
      have m1 : nI t * 8 + nI b = nI (8 * t + b) := by rw [nI_8m]; exact nI_add _ _
      have m2 : nI a * 8 + nI b = nI (8 * a + b) := by rw [nI_8m]; exact nI_add _ _
      have m3 : nI a * 8 + nI t = nI (8 * a + t) := by rw [nI_8m]; exact nI_add _ _
      rw [m1, m2, nI_clamp (by omega), nI_clamp (by omega), (ht t ht' b hb).1, (ht a ha b hb).1]
      refine ⟨i1, i2, fun c1 => wb_Polls_isRest_43 hm ?_, fun c1 => wb_Polls_isRest_43 hm ?_⟩
      · rw [m3, m2, nI_clamp (by omega), nI_clamp (by omega), (ht a ha t ht').2, (ht a ha b hb).2]
        refine ⟨i3, i2, fun c2 => wb_Polls_isRest_76 hm ⟨fun z => absurd rfl z, fun _ => ⟨fun _ => ?_, fun z => absurd rfl z⟩⟩, fun c2 => wb_Polls_isRest_76 hm ⟨fun z => absurd rfl z, fun _ => ⟨fun z => absurd z (by decide), fun _ => bad (fun z => c2 z.2) _ _⟩⟩⟩
        rw [nI_1]
        exact ih (fun u hu => if he : u = t then by rw [he]; exact ⟨c1, c2⟩ else e u (by omega))
      · rw [m3, m2, nI_clamp (by omega), nI_clamp (by omega), (ht a ha t ht').2, (ht a ha b hb).2]
        exact ⟨i3, i2, fun c2 => wb_Polls_isRest_76 hm ⟨fun _ => bad (fun z => c1 z.1) _ _, fun z => absurd (by decide) z⟩, fun c2 => wb_Polls_isRest_76 hm ⟨fun _ => bad (fun z => c1 z.1) _ _, fun z => absurd (by decide) z⟩⟩
  exact me_Polls_isRest (wb_Polls_isRest_0 hm (key 0 (Nat.zero_le _) (fun t ht => absurd ht (Nat.not_lt_zero t))))
def sMem (s : ST) (k : Int32) (i : Nat) (I : Nat → Nat → Int32) : Prop := I 43 3 = nI (sAcc s k i).1 ∧ I 43 4 = (sAcc s k i).2.1 ∧ I 43 5 = (sAcc s k i).2.2
theorem cs_hearBoth (hs : sOk s) (hr : cRep s P I A) (h : ∀ I' A', cRep s P I' A' → sMem s k (sN s * sN s) I' → Q none (gset H x cck P I' A')) : meth (d + 3) m_Polls_hearBoth [.ref (x + 43), .int k, .ref (x + 13), .ref (x + P 1)] (gset H x cck P I A) Q X := by
  have hm := @mo_Polls_hearBoth (meth (d + 2)) (meth_smono (d + 2))
  have h8 : sN s ≤ 8 := hs.2.1.1
  have h1 := pOk_1 hr.1
  have hN64 : sN s * sN s ≤ 8 * 8 := Nat.mul_le_mul h8 h8
  -- second pass
  have p104 : ∀ a, a ≤ sN s → ∀ I1 A1, cRep s P I1 A1 → tabs s k A1 → sMem s k (a * sN s) I1 → gWp (gTab (tb_Polls_hearBoth (meth (d + 2)))) Q X 104 [some (.ref (x + 43)), some (.int k), some (.ref (x + 13)), some (.ref (x + P 1)), some (.int (nI a)), none] [] (gset H x cck P I1 A1) := by
    refine gdown ?_ ?_
    · intro I1 A1 r1 t1 m1
      exact wb_Polls_hearBoth_104 hm h1 ⟨fun _ => h I1 A1 r1 m1, fun c => absurd (by rw [show I1 (P 1) 0 = nI (sN s) from r1.2.2.1.1]; exact nI_le (Nat.le_refl _) (by omega)) c⟩
    · intro a ha ih I1 A1 r1 t1 m1
      refine wb_Polls_hearBoth_104 hm h1 ⟨fun c => absurd c (by rw [show I1 (P 1) 0 = nI (sN s) from r1.2.2.1.1]; exact nI_ge ha (by omega)), fun _ => ?_⟩
      have p116 : ∀ b, b ≤ sN s → ∀ I2, cRep s P I2 A1 → sMem s k (a * sN s + b) I2 → gWp (gTab (tb_Polls_hearBoth (meth (d + 2)))) Q X 116 [some (.ref (x + 43)), some (.int k), some (.ref (x + 13)), some (.ref (x + P 1)), some (.int (nI a)), some (.int (nI b))] [] (gset H x cck P I2 A1) := by
        refine gdown ?_ ?_
        · intro I2 r2 m2
          refine wb_Polls_hearBoth_116 hm h1 ⟨fun _ => ?_, fun c => absurd (by rw [show I2 (P 1) 0 = nI (sN s) from r2.2.2.1.1]; exact nI_le (Nat.le_refl _) (by omega)) c⟩
          rw [nI_1]
          exact ih I2 A1 r2 t1 (by rw [Nat.succ_mul]; exact m2)
        · intro b hb ihb I2 r2 m2
          have hle : a * sN s + b + 1 ≤ sN s * sN s := by
            have : (a + 1) * sN s ≤ sN s * sN s := Nat.mul_le_mul_right _ ha
            rw [Nat.succ_mul] at this; omega
          have ed : (a * sN s + b) / sN s = a := by rw [Nat.mul_comm, Nat.mul_add_div (by omega), Nat.div_eq_of_lt hb, Nat.add_zero]
          have em : (a * sN s + b) % sN s = b := by rw [Nat.mul_comm, Nat.mul_add_mod, Nat.mod_eq_of_lt hb]
          have ok := (sAcc_ok (s := s) (k := k) h8 (a * sN s + b) (by omega)).1
          have ihb := fun I3 r3 m3 => ihb I3 r3 m3
          rw [← nI_1] at ihb
          unfold sMem at ihb
          rw [show a * sN s + (b + 1) = a * sN s + b + 1 by omega, sAcc, ed, em] at ihb
          refine wb_Polls_hearBoth_116 hm h1 ⟨fun c => absurd c (by rw [show I2 (P 1) 0 = nI (sN s) from r2.2.2.1.1]; exact nI_ge hb (by omega)), fun _ => cs_isRest hs r2 t1 ha hb (wb_Polls_hearBoth_134 hm ⟨fun c => wb_Polls_hearBoth_145 hm ?_, fun c => ?_⟩)⟩
          · have hf := b_i00 c
            rw [if_neg (by rw [hf]; decide)] at ihb
            exact ihb I2 r2 m2
          · have hf := b_i01 c
            rw [if_pos hf] at ihb
            dsimp only at ihb
            have hmn := @mo_Polls_noteRest (meth (d + 1)) (meth_smono (d + 1))
            have e0 : I2 43 3 = 0 ↔ (sAcc s k (a * sN s + b)).1 = 0 := by rw [m2.1]; exact nI_eq (b := 0) (by omega) (by omega)
            refine me_Polls_noteRest (wb_Polls_noteRest_0 hmn ⟨fun q => wb_Polls_noteRest_44 hmn (wb_Polls_hearBoth_145 hm ?_), fun q => ?_⟩)
            · rw [if_neg (fun z => q (e0.mpr z))] at ihb
              refine ihb _ (cRep_fr r2 (fr_I fr_r (by simp)) fr_r (spI_43 hr.1) spA_n) ⟨by rw [upI_s, m2.1, nI_1], by rw [upI_f (by decide)]; exact m2.2.1, by rw [upI_f (by decide)]; exact m2.2.2⟩
            · have z0 := e0.mp (Classical.not_not.mp q)
              rw [if_pos z0] at ihb
              have m8 : nI a * 8 + nI b = nI (8 * a + b) := by rw [nI_8m]; exact nI_add _ _
              have m10 : (10 : Int32) * nI a + nI b = nI (10 * a + b) := by rw [show (10 : Int32) * nI a = nI (10 * a) from (Int32.ofNat_mul 10 a).symm]; exact nI_add _ _
              rw [m8, m10, nI_clamp (by omega), (t1 a ha b hb).1, (t1 a ha b hb).2]
              have iv : vp_in (nI (8 * a + b)) 64 := vp_in_nI (by omega) (by omega)
              refine ⟨iv, iv, wb_Polls_noteRest_44 hmn (wb_Polls_hearBoth_145 hm ?_)⟩
              refine ihb _ (cRep_fr r2 (fr_I (fr_I (fr_I fr_r (by simp)) (by simp)) (by simp)) fr_r (spI_43 hr.1) spA_n) ⟨?_, ?_, ?_⟩
              · rw [upI_s, upI_f (by decide), upI_f (by decide), m2.1, nI_1]
              · rw [upI_f (by decide), upI_f (by decide), upI_s]
              · rw [upI_f (by decide), upI_s]
      exact p116 0 (Nat.zero_le _) I1 r1 m1
  -- first pass
  have rA : ∀ A', Fr [44, 45, 46] A A' → cRep s P I A' := fun A' f => cRep_fr hr fr_r f spI_n (spA_44 hr.1)
  have eN : I (P 1) 0 = nI (sN s) := hr.2.2.1.1
  have p3 : ∀ a, a ≤ sN s → ∀ A1, Fr [44, 45, 46] A A1 → (∀ a', a' < a → ∀ b, b < sN s → A1 45 (8 * a' + b) = pay s k 0 a' b ∧ A1 46 (8 * a' + b) = pay s k 1 a' b) → gWp (gTab (tb_Polls_hearBoth (meth (d + 2)))) Q X 3 [some (.ref (x + 43)), some (.int k), some (.ref (x + 13)), some (.ref (x + P 1)), some (.int (nI a)), none] [] (gset H x cck P I A1) := by
    refine gdown ?_ ?_
    · intro A1 f1 t1
      refine wb_Polls_hearBoth_3 hm h1 ⟨fun _ => ?_, fun c => absurd (by rw [eN]; exact nI_le (Nat.le_refl _) (by omega)) c⟩
      refine p104 0 (Nat.zero_le _) _ A1 (cRep_fr (rA A1 f1) (fr_I (fr_I (fr_I fr_r (by simp)) (by simp)) (by simp)) fr_r (spI_43 hr.1) spA_n) t1 ?_
      rw [Nat.zero_mul]
      exact ⟨by rw [upI_f (by decide), upI_f (by decide), upI_s]; rfl, by rw [upI_f (by decide), upI_s]; rfl, by rw [upI_s]; rfl⟩
    · intro a ha ih A1 f1 t1
      refine wb_Polls_hearBoth_3 hm h1 ⟨fun c => absurd c (by rw [eN]; exact nI_ge ha (by omega)), fun _ => ?_⟩
      have p15 : ∀ b, b ≤ sN s → ∀ A2, Fr [44, 45, 46] A A2 → (∀ a', a' < a → ∀ b, b < sN s → A2 45 (8 * a' + b) = pay s k 0 a' b ∧ A2 46 (8 * a' + b) = pay s k 1 a' b) → (∀ b', b' < b → A2 45 (8 * a + b') = pay s k 0 a b' ∧ A2 46 (8 * a + b') = pay s k 1 a b') → gWp (gTab (tb_Polls_hearBoth (meth (d + 2)))) Q X 15 [some (.ref (x + 43)), some (.int k), some (.ref (x + 13)), some (.ref (x + P 1)), some (.int (nI a)), some (.int (nI b))] [] (gset H x cck P I A2) := by
        refine gdown ?_ ?_
        · intro A2 f2 t2 u2
          refine wb_Polls_hearBoth_15 hm h1 ⟨fun _ => ?_, fun c => absurd (by rw [eN]; exact nI_le (Nat.le_refl _) (by omega)) c⟩
          rw [nI_1]
          refine ih A2 f2 (fun a' h1 b' h2 => ?_)
          by_cases he : a' = a
          · rw [he]; exact u2 b' h2
          · exact t2 a' (by omega) b' h2
        · intro b hb ihb A2 f2 t2 u2
          have m8 : nI a * 8 + nI b = nI (8 * a + b) := by rw [nI_8m]; exact nI_add _ _
          have iv : vp_in (nI (8 * a + b)) 64 := vp_in_nI (by omega) (by omega)
          refine wb_Polls_hearBoth_15 hm h1 ⟨fun c => absurd c (by rw [eN]; exact nI_ge hb (by omega)), fun _ => cs_paid hs (rA A2 f2) ha hb (wb_Polls_hearBoth_48 hm ?_)⟩
          rw [m8, nI_clamp (by omega)]
          have f3 : Fr [44, 45, 46] A (upA A2 45 (8 * a + b) (pay s k 0 a b)) := fr_t f2 (fr_A fr_r (by simp))
          refine ⟨iv, cs_paid hs (rA _ f3) ha hb (wb_Polls_hearBoth_73 hm ?_)⟩
          rw [nI_clamp (by omega), nI_1]
          refine ⟨iv, ihb _ (fr_t f3 (fr_A fr_r (by simp))) (fun a' h1 b' h2 => ?_) (fun b' h1 => ?_)⟩
          · rw [upA_n (show (45 : Nat) ≠ 46 by decide), upA_s, upA_s, upA_n (show (46 : Nat) ≠ 45 by decide), upd_ne (by omega), upd_ne (by omega)]
            exact t2 a' h1 b' h2
          · rw [upA_n (show (45 : Nat) ≠ 46 by decide), upA_s, upA_s, upA_n (show (46 : Nat) ≠ 45 by decide)]
            by_cases he : b' = b
            · rw [he, upd_at, upd_at]; exact ⟨rfl, rfl⟩
            · rw [upd_ne (by omega), upd_ne (by omega)]; exact u2 b' (by omega)
      exact p15 0 (Nat.zero_le _) A1 f1 t1 (fun t ht => absurd ht (Nat.not_lt_zero t))
  exact me_Polls_hearBoth (wb_Polls_hearBoth_0 hm (p3 0 (Nat.zero_le _) A fr_r (fun t ht => absurd ht (Nat.not_lt_zero t))))
end SPC
