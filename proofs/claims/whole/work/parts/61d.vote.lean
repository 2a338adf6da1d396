/-! ===== L2: a vote of the class ===== -/
def chOk (n : Nat) (C : Nat → Int32) : Prop := ∀ t, t < n → ∃ c, 1 ≤ c ∧ c ≤ 9 ∧ C t = nI c
theorem fsum_small {f : Nat → Int32} {m : Nat} : ∀ {n : Nat}, (∀ t, t < n → ∃ c, c ≤ m ∧ f t = nI c) → ∃ k, k ≤ m * n ∧ fsum f n = nI k
  | 0, _ => ⟨0, Nat.zero_le _, rfl⟩
  | n + 1, h => by
    obtain ⟨k, hk, e⟩ := fsum_small (n := n) (fun t ht => h t (by omega))
    obtain ⟨c, hc, e2⟩ := h n (by omega)
    exact ⟨k + c, by rw [Nat.mul_succ]; omega, by rw [fsum, e, e2, nI_add]⟩
theorem wseats_small {C : Nat → Int32} {n : Nat} (hC : chOk n C) (hn : n ≤ 8) (V B : Nat → Int32) (p : Int32) : ∃ k, k ≤ 72 ∧ wseat1 C n V B p = nI k := by
  obtain ⟨k, hk, e⟩ := fsum_small (f := fun t => if fside (B t) (V t) = p then C t else 0) (m := 9) (n := n) (fun t ht => by
    obtain ⟨c, h1, h2, e⟩ := hC t ht
    by_cases h : fside (B t) (V t) = p
    · exact ⟨c, h2, by rw [if_pos h, e]⟩
    · exact ⟨0, by omega, by rw [if_neg h]; rfl⟩)
  exact ⟨k, by omega, e⟩
theorem sub_0 {a b : Nat} (ha : a < 2 ^ 30) (hb : b < 2 ^ 30) : (nI a - nI b = 0 ↔ nI a = nI b) ∧ (nI a - nI b ≤ 0 ↔ nI a ≤ nI b) := by
  have ea := nI_toInt (n := a) (by omega)
  have eb := nI_toInt (n := b) (by omega)
  have es : (nI a - nI b).toInt = (a : Int) - b := by rw [_root_.Jvm.Kit.i32_sub (by rw [ea, eb]; omega) (by rw [ea, eb]; omega), ea, eb]
  have e0 : (0 : Int32).toInt = 0 := rfl
  constructor
  · rw [← Int32.toInt_inj, ← Int32.toInt_inj, es, ea, eb, e0]; omega
  · rw [Int32.le_iff_toInt_le, Int32.le_iff_toInt_le, es, ea, eb, e0]; omega
section L2V
variable {d : Nat} {Q : gQ} {X : gX} {H : gH} {x : Nat} {P : Nat → Nat} {I A : Nat → Nat → Int32}
set_option maxHeartbeats 1000000 in
theorem sp_World_holdVote {o l q n : Nat} {ev : (Nat → Int32) → Int32} (ho : cck o = (8 + 2, 0)) (hl : cck l = (3 + 2, 0)) (hq : cck q = (4 + 2, 0)) (hn : I l 0 = nI n) (hn8 : n ≤ 8) (hL : LawAt I A q ev) (hev : evOk ev) (hC : chOk n (A (l + 1))) (hN : ∀ t, t < n → ∀ i, i < 32 → bt (A (l + 2) t) i = true → i < n)
    (h : ∀ I' A', Fr [o] I I' → I' o 3 = I o 3 → Fr [o + 2, o + 3, q + 2, q + 3] A A' → cW n I' A' o = wvote ev (A (l + 1)) (A (l + 2)) n (cW n I A o) → Q none (gset H x cck P I' A')) : meth (d + 5) m_World_holdVote [.ref (x + o), .ref (x + l), .ref (x + q)] (gset H x cck P I A) Q X := by
  have hm := @mo_World_holdVote (meth (d + 4)) (meth_smono (d + 4))
  have dW := cck_W ho
  have dL := cck_L hl
  have dQ := cck_Q hq
  generalize hw : cW n I A o = w at h
  have wVe : ∀ t, t < n → wV w t = A (o + 1) t := fun t ht => by rw [← hw]; exact rs_at ht
  have wBe : ∀ t, t < n → wB w t = A (o + 2) t := fun t ht => by rw [← hw]; exact rs_at ht
  -- what a town is swayed by, in any state of the first loop
  have hsw : ∀ (A' : Nat → Nat → Int32), Fr [o + 3, q + 2, q + 3] A A' → ∀ t, t < n → ev (fct (A' (o + 1) t) (A' (o + 2) t) (A' (l + 1) t) (I o 4) ((I o 3 >>> (nI t &&& 31)) &&& 1) (fbc (A' (l + 2) t &&& fbits 0 (A (o + 1)) (A (o + 2)) n)) (I o 5) (I o 6) (nI t) (I o 7)) = wsway ev (A (l + 1)) (A (l + 2)) n w t := by
    intro A' hf t ht
    rw [hf (o + 1) (by simp; omega), hf (o + 2) (by simp; omega), hf (l + 1) (by simp; omega), hf (l + 2) (by simp; omega), fbc_near hn8 (hN t ht)]
    unfold wsway wnear
    rw [wVe t ht, wBe t ht]
    have e1 : w.2.2.1 t = (I o 3 >>> (nI t &&& 31)) &&& 1 := by rw [← hw]; exact rs_at (f := fun t => (I o 3 >>> (nI t &&& 31)) &&& 1) ht
    have e2 : fsum (fun o_1 => if bt (A (l + 2) t) o_1 = true ∧ wside w o_1 = 0 then (1 : Int32) else 0) n = fsum (fun o_1 => if bt (A (l + 2) t) o_1 = true ∧ fside (A (o + 2) o_1) (A (o + 1) o_1) = 0 then 1 else 0) n := fsum_c (fun u hu => by unfold wside; rw [wVe u hu, wBe u hu])
    rw [e1, e2, ← hw]
    rfl
  refine me_World_holdVote (wb_World_holdVote_0 hm ho (sp_World_sideBits (d := d + 1) ho hl hn hn8 (wb_World_holdVote_6 hm ?_)))
  -- the second loop
  have key2 : ∀ k, k ≤ n → ∀ A', Fr [o + 2, o + 3, q + 2, q + 3] A A' → (∀ t, t < n → A' (o + 3) t = wsway ev (A (l + 1)) (A (l + 2)) n w t) → (∀ t, t < k → A' (o + 2) t = fhold (A (o + 2) t) (A (o + 1) t) (wsway ev (A (l + 1)) (A (l + 2)) n w t)) → (∀ t, k ≤ t → A' (o + 2) t = A (o + 2) t) →
      gWp (gTab (tb_World_holdVote (meth (d + 4)))) Q X 44 [some (.ref (x + o)), some (.ref (x + l)), some (.ref (x + q)), some (.int (fbits 0 (A (o + 1)) (A (o + 2)) n)), some (.int (nI k))] [] (gset H x cck P I A') := by
    refine gdown ?_ ?_
    · intro A' hf hs hlo hhi
      refine wb_World_holdVote_44 hm ho hl ⟨fun _ => ?_, fun c => absurd (by rw [hn]; exact nI_le (Nat.le_refl n) (by omega)) c⟩
      have hn1 : upI I o 5 (I o 5 + 1) l 0 = nI n := by rw [upI_n (by omega)]; exact hn
      have e1 : A' (o + 1) = A (o + 1) := hf _ (by simp; omega)
      have e2 : A' (l + 1) = A (l + 1) := hf _ (by simp; omega)
      have hB1 : ∀ t, t < n → wB1 ev (A (l + 1)) (A (l + 2)) n w t = A' (o + 2) t := fun t ht => by
        unfold wB1
        rw [rs_at ht, wVe t ht, wBe t ht, hlo t ht]
      have hse : ∀ p : Int32, fsum (fun t => if (fbits p (A' (o + 1)) (A' (o + 2)) n >>> (nI t &&& 31)) &&& 1 = 1 then A' (l + 1) t else 0) n = wseat1 (A (l + 1)) n (wV w) (wB1 ev (A (l + 1)) (A (l + 2)) n w) p := by
        intro p
        rw [seats_eq hn8, e2]
        refine fsum_c (fun t ht => ?_)
        rw [e1, hB1 t ht, wVe t ht]
      refine sp_World_seatsOf (d := d) ho hl hn1 hn8 ?_
      rw [hse 0]
      refine wb_World_holdVote_95 hm ho (sp_World_seatsOf (d := d) ho hl hn1 hn8 ?_)
      rw [hse 1]
      obtain ⟨ka, hka, ea⟩ := wseats_small hC hn8 (wV w) (wB1 ev (A (l + 1)) (A (l + 2)) n w) 0
      obtain ⟨kb, hkb, eb⟩ := wseats_small hC hn8 (wV w) (wB1 ev (A (l + 1)) (A (l + 2)) n w) 1
      have hsub := sub_0 (a := ka) (b := kb) (by omega) (by omega)
      have hB : rs n (A' (o + 2)) = wB1 ev (A (l + 1)) (A (l + 2)) n w := rs_c (fun t ht => by rw [hlo t ht, wVe t ht, wBe t ht])
      have hV : rs n (A' (o + 1)) = wV w := by rw [e1, ← hw]; rfl
      have fin : ∀ pv : Int32, wlead (wseat1 (A (l + 1)) n (wV w) (wB1 ev (A (l + 1)) (A (l + 2)) n w) 0) (wseat1 (A (l + 1)) n (wV w) (wB1 ev (A (l + 1)) (A (l + 2)) n w) 1) (I o 6) = pv → ∀ I', Fr [o] I I' → I' o 3 = I o 3 → I' o 4 = I o 4 → I' o 5 = I o 5 + 1 → I' o 6 = pv → I' o 7 = I o 7 → Q none (gset H x cck P I' A') := by
        intro pv hpv I' f1 f3 f4 f5 f6 f7
        refine h I' A' f1 f3 hf ?_
        have e6 : w.2.2.2.2.2.1 = I o 6 := by rw [← hw]; rfl
        unfold cW wvote
        rw [hB, hV, f3, f4, f5, f6, f7, e6, hpv]
        rw [← hw]
        rfl
      unfold wlead at fin
      refine wb_World_holdVote_101 hm ⟨fun c => wb_World_holdVote_123 hm ?_, fun c => ⟨fun c2 => wb_World_holdVote_120 hm ho (wb_World_holdVote_123 hm ?_), fun c2 => wb_World_holdVote_120 hm ho (wb_World_holdVote_123 hm ?_)⟩⟩
      · rw [ea, eb, hsub.1, ← ea, ← eb] at c
        exact fin (I o 6) (if_pos c) _ (fr_I fr_r (by simp)) (upI_f (by omega)) (upI_f (by omega)) upI_s (upI_f (by omega)) (upI_f (by omega))
      · rw [ea, eb, hsub.1, ← ea, ← eb] at c
        rw [ea, eb, hsub.2, ← ea, ← eb] at c2
        exact fin 1 (by rw [if_neg c, if_pos c2]) _ (fr_I (fr_I fr_r (by simp)) (by simp)) (by rw [upI_f (by omega), upI_f (by omega)]) (by rw [upI_f (by omega), upI_f (by omega)]) (by rw [upI_f (by omega), upI_s]) upI_s (by rw [upI_f (by omega), upI_f (by omega)])
      · rw [ea, eb, hsub.1, ← ea, ← eb] at c
        rw [ea, eb, hsub.2, ← ea, ← eb] at c2
        exact fin 0 (by rw [if_neg c, if_neg c2]) _ (fr_I (fr_I fr_r (by simp)) (by simp)) (by rw [upI_f (by omega), upI_f (by omega)]) (by rw [upI_f (by omega), upI_f (by omega)]) (by rw [upI_f (by omega), upI_s]) upI_s (by rw [upI_f (by omega), upI_f (by omega)])
    · intro k hk ih A' hf hs hlo hhi
      have e1 : A' (o + 1) = A (o + 1) := hf _ (by simp; omega)
      refine wb_World_holdVote_44 hm ho hl ⟨fun c => absurd c (by rw [hn]; exact nI_ge hk (by omega)), fun _ => ⟨vp_in_nI (by omega) (by omega), sp_World_shifted (d := d + 3) ho (vp_in_nI (by omega) (by omega)) (wb_World_holdVote_72 hm ho ⟨vp_in_nI (by omega) (by omega), ?_⟩)⟩⟩
      rw [nI_clamp (by omega), ← nI_succ, e1, hs k hk, hhi k (Nat.le_refl k)]
      refine ih _ (fr_A hf (by simp)) (fun t ht => ?_) (fun t ht => ?_) (fun t ht => ?_)
      · rw [upA_n (by omega)]; exact hs t ht
      · rw [upA_s]
        by_cases htk : t = k
        · rw [htk, upd_at]
        · rw [upd_ne htk]; exact hlo t (by omega)
      · rw [upA_s, upd_ne (by omega)]; exact hhi t (by omega)
  -- the first loop
  have key1 : ∀ k, k ≤ n → ∀ A', Fr [o + 3, q + 2, q + 3] A A' → (∀ t, t < k → A' (o + 3) t = wsway ev (A (l + 1)) (A (l + 2)) n w t) →
      gWp (gTab (tb_World_holdVote (meth (d + 4)))) Q X 10 [some (.ref (x + o)), some (.ref (x + l)), some (.ref (x + q)), some (.int (fbits 0 (A (o + 1)) (A (o + 2)) n)), some (.int (nI k))] [] (gset H x cck P I A') := by
    refine gdown ?_ ?_
    · intro A' hf hs
      refine wb_World_holdVote_10 hm ho hl ⟨fun _ => key2 0 (Nat.zero_le n) A' (fr_m hf (by simp)) hs (fun t ht => absurd ht (Nat.not_lt_zero t)) (fun t _ => by rw [hf (o + 2) (by simp; omega)]), fun c => absurd (by rw [hn]; exact nI_le (Nat.le_refl n) (by omega)) c⟩
    · intro k hk ih A' hf hs
      refine wb_World_holdVote_10 hm ho hl ⟨fun c => absurd c (by rw [hn]; exact nI_ge hk (by omega)), fun _ => sp_World_swayBy (d := d + 1) ho hl hq (hL.mv rfl (hf _ (by simp; omega))) hev (vp_in_nI (by omega) (by omega)) (fun F K => wb_World_holdVote_34 hm ho ⟨vp_in_nI (by omega) (by omega), ?_⟩)⟩
      rw [nI_clamp (by omega), ← nI_succ, hsw A' hf k hk]
      refine ih _ (fr_A (fr_C (fr_C hf (by simp)) (by simp)) (by simp)) (fun t ht => ?_)
      rw [upA_s]
      by_cases htk : t = k
      · rw [htk, upd_at]
      · rw [upd_ne htk, upC_n (by omega), upC_n (by omega)]; exact hs t (by omega)
  exact key1 0 (Nat.zero_le n) A fr_r (fun t ht => absurd ht (Nat.not_lt_zero t))
end L2V
