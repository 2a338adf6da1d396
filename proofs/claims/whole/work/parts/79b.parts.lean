/-! ===== calls: parts, bridges: the class; parts: the reference ===== -/
def allT (s : ST) : Int32 := nI (2 ^ sN s - 1)
def isRt (s : ST) (ex : Int32) (t : Nat) : Prop := ∀ u, u < t → ¬ Rch (edg s (allT s) ex) u t
noncomputable def nC (s : ST) (ex : Int32) : Nat → Nat
  | 0 => 0
  | t + 1 => nC s ex t + @ite Nat (isRt s ex t) (Classical.propDecidable _) 1 0
theorem nC_le {s : ST} {ex : Int32} : ∀ t, nC s ex t ≤ t
  | 0 => Nat.le_refl _
  | t + 1 => by
    have := nC_le (s := s) (ex := ex) t
    unfold nC
    by_cases h : isRt s ex t
    · rw [if_pos h]; omega
    · rw [if_neg h]; omega
theorem nC_p {s : ST} {ex : Int32} {t : Nat} (h : isRt s ex t) : nC s ex (t + 1) = nC s ex t + 1 := by rw [nC, if_pos h]
theorem nC_n {s : ST} {ex : Int32} {t : Nat} (h : ¬ isRt s ex t) : nC s ex (t + 1) = nC s ex t := by rw [nC, if_neg h]; rfl
noncomputable def nCu (s : ST) : Nat → Int32
  | 0 => 0
  | e + 1 => nCu s e ||| (if nI (nC s (nI e) (sN s)) ≤ nI (nC s (-1) (sN s)) then 0 else (1 : Int32) <<< (nI e &&& 31))
section PAC
variable {s : ST} {d : Nat} {Q : gQ} {X : gX} {H : gH} {x : Nat} {P : Nat → Nat} {I A : Nat → Nat → Int32} {ex : Int32}
theorem allT_bt (hs : sOk s) {t : Nat} (ht : t < sN s) : bt (allT s) t = true := by
  have h8 : sN s ≤ 8 := hs.2.1.1
  unfold allT
  rw [← every_n (sN s) (by omega)]
  exact every_bt (sN s) (by omega) t ht
theorem cs_pieces (hs : sOk s) (hr : cRep s P I A) (h : Q (some (.int (nI (nC s ex (sN s))))) (gset H x cck P I A)) : meth (d + 2) m_Land_pieces [.ref (x + P 1), .int ex] (gset H x cck P I A) Q X := by
  have hm := @mo_Land_pieces (meth (d + 1)) (meth_smono (d + 1))
  have h8 : sN s ≤ 8 := hs.2.1.1
  have h1 := pOk_1 hr.1
  have eN : I (P 1) 0 = nI (sN s) := hr.2.2.1.1
  have key : ∀ t, t ≤ sN s → ∀ v2 : Int32, (∀ u, u < sN s → (bt v2 u = true ↔ ∀ w, w < t → ¬ Rch (edg s (allT s) ex) w u)) → gWp (gTab (tb_Land_pieces (meth (d + 1)))) Q X 10 [some (.ref (x + P 1)), some (.int ex), some (.int v2), some (.int (nI (nC s ex t))), some (.int (nI t))] [] (gset H x cck P I A) := by
    refine gdown ?_ ?_
    · intro v2 _
      exact wb_Land_pieces_10 hm h1 ⟨fun _ => h, fun q => absurd (by rw [eN]; exact nI_le (Nat.le_refl _) (by omega)) q⟩
    · intro t ht ih v2 hv
      rw [← nI_1] at ih
      refine wb_Land_pieces_10 hm h1 ⟨fun q => absurd q (by rw [eN]; exact nI_ge ht (by omega)), fun _ => ?_⟩
      rw [b_at1 (by omega)]
      refine ⟨fun q => wb_Land_pieces_48 hm ?_, fun q => cs_everyTown hs hr (wb_Land_pieces_40 hm h1 (cs_reached hs hr ht (wb_Land_pieces_44 hm (wb_Land_pieces_48 hm ?_))))⟩
      · have nr : ¬ isRt s ex t := fun z => q ((hv t ht).mpr z)
        rw [nC_n nr] at ih
        refine ih v2 (fun u hu => ?_)
        rw [hv u hu]
        refine ⟨fun z w hw hR => ?_, fun z w hw => z w (by omega)⟩
        by_cases he : w = t
        · have := Classical.byContradiction (fun (hc : ¬ ∃ w, w < t ∧ Rch (edg s (allT s) ex) w t) => nr (fun w hw hR => hc ⟨w, hw, hR⟩))
          obtain ⟨w0, hw0, hR0⟩ := this
          rw [he] at hR
          exact z w0 hw0 (Rch_tr hR0 hR)
        · exact z w (by omega) hR
      · have hb := Classical.not_not.mp q
        have nr : isRt s ex t := (hv t ht).mp hb
        rw [nC_p nr, ← nI_1] at ih
        refine ih _ (fun u hu => ?_)
        have hit := itr_8 (S := allT s) (ex := ex) hs ht (show u < 32 by omega)
        rw [b_and, b_xor, b_m1 u (by omega)]
        constructor
        · intro z w hw hR
          rw [Bool.and_eq_true] at z
          by_cases he : w = t
          · rw [he] at hR
            have z2 := z.2
            rw [show bt (itr s (nI (2 ^ sN s - 1)) ex t 8) u = true from hit.mpr hR] at z2
            cases z2
          · exact (hv u hu).mp z.1 w (by omega) hR
        · intro z
          rw [(hv u hu).mpr (fun w hw => z w (by omega)), Bool.true_and]
          cases hx : bt (itr s (nI (2 ^ sN s - 1)) ex t 8) u
          · rfl
          · exact absurd (hit.mp hx) (z t (by omega))
  exact me_Land_pieces (wb_Land_pieces_0 hm h1 (cs_everyTown hs hr (wb_Land_pieces_4 hm (key 0 (Nat.zero_le _) _ (fun u hu => ⟨fun _ w hw => absurd hw (Nat.not_lt_zero w), fun _ => allT_bt hs hu⟩)))))
theorem C_parts (hs : sOk s) : cCall m_S_parts [] (.inl (.int (nI (nC s (-1) (sN s)))), s) s := by
  intro d Q X H x P I A hr h
  have hm := @mo_S_parts (meth (d + 59)) (meth_smono (d + 59))
  exact me_S_parts (wb_S_parts_0 hm (pOk_1 hr.1) (cs_pieces hs hr (wb_S_parts_8 hm (h P I A hr))))
theorem C_bridges (hs : sOk s) : cCall m_S_bridges [] (.inl (.int (nCu s (zM (sZ s)))), s) s := by
  intro d Q X H x P I A hr h
  have hm' := @mo_S_bridges (meth (d + 59)) (meth_smono (d + 59))
  have hm := @mo_Land_cuts (meth (d + 58)) (meth_smono (d + 58))
  have h1 := pOk_1 hr.1
  have hM : zM (sZ s) ≤ 12 := hs.2.1.2.1
  have eM : I (P 1) 1 = nI (zM (sZ s)) := hr.2.2.1.2.1
  have h := h P I A hr
  refine me_S_bridges (wb_S_bridges_0 hm' h1 (me_Land_cuts (wb_Land_cuts_0 hm h1 (cs_pieces hs hr (wb_Land_cuts_5 hm ?_)))))
  have key : ∀ e, e ≤ zM (sZ s) → gWp (gTab (tb_Land_cuts (meth (d + 58)))) (fun r H' => gWp (gTab (tb_S_bridges (meth (d + 59)))) Q X 7 [some (.ref (x + 0))] (r.toList ++ []) H') X 10 [some (.ref (x + P 1)), some (.int (nI (nC s (-1) (sN s)))), some (.int (nCu s e)), some (.int (nI e))] [] (gset H x cck P I A) := by
    refine gdown ?_ ?_
    · exact wb_Land_cuts_10 hm h1 ⟨fun _ => wb_S_bridges_7 hm' h, fun q => absurd (by rw [eM]; exact nI_le (Nat.le_refl _) (by omega)) q⟩
    · intro e he ih
      rw [← nI_1, nCu] at ih
      refine wb_Land_cuts_10 hm h1 ⟨fun q => absurd q (by rw [eM]; exact nI_ge he (by omega)), fun _ => cs_pieces hs hr (wb_Land_cuts_24 hm ⟨fun q => wb_Land_cuts_35 hm ?_, fun q => wb_Land_cuts_35 hm ?_⟩)⟩
      · rw [if_pos q] at ih; exact ih
      · rw [if_neg q] at ih; exact ih
  exact key 0 (Nat.zero_le _)
end PAC
theorem hasR_ex {F T : Nat → Nat} {a c : Nat} : ∀ m, hasR F T a c m = true ↔ ∃ e, e < m ∧ ((F e = a ∧ T e = c) ∨ (F e = c ∧ T e = a))
  | 0 => ⟨fun q => (by cases q), fun ⟨e, he, _⟩ => absurd he (Nat.not_lt_zero e)⟩
  | m + 1 => by
    have ih := hasR_ex (F := F) (T := T) (a := a) (c := c) m
    rw [hasR, Bool.or_eq_true, Bool.or_eq_true, decide_eq_true_eq, decide_eq_true_eq, ih]
    constructor
    · rintro (⟨e, he, h⟩ | h)
      · exact ⟨e, by omega, h⟩
      · exact ⟨m, by omega, h⟩
    · rintro ⟨e, he, h⟩
      by_cases hem : e = m
      · rw [hem] at h; exact Or.inr h
      · exact Or.inl ⟨e, by omega, h⟩
def qI (s : ST) (S : Int32) : Nat → Int32 → Int32
  | 0, v => v
  | t + 1, v => if bt (qI s S t v) t = true then qI s S t v ||| (sNr s t &&& S) else qI s S t v
def hI (s : ST) (S : Int32) (a : Nat) : Nat → Int32
  | 0 => (1 : Int32) <<< (nI a &&& 31)
  | j + 1 => qI s S (sN s) (hI s S a j)
section HAN
variable {s : ST} {S : Int32}
theorem near_bt (hs : sOk s) {b c : Nat} (hb : b < 32) (hc : c < 32) : bt (sNr s b) c = true ↔ ∃ e, e < zM (sZ s) ∧ ((zF (sZ s) e = b ∧ zT (sZ s) e = c) ∨ (zF (sZ s) e = c ∧ zT (sZ s) e = b)) := by
  unfold sNr
  rw [froads_bt hb hc (fun e he => by have := zFT hs he; omega)]
  exact hasR_ex _
theorem e_m1 (hs : sOk s) {e : Nat} (he : e < zM (sZ s)) : ¬ nI e = -1 := by
  have : zM (sZ s) ≤ 12 := hs.2.1.2.1
  exact nI_nm1 (by omega)
theorem qI_mono {v : Int32} {t : Nat} (h : bt v t = true) : ∀ k, bt (qI s S k v) t = true
  | 0 => h
  | k + 1 => by
    have ih := qI_mono h k
    rw [qI]
    by_cases hc : bt (qI s S k v) k = true
    · rw [if_pos hc, b_or, ih, Bool.true_or]
    · rw [if_neg hc]; exact ih
theorem qI_up {v : Int32} {t k : Nat} (h : bt (qI s S k v) t = true) : ∀ j, bt (qI s S (k + j) v) t = true
  | 0 => h
  | j + 1 => by
    have ih := qI_up h j
    rw [show k + (j + 1) = k + j + 1 by omega, qI]
    by_cases hc : bt (qI s S (k + j) v) (k + j) = true
    · rw [if_pos hc, b_or, ih, Bool.true_or]
    · rw [if_neg hc]; exact ih
theorem Rch_in {a : Nat} (ha : bt S a = true) {t : Nat} {ex : Int32} (h : Rch (edg s S ex) a t) : bt S t = true := by
  refine Rch_cl (S := fun t => bt S t = true) ha (fun b c _ he => ?_) h
  obtain ⟨e, h1, _, h3, h4, h5⟩ := he
  rcases h5 with ⟨q1, q2⟩ | ⟨q1, q2⟩
  · rw [← q2]; exact h4
  · rw [← q1]; exact h3
theorem qI_sound (hs : sOk s) {v : Int32} {a : Nat} (ha : bt S a = true) (h : ∀ t, t < 32 → bt v t = true → Rch (edg s S (-1)) a t) : ∀ k, k ≤ sN s → ∀ t, t < 32 → bt (qI s S k v) t = true → Rch (edg s S (-1)) a t
  | 0, _, t, ht, hb => h t ht hb
  | k + 1, hk, t, ht, hb => by
    have h8 : sN s ≤ 8 := hs.2.1.1
    have ih := qI_sound hs ha h k (by omega)
    rw [qI] at hb
    by_cases hc : bt (qI s S k v) k = true
    · rw [if_pos hc, b_or, Bool.or_eq_true] at hb
      rcases hb with hb | hb
      · exact ih t ht hb
      · rw [b_and, Bool.and_eq_true] at hb
        obtain ⟨hn, hS⟩ := hb
        rw [near_bt hs (by omega) ht] at hn
        obtain ⟨e, he, h5⟩ := hn
        have hk := ih k (by omega) hc
        have hkS := Rch_in ha hk
        refine Rch_s hk ⟨e, he, e_m1 hs he, ?_, ?_, h5⟩
        · rcases h5 with ⟨q1, q2⟩ | ⟨q1, q2⟩
          · rw [q1]; exact hkS
          · rw [q1]; exact hS
        · rcases h5 with ⟨q1, q2⟩ | ⟨q1, q2⟩
          · rw [q2]; exact hS
          · rw [q2]; exact hkS
    · rw [if_neg hc] at hb; exact ih t ht hb
theorem qI_fix (hs : sOk s) {v : Int32} (h : qI s S (sN s) v = v) {b c : Nat} (hb : bt v b = true) (he : edg s S (-1) b c) : bt v c = true := by
  obtain ⟨e, h1, _, h3, h4, h5⟩ := he
  have hz := zFT hs h1
  have hbN : b < sN s := by rcases h5 with ⟨q1, q2⟩ | ⟨q1, q2⟩ <;> omega
  have hcN : c < sN s := by rcases h5 with ⟨q1, q2⟩ | ⟨q1, q2⟩ <;> omega
  have hcS : bt S c = true := by
    rcases h5 with ⟨q1, q2⟩ | ⟨q1, q2⟩
    · rw [← q2]; exact h4
    · rw [← q1]; exact h3
  have hn : bt (sNr s b) c = true := (near_bt hs (by omega) (by omega)).mpr ⟨e, h1, h5⟩
  have k : bt (qI s S (b + 1) v) c = true := by
    rw [qI, if_pos (qI_mono hb b), b_or, b_and, hn, hcS]
    simp
  have := qI_up k (sN s - (b + 1))
  rw [show b + 1 + (sN s - (b + 1)) = sN s by omega, h] at this
  exact this
theorem hI_sound (hs : sOk s) {a : Nat} (haN : a < sN s) (ha : bt S a = true) : ∀ j t, t < 32 → bt (hI s S a j) t = true → Rch (edg s S (-1)) a t
  | 0, t, ht, hb => by
    have h8 : sN s ≤ 8 := hs.2.1.1
    rw [hI, b_1shl (by omega) ht, decide_eq_true_eq] at hb
    rw [hb]; exact Rch_r
  | j + 1, t, ht, hb => qI_sound hs ha (hI_sound hs haN ha j) (sN s) (Nat.le_refl _) t ht hb
theorem hI_st {a j : Nat} (h : hI s S a (j + 1) = hI s S a j) : ∀ i, hI s S a (j + i) = hI s S a j
  | 0 => rfl
  | i + 1 => by rw [show j + (i + 1) = j + i + 1 by omega, hI, hI_st h i]; exact h
theorem hI_N (hs : sOk s) {a : Nat} (haN : a < sN s) (ha : bt S a = true) {t : Nat} (ht : t < 32) : bt (hI s S a (sN s)) t = true ↔ Rch (edg s S (-1)) a t := by
  have h8 : sN s ≤ 8 := hs.2.1.1
  refine ⟨hI_sound hs haN ha (sN s) t ht, fun h => ?_⟩
  obtain ⟨k, hk, e⟩ := chain (S := fun k t => bt (hI s S a k) t) (n := sN s) (fun k t _ hb => qI_mono hb _) (cnt_pos (t := a) (by show bt (hI s S a 0) a = true; rw [hI, b_1shl (by omega) (by omega), decide_eq_true rfl]) _ haN)
  have e2 : hI s S a (k + 1) = hI s S a k := b_ext (fun i hi => by
    by_cases hN : i < sN s
    · exact (e i hN).symm
    · have z : ∀ j, bt (hI s S a j) i = false := fun j => by
        cases hb : bt (hI s S a j) i
        · rfl
        · exact absurd (Rch_lt hs haN (hI_sound hs haN ha j i hi hb)) hN
      rw [z, z])
  have eN : hI s S a (sN s) = hI s S a k := by
    have := hI_st e2 (sN s - k)
    rw [show k + (sN s - k) = sN s by omega] at this
    exact this
  rw [eN]
  refine Rch_cl (S := fun t => bt (hI s S a k) t = true) ?_ (fun b c hb he => qI_fix hs (by rw [hI] at e2; exact e2) hb he) h
  have : ∀ j, bt (hI s S a j) a = true := fun j => by
    induction j with
    | zero => rw [hI, b_1shl (by omega) (by omega), decide_eq_true rfl]
    | succ j ih => exact qI_mono ih _
  exact this k
theorem rs_hangs {d : Nat} {Q : gQ} {X : gX} {H : gH} {x : Nat} {P : Nat → Nat} {I A : Nat → Nat → Int32} (hs : sOk s) (hr : rRep s I A) {a : Nat} (h : Q (some (.int (hI s S a (sN s)))) (gset H x mck P I A)) : meth (d + 2) m_R_hangs [.ref (x + 0), .int (nI a), .int S] (gset H x mck P I A) Q X := by
  have hm := @mo_R_hangs (meth (d + 1)) (meth_smono (d + 1))
  have h8 : sN s ≤ 8 := hs.2.1.1
  have eN : I 0 19 = nI (sN s) := hr.2.1.1
  have hl := rRep_land hs hr
  have outer : ∀ j, j ≤ sN s → gWp (gTab (tb_R_hangs (meth (d + 1)))) Q X 7 [some (.ref (x + 0)), some (.int (nI a)), some (.int S), some (.int (hI s S a j)), some (.int (nI j)), none] [] (gset H x mck P I A) := by
    refine gdown ?_ ?_
    · exact wb_R_hangs_7 hm ⟨fun _ => h, fun q => absurd (by rw [eN]; exact nI_le (Nat.le_refl _) (by omega)) q⟩
    · intro j hj ih
      refine wb_R_hangs_7 hm ⟨fun q => absurd q (by rw [eN]; exact nI_ge hj (by omega)), fun _ => ?_⟩
      have inner : ∀ t, t ≤ sN s → gWp (gTab (tb_R_hangs (meth (d + 1)))) Q X 19 [some (.ref (x + 0)), some (.int (nI a)), some (.int S), some (.int (qI s S t (hI s S a j))), some (.int (nI j)), some (.int (nI t))] [] (gset H x mck P I A) := by
        refine gdown ?_ ?_
        · refine wb_R_hangs_19 hm ⟨fun _ => ?_, fun q => absurd (by rw [eN]; exact nI_le (Nat.le_refl _) (by omega)) q⟩
          rw [nI_1]; exact ih
        · intro t ht iht
          rw [← nI_1, qI] at iht
          refine wb_R_hangs_19 hm ⟨fun q => absurd q (by rw [eN]; exact nI_ge ht (by omega)), fun _ => ?_⟩
          rw [b_at1 (by omega)]
          refine ⟨fun q => wb_R_hangs_49 hm ?_, fun q => sp_R_roadsOf (m := zM (sZ s)) hl.2.2.1 hl.2.2.2.1 (wb_R_hangs_45 hm (wb_R_hangs_49 hm ?_))⟩
          · rw [if_neg q] at iht; exact iht
          · rw [if_pos (Classical.not_not.mp q)] at iht
            rw [hl.2.2.2.2.2 t ht]
            exact iht
      exact inner 0 (Nat.zero_le _)
  exact me_R_hangs (wb_R_hangs_0 hm (outer 0 (Nat.zero_le _)))
theorem R_parts (hs : sOk s) : rCall m_R_parts [] kA (.int 0) (.inl (.int (nI (nC s (-1) (sN s)))), s) s := by
  intro d Q X H x P I A hr h
  have hm := @mo_R_parts (meth (d + 59)) (meth_smono (d + 59))
  have h8 : sN s ≤ 8 := hs.2.1.1
  have r0 := rRep_0 (a := 0) hr
  have eN : upI I 0 0 0 0 19 = nI (sN s) := r0.2.1.1
  have key : ∀ t, t ≤ sN s → ∀ v1 : Int32, (∀ u, u < sN s → (bt v1 u = true ↔ ∃ w, w < t ∧ Rch (edg s (allT s) (-1)) w u)) → gWp (gTab (tb_R_parts (meth (d + 59)))) Q X 11 [some (.ref (x + 0)), some (.int v1), some (.int (nI (nC s (-1) t))), some (.int (nI t))] [] (gset H x mck P (upI I 0 0 0) A) := by
    refine gdown ?_ ?_
    · intro v1 _
      refine wb_R_parts_11 hm ⟨fun _ => h _ A _ r0 ⟨upI_s, rfl⟩, fun q => absurd (by rw [eN]; exact nI_le (Nat.le_refl _) (by omega)) q⟩
    · intro t ht ih v1 hv
      rw [← nI_1] at ih
      refine wb_R_parts_11 hm ?_
      rw [eN, b_at1 (by omega), every_n (sN s) (by omega)]
      refine ⟨fun q => absurd q (nI_ge ht (by omega)), fun _ => ⟨fun q => rs_hangs hs r0 (wb_R_parts_45 hm (wb_R_parts_50 hm ?_)), fun q => wb_R_parts_50 hm ?_⟩⟩
      · have nr : isRt s (-1) t := fun w hw hR => q ((hv t ht).mpr ⟨w, hw, hR⟩)
        rw [nC_p nr, ← nI_1] at ih
        refine ih _ (fun u hu => ?_)
        have hit := hI_N (S := allT s) hs ht (allT_bt hs ht) (show u < 32 by omega)
        rw [b_or, Bool.or_eq_true, hv u hu]
        constructor
        · rintro (⟨w, hw, hR⟩ | z)
          · exact ⟨w, by omega, hR⟩
          · exact ⟨t, by omega, hit.mp z⟩
        · rintro ⟨w, hw, hR⟩
          by_cases he : w = t
          · rw [he] at hR; exact Or.inr (hit.mpr hR)
          · exact Or.inl ⟨w, by omega, hR⟩
      · have hb := Classical.not_not.mp q
        obtain ⟨w0, hw0, hR0⟩ := (hv t ht).mp hb
        have nr : ¬ isRt s (-1) t := fun z => z w0 hw0 hR0
        rw [nC_n nr] at ih
        refine ih v1 (fun u hu => ?_)
        rw [hv u hu]
        constructor
        · rintro ⟨w, hw, hR⟩; exact ⟨w, by omega, hR⟩
        · rintro ⟨w, hw, hR⟩
          by_cases he : w = t
          · rw [he] at hR; exact ⟨w0, hw0, Rch_tr hR0 hR⟩
          · exact ⟨w, by omega, hR⟩
  exact me_R_parts (wb_R_parts_0 hm (key 0 (Nat.zero_le _) 0 (fun u hu => ⟨fun z => (by rw [b_0] at z; cases z), fun ⟨w, hw, _⟩ => absurd hw (Nat.not_lt_zero w)⟩)))
end HAN
