/-! ===== calls: bridges, the reference ===== -/
def lb (s : ST) (ex : Int32) : Nat → (Nat → Nat) → Nat → Nat
  | 0, L => L
  | e + 1, L => if nI e = ex then lb s ex e L else updN (updN (lb s ex e L) (zF (sZ s) e) (min (lb s ex e L (zF (sZ s) e)) (lb s ex e L (zT (sZ s) e)))) (zT (sZ s) e) (min (lb s ex e L (zF (sZ s) e)) (lb s ex e L (zT (sZ s) e)))
def itl (s : ST) (ex : Int32) : Nat → Nat → Nat
  | 0 => fun t => t
  | j + 1 => lb s ex (zM (sZ s)) (itl s ex j)
section LBL
variable {s : ST} {ex : Int32}
theorem upp {f : Nat → Nat} {a b m t : Nat} : updN (updN f a m) b m t = if t = a ∨ t = b then m else f t := by
  by_cases hb : t = b
  · rw [if_pos (Or.inr hb), hb, updN_s]
  · rw [updN_n hb]
    by_cases ha : t = a
    · rw [if_pos (Or.inl ha), ha, updN_s]
    · rw [if_neg (fun q => q.elim ha hb), updN_n ha]
theorem lb_1 {L : Nat → Nat} {k t : Nat} : lb s ex (k + 1) L t ≤ lb s ex k L t := by
  rw [lb]
  by_cases h : nI k = ex
  · rw [if_pos h]; exact Nat.le_refl _
  · rw [if_neg h, upp]
    by_cases hq : t = zF (sZ s) k ∨ t = zT (sZ s) k
    · rw [if_pos hq]
      rcases hq with q | q
      · rw [q]; omega
      · rw [q]; omega
    · rw [if_neg hq]; exact Nat.le_refl _
theorem lb_up {L : Nat → Nat} {k t : Nat} : ∀ j, lb s ex (k + j) L t ≤ lb s ex k L t
  | 0 => Nat.le_refl _
  | j + 1 => Nat.le_trans lb_1 (lb_up j)
theorem lb_le {L : Nat → Nat} {t : Nat} (k : Nat) : lb s ex k L t ≤ L t := by
  have := lb_up (s := s) (ex := ex) (L := L) (k := 0) (t := t) k
  rw [Nat.zero_add] at this
  exact this
theorem lb_edge {L : Nat → Nat} {e : Nat} (he : e < zM (sZ s)) (h : ¬ nI e = ex) : lb s ex (zM (sZ s)) L (zT (sZ s) e) ≤ L (zF (sZ s) e) ∧ lb s ex (zM (sZ s)) L (zF (sZ s) e) ≤ L (zT (sZ s) e) := by
  have u : ∀ t, lb s ex (zM (sZ s)) L t ≤ lb s ex (e + 1) L t := fun t => by
    have := lb_up (s := s) (ex := ex) (L := L) (k := e + 1) (t := t) (zM (sZ s) - (e + 1))
    rw [show e + 1 + (zM (sZ s) - (e + 1)) = zM (sZ s) by omega] at this
    exact this
  have h1 := u (zT (sZ s) e)
  have h2 := u (zF (sZ s) e)
  rw [lb, if_neg h, upp] at h1 h2
  rw [if_pos (Or.inr rfl)] at h1
  rw [if_pos (Or.inl rfl)] at h2
  have l1 := lb_le (s := s) (ex := ex) (L := L) (t := zF (sZ s) e) e
  have l2 := lb_le (s := s) (ex := ex) (L := L) (t := zT (sZ s) e) e
  omega
theorem edg_e (hs : sOk s) {e : Nat} (he : e < zM (sZ s)) (h : ¬ nI e = ex) : edg s (allT s) ex (zF (sZ s) e) (zT (sZ s) e) := by
  have hz := zFT hs he
  exact ⟨e, he, h, allT_bt hs hz.1, allT_bt hs hz.2.1, Or.inl ⟨rfl, rfl⟩⟩
theorem lb_sound (hs : sOk s) {L : Nat → Nat} (h : ∀ t, Rch (edg s (allT s) ex) t (L t)) : ∀ k, k ≤ zM (sZ s) → ∀ t, Rch (edg s (allT s) ex) t (lb s ex k L t)
  | 0, _, t => h t
  | k + 1, hk, t => by
    have ih := lb_sound hs h k (by omega)
    rw [lb]
    by_cases hx : nI k = ex
    · rw [if_pos hx]; exact ih t
    · rw [if_neg hx, upp]
      by_cases hq : t = zF (sZ s) k ∨ t = zT (sZ s) k
      · rw [if_pos hq]
        have e1 := edg_e hs (show k < zM (sZ s) by omega) hx
        have a1 : Rch (edg s (allT s) ex) t (zF (sZ s) k) := by
          rcases hq with q | q
          · rw [q]; exact Rch_r
          · rw [q]; exact Rch_s Rch_r (edg_sy e1)
        have a2 : Rch (edg s (allT s) ex) t (zT (sZ s) k) := Rch_s a1 e1
        rcases Nat.le_total (lb s ex k L (zF (sZ s) k)) (lb s ex k L (zT (sZ s) k)) with q | q
        · rw [Nat.min_eq_left q]; exact Rch_tr a1 (ih _)
        · rw [Nat.min_eq_right q]; exact Rch_tr a2 (ih _)
      · rw [if_neg hq]; exact ih t
theorem itl_sound (hs : sOk s) : ∀ j t, Rch (edg s (allT s) ex) t (itl s ex j t)
  | 0, _ => Rch_r
  | j + 1, t => lb_sound hs (itl_sound hs j) (zM (sZ s)) (Nat.le_refl _) t
theorem itl_dn {j t : Nat} : ∀ i, itl s ex (j + i) t ≤ itl s ex j t
  | 0 => Nat.le_refl _
  | i + 1 => Nat.le_trans (lb_le (s := s) (ex := ex) (L := itl s ex (j + i)) (zM (sZ s))) (itl_dn i)
theorem itl_N (hs : sOk s) {t : Nat} (ht : t < sN s) : itl s ex (sN s) t = t ↔ isRt s ex t := by
  constructor
  · intro h u hu hR
    have huN : u < sN s := by omega
    obtain ⟨k, hk, e⟩ := chain (S := fun k t => decide (itl s ex k t ≤ u)) (n := sN s) (fun k t _ hb => by rw [decide_eq_true_eq] at hb ⊢; exact Nat.le_trans (itl_dn (j := k) 1) hb) (cnt_pos (t := u) (by rw [decide_eq_true_eq]; exact Nat.le_refl _) _ huN)
    have hc : itl s ex k t ≤ u := by
      have := Rch_cl (S := fun b => b < sN s ∧ itl s ex k b ≤ u) ⟨huN, by have := itl_dn (s := s) (ex := ex) (j := 0) (t := u) k; rw [Nat.zero_add] at this; exact this⟩ (fun b c hb he => ?_) hR
      · exact this.2
      · obtain ⟨e', h1, h2, _, _, h5⟩ := he
        have hz := zFT hs h1
        have hed := lb_edge (L := itl s ex k) h1 h2
        have key : c < sN s ∧ itl s ex (k + 1) c ≤ u := by
          rcases h5 with ⟨q1, q2⟩ | ⟨q1, q2⟩
          · rw [q1, q2] at hed
            exact ⟨by omega, Nat.le_trans hed.1 hb.2⟩
          · rw [q1, q2] at hed
            exact ⟨by omega, Nat.le_trans hed.2 hb.2⟩
        refine ⟨key.1, ?_⟩
        have := e c key.1
        rw [decide_eq_true key.2, decide_eq_true_eq] at this
        exact this
    have := itl_dn (s := s) (ex := ex) (j := k) (t := t) (sN s - k)
    rw [show k + (sN s - k) = sN s by omega] at this
    omega
  · intro h
    have h1 := itl_dn (s := s) (ex := ex) (j := 0) (t := t) (sN s)
    rw [Nat.zero_add] at h1
    have h1 : itl s ex (sN s) t ≤ t := h1
    refine Classical.byContradiction (fun hc => h (itl s ex (sN s) t) (by omega) (Rch_sy (fun _ _ => edg_sy) (itl_sound hs (sN s) t)))
theorem rSp_27 : rSpA [27] := fun j hj q => by simp at q; omega
set_option maxHeartbeats 1000000 in
theorem rs_partsBut {d : Nat} {Q : gQ} {X : gX} {H : gH} {x : Nat} {P : Nat → Nat} {I A : Nat → Nat → Int32} (hs : sOk s) (hr : rRep s I A) (h : ∀ A', Fr [27] A A' → Q (some (.int (nI (nC s ex (sN s))))) (gset H x mck P I A')) : meth (d + 1) m_R_partsBut [.ref (x + 0), .int ex] (gset H x mck P I A) Q X := by
  have hm := @mo_R_partsBut (meth d) (meth_smono d)
  have h8 : sN s ≤ 8 := hs.2.1.1
  have hM : zM (sZ s) ≤ 12 := hs.2.1.2.1
  have eN : I 0 19 = nI (sN s) := hr.2.1.1
  have eM : I 0 20 = nI (zM (sZ s)) := hr.2.1.2.1
  have eE := hr.2.1.2.2.2
  have l143 : ∀ t, t ≤ sN s → ∀ A1, Fr [27] A A1 → (∀ t, t < sN s → A1 27 t = nI (itl s ex (sN s) t)) → gWp (gTab (tb_R_partsBut (meth d))) Q X 143 [some (.ref (x + 0)), some (.int ex), some (.int (nI (nC s ex t))), some (.int (nI t)), none, none, none] [] (gset H x mck P I A1) := by
    refine gdown ?_ ?_
    · intro A1 f1 e1
      exact wb_R_partsBut_143 hm ⟨fun _ => h A1 f1, fun q => absurd (by rw [eN]; exact nI_le (Nat.le_refl _) (by omega)) q⟩
    · intro t ht ih A1 f1 e1
      have ih := ih A1 f1 e1
      rw [← nI_1] at ih
      have hlt := itl_dn (s := s) (ex := ex) (j := 0) (t := t) (sN s)
      rw [Nat.zero_add] at hlt
      have hlt : itl s ex (sN s) t ≤ t := hlt
      refine wb_R_partsBut_143 hm ⟨fun q => absurd q (by rw [eN]; exact nI_ge ht (by omega)), fun _ => ⟨vp_in_nI (by omega) (by omega), ?_⟩⟩
      rw [nI_clamp (by omega), e1 t ht, nI_eq (by omega) (by omega), itl_N hs ht]
      refine ⟨fun q => wb_R_partsBut_167 hm ?_, fun q => wb_R_partsBut_167 hm ?_⟩
      · rw [nC_n q] at ih
        rw [show nI (nC s ex t) + 0 = nI (nC s ex t + 0) from nI_add _ 0]
        exact ih
      · rw [nC_p (Classical.not_not.mp q)] at ih
        rw [nI_1]
        exact ih
  have l25 : ∀ j, j ≤ sN s → ∀ A1, Fr [27] A A1 → (∀ t, t < sN s → A1 27 t = nI (itl s ex j t)) → gWp (gTab (tb_R_partsBut (meth d))) Q X 25 [some (.ref (x + 0)), some (.int ex), some (.int (nI j)), none, none, none, none] [] (gset H x mck P I A1) := by
    refine gdown ?_ ?_
    · intro A1 f1 e1
      exact wb_R_partsBut_25 hm ⟨fun _ => l143 0 (Nat.zero_le _) A1 f1 e1, fun q => absurd (by rw [eN]; exact nI_le (Nat.le_refl _) (by omega)) q⟩
    · intro j hj ih A1 f1 e1
      refine wb_R_partsBut_25 hm ⟨fun q => absurd q (by rw [eN]; exact nI_ge hj (by omega)), fun _ => ?_⟩
      have l35 : ∀ e, e ≤ zM (sZ s) → ∀ A2, Fr [27] A A2 → (∀ t, t < sN s → A2 27 t = nI (lb s ex e (itl s ex j) t)) → gWp (gTab (tb_R_partsBut (meth d))) Q X 35 [some (.ref (x + 0)), some (.int ex), some (.int (nI j)), some (.int (nI e)), none, none, none] [] (gset H x mck P I A2) := by
        refine gdown ?_ ?_
        · intro A2 f2 e2
          refine wb_R_partsBut_35 hm ⟨fun _ => ?_, fun q => absurd (by rw [eM]; exact nI_le (Nat.le_refl _) (by omega)) q⟩
          rw [nI_1]
          exact ih A2 f2 e2
        · intro e he ihe A2 f2 e2
          have hz := zFT hs he
          have hle : ∀ t, t < sN s → lb s ex e (itl s ex j) t < 8 := fun t ht => by
            have h1 := lb_le (s := s) (ex := ex) (L := itl s ex j) (t := t) e
            have h2 := itl_dn (s := s) (ex := ex) (j := 0) (t := t) j
            rw [Nat.zero_add] at h2
            have h2 : itl s ex j t ≤ t := h2
            omega
          have l1 := hle _ hz.1
          have l2 := hle _ hz.2.1
          have ea : A2 8 = A 8 := f2 8 (by decide)
          refine wb_R_partsBut_35 hm ⟨fun q => absurd q (by rw [eM]; exact nI_ge he (by omega)), fun _ => ?_⟩
          rw [show (2 : Int32) * nI e = nI (2 * e) from (Int32.ofNat_mul 2 e).symm, show nI (2 * e) + 1 = nI (2 * e + 1) from nI_add _ 1, nI_clamp (show 2 * e < 2 ^ 31 by omega), nI_clamp (show 2 * e + 1 < 2 ^ 31 by omega), ea, (eE e he).1, (eE e he).2, nI_clamp (show zF (sZ s) e < 2 ^ 31 by omega), nI_clamp (show zT (sZ s) e < 2 ^ 31 by omega), e2 _ hz.1, e2 _ hz.2.1, nI_leI (by omega) (by omega)]
          have iF : vp_in (nI (zF (sZ s) e)) 8 := vp_in_nI (by omega) (by omega)
          have iT : vp_in (nI (zT (sZ s) e)) 8 := vp_in_nI (by omega) (by omega)
          have g99 : ∀ m : Nat, m = min (lb s ex e (itl s ex j) (zF (sZ s) e)) (lb s ex e (itl s ex j) (zT (sZ s) e)) → gWp (gTab (tb_R_partsBut (meth d))) Q X 99 [some (.ref (x + 0)), some (.int ex), some (.int (nI j)), some (.int (nI e)), some (.int (nI (zF (sZ s) e))), some (.int (nI (zT (sZ s) e))), none] [.int (nI m)] (gset H x mck P I A2) := by
            intro m hmm
            refine wb_R_partsBut_99 hm ⟨fun q => ⟨iF, iT, wb_R_partsBut_127 hm ?_⟩, fun q => wb_R_partsBut_127 hm ?_⟩
            · rw [nI_1, nI_clamp (show zF (sZ s) e < 2 ^ 31 by omega), nI_clamp (show zT (sZ s) e < 2 ^ 31 by omega)]
              refine ihe _ (fr_t f2 (fr_A (fr_A fr_r (by simp)) (by simp))) (fun t ht => ?_)
              rw [upA_s, upA_s, lb, if_neg q, upp, ← hmm]
              by_cases hb : t = zT (sZ s) e
              · rw [if_pos (Or.inr hb), hb, upd_at]
              · rw [upd_ne hb]
                by_cases ha : t = zF (sZ s) e
                · rw [if_pos (Or.inl ha), ha, upd_at]
                · rw [if_neg (fun z => z.elim ha hb), upd_ne ha]; exact e2 t ht
            · rw [nI_1]
              refine ihe A2 f2 (fun t ht => ?_)
              rw [lb, if_pos (Classical.not_not.mp q)]; exact e2 t ht
          exact ⟨vp_in_nI (by omega) (by omega), vp_in_nI (by omega) (by omega), iF, iT, fun q => ⟨iT, g99 _ (Nat.min_eq_right q).symm⟩, fun q => ⟨iF, g99 _ (Nat.min_eq_left (by omega)).symm⟩⟩
      exact l35 0 (Nat.zero_le _) A1 f1 e1
  have l2 : ∀ t, t ≤ sN s → ∀ A1, Fr [27] A A1 → (∀ u, u < t → A1 27 u = nI u) → gWp (gTab (tb_R_partsBut (meth d))) Q X 2 [some (.ref (x + 0)), some (.int ex), some (.int (nI t)), none, none, none, none] [] (gset H x mck P I A1) := by
    refine gdown ?_ ?_
    · intro A1 f1 e1
      exact wb_R_partsBut_2 hm ⟨fun _ => l25 0 (Nat.zero_le _) A1 f1 e1, fun q => absurd (by rw [eN]; exact nI_le (Nat.le_refl _) (by omega)) q⟩
    · intro t ht ih A1 f1 e1
      refine wb_R_partsBut_2 hm ⟨fun q => absurd q (by rw [eN]; exact nI_ge ht (by omega)), fun _ => ⟨vp_in_nI (by omega) (by omega), ?_⟩⟩
      rw [nI_clamp (by omega), nI_1]
      refine ih _ (fr_t f1 (fr_A fr_r (by simp))) (fun u hu => ?_)
      rw [upA_s]
      by_cases he : u = t
      · rw [he, upd_at]
      · rw [upd_ne he]; exact e1 u (by omega)
  exact me_R_partsBut (wb_R_partsBut_0 hm (l2 0 (Nat.zero_le _) A fr_r (fun t ht => absurd ht (Nat.not_lt_zero t))))
theorem R_bridges (hs : sOk s) : rCall m_R_bridges [] kA (.int 0) (.inl (.int (nCu s (zM (sZ s)))), s) s := by
  intro d Q X H x P I A hr h
  have hm := @mo_R_bridges (meth (d + 59)) (meth_smono (d + 59))
  have hM : zM (sZ s) ≤ 12 := hs.2.1.2.1
  have rr : ∀ A', Fr [27] A A' → rRep s (upI I 0 0 0) A' := fun A' f => rRep_fr (rRep_0 hr) (fun _ _ => rfl) f rSp_27
  have eM : upI I 0 0 0 0 20 = nI (zM (sZ s)) := (rr A fr_r).2.1.2.1
  refine me_R_bridges (wb_R_bridges_0 hm (rs_partsBut hs (rr A fr_r) (fun A1 f1 => wb_R_bridges_10 hm ?_)))
  have key : ∀ e, e ≤ zM (sZ s) → ∀ A1, Fr [27] A A1 → gWp (gTab (tb_R_bridges (meth (d + 59)))) Q X 15 [some (.ref (x + 0)), some (.int (nI (nC s (-1) (sN s)))), some (.int (nCu s e)), some (.int (nI e))] [] (gset H x mck P (upI I 0 0 0) A1) := by
    refine gdown ?_ ?_
    · intro A1 f1
      exact wb_R_bridges_15 hm ⟨fun _ => h _ A1 _ (rr A1 f1) ⟨upI_s, rfl⟩, fun q => absurd (by rw [eM]; exact nI_le (Nat.le_refl _) (by omega)) q⟩
    · intro e he ih A1 f1
      refine wb_R_bridges_15 hm ⟨fun q => absurd q (by rw [eM]; exact nI_ge he (by omega)), fun _ => rs_partsBut hs (rr A1 f1) (fun A2 f2 => wb_R_bridges_29 hm ?_)⟩
      have ih := ih A2 (fr_t f1 f2)
      rw [← nI_1, nCu] at ih
      refine ⟨fun q => wb_R_bridges_40 hm ?_, fun q => wb_R_bridges_40 hm ?_⟩
      · rw [if_pos q] at ih; exact ih
      · rw [if_neg q] at ih; exact ih
  exact key 0 (Nat.zero_le _) A1 f1
end LBL
