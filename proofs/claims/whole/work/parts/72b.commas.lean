/-! ===== calls: commas, the reference ===== -/
section CA18
variable {s : ST}
def cT (k g r c : Nat) : Nat := if r = 0 then (if k = 0 ∨ g ≤ c then 1 else 0) else cF ((r + 1) * g) r c
theorem cT_F {k g r c : Nat} (hk : k ≠ 0) : cT k g r c = cF ((r + 1) * g) r c := by
  unfold cT
  by_cases hr : r = 0
  · rw [if_pos hr, hr]
    unfold cF
    rw [Nat.zero_add, Nat.one_mul]
    by_cases hg : g ≤ c
    · rw [if_pos (Or.inr hg), if_pos hg, ch_0]
    · rw [if_neg (fun q => q.elim hk hg), if_neg hg]
  · rw [if_neg hr]
theorem rSp_26 : rSpA [26] := fun j hj q => by simp at q; omega
theorem nI_31 {r : Nat} : (31 : Int32) * nI r = nI (31 * r) := (Int32.ofNat_mul 31 r).symm
set_option maxHeartbeats 1000000 in
theorem R_commas {a b c : Int32} : rCall m_R_commas [.int a, .int b, .int c] kA (.int 0) (q1 (okCommas a b c) s (f_commas a.toNatClampNeg b.toNatClampNeg c.toNatClampNeg)) s := by
  intro d Q X H x P I A hr h
  have hm := @mo_R_commas (meth (d + 59)) (meth_smono (d + 59))
  have no : okCommas a b c = false → gWp (gTab (tb_R_commas (meth (d + 59)))) Q X 40 [some (.ref (x + 0)), some (.int a), some (.int b), some (.int c), none, none, none, none] [.ref (x + 0)] (gset H x mck P (upI I 0 0 0) A) := fun hf => by
    rw [q1_f hf] at h
    exact wb_R_commas_40 hm (wb_R_commas_41 hm (sp_R_may (c := false) (kind := 1) (code := 1) upI_s (by omega) (by omega) (rRep_0 hr) (fun q => by cases q) (fun _ I' A' r' e => wb_R_commas_46 hm ⟨fun q => absurd rfl q, fun _ => h I' A' _ r' ⟨e, rfl⟩⟩)))
  unfold okCommas at no h
  refine me_R_commas (wb_R_commas_0 hm (sp_R_within (wb_R_commas_13 hm ⟨fun c1 => no (by rw [b_i00 c1]; rfl), fun c1 => sp_R_within (wb_R_commas_23 hm ⟨fun c2 => no (by rw [b_i01 c1, b_i00 c2]; rfl), fun c2 => sp_R_within (wb_R_commas_33 hm ⟨fun c3 => no (by rw [b_i01 c1, b_i01 c2, b_i00 c3]; rfl), fun c3 => wb_R_commas_41 hm (sp_R_may (c := true) (kind := 1) (code := 1) upI_s (by omega) (by omega) (rRep_0 hr) (fun _ => wb_R_commas_46 hm ⟨fun _ => ?_, fun q => absurd (by decide) q⟩) (fun q => by cases q))⟩)⟩)⟩)))
  rw [b_i01 c1, b_i01 c2, b_i01 c3] at h
  simp only [Bool.and_self] at h
  rw [q1_t rfl] at h
  obtain ⟨w, w1, w30, rfl⟩ := inR_1 (m := 30) (by omega) (b_i01 c1)
  obtain ⟨k, k10, rfl⟩ := inR_n (m := 10) (by omega) (b_i01 c2)
  obtain ⟨g, g1, g9, rfl⟩ := inR_1 (m := 9) (by omega) (b_i01 c3)
  rw [nI_clamp (by omega), nI_clamp (by omega), nI_clamp (by omega)] at h
  have rr : ∀ A', Fr [26] A A' → rRep s (upI I 0 0 0) A' := fun A' f => rRep_fr (rRep_0 hr) (fun _ _ => rfl) f rSp_26
  have h := fun A' f v => h _ A' v (rr A' f)
  clear no
  have rows : ∀ r, r ≤ k + 1 → ∀ A1, Fr [26] A A1 → (∀ r', r' < r → ∀ c, c ≤ w → A1 26 (31 * r' + c) = nI (cT k g r' c)) → gWp (gTab (tb_R_commas (meth (d + 59)))) Q X 54 [some (.ref (x + 0)), some (.int (nI w)), some (.int (nI k)), some (.int (nI g)), some (.int (nI r)), none, none, none] [] (gset H x mck P (upI I 0 0 0) A1) := by
    refine gdown ?_ ?_
    · intro A1 f1 e1
      refine wb_R_commas_54 hm ⟨fun _ => ?_, fun q => absurd ((nI_ltI (by omega) (by omega)).mpr (by omega)) q⟩
      rw [nI_31, show nI (31 * k) + nI w = nI (31 * k + w) from nI_add _ _, nI_clamp (by omega), e1 k (by omega) w (by omega)]
      refine ⟨vp_in_nI (by omega) (by omega), h A1 f1 _ ⟨upI_s, ?_⟩⟩
      unfold f_commas
      by_cases hk : k = 0
      · rw [if_pos hk]; unfold cT; rw [if_pos hk, if_pos (Or.inl hk)]
      · rw [if_neg hk, cT_F hk]
    · intro r hr' ih A1 f1 e1
      refine wb_R_commas_54 hm ⟨fun q => absurd ((nI_ltI (by omega) (by omega)).mp q) (by omega), fun _ => ?_⟩
      have cols : ∀ c, c ≤ w + 1 → ∀ A2, Fr [26] A A2 → (∀ r', r' < r → ∀ c, c ≤ w → A2 26 (31 * r' + c) = nI (cT k g r' c)) → (∀ c', c' < c → A2 26 (31 * r + c') = nI (cT k g r c')) → gWp (gTab (tb_R_commas (meth (d + 59)))) Q X 63 [some (.ref (x + 0)), some (.int (nI w)), some (.int (nI k)), some (.int (nI g)), some (.int (nI r)), some (.int (nI c)), none, none] [] (gset H x mck P (upI I 0 0 0) A2) := by
        refine gdown ?_ ?_
        · intro A2 f2 e2 e3
          refine wb_R_commas_63 hm ⟨fun _ => ?_, fun q => absurd ((nI_ltI (by omega) (by omega)).mpr (by omega)) q⟩
          rw [nI_1]
          refine ih A2 f2 (fun r' h1 c' h2 => ?_)
          by_cases he : r' = r
          · rw [he]; exact e3 c' (by omega)
          · exact e2 r' (by omega) c' h2
        · intro c' hc' ihc A2 f2 e2 e3
          -- the cell is written
          have g135 : ∀ v7, gWp (gTab (tb_R_commas (meth (d + 59)))) Q X 135 [some (.ref (x + 0)), some (.int (nI w)), some (.int (nI k)), some (.int (nI g)), some (.int (nI r)), some (.int (nI c')), some (.int (nI (cT k g r c'))), some (.int v7)] [] (gset H x mck P (upI I 0 0 0) A2) := by
            intro v7
            refine wb_R_commas_135 hm ?_
            rw [nI_31, show nI (31 * r) + nI c' = nI (31 * r + c') from nI_add _ _, nI_clamp (by omega), nI_1]
            refine ⟨vp_in_nI (by omega) (by omega), ihc _ (fr_t f2 (fr_A fr_r (by simp))) (fun r' h1 c'' h2 => ?_) (fun c'' h1 => ?_)⟩
            · rw [upA_s, upd_ne (by omega)]; exact e2 r' h1 c'' h2
            · rw [upA_s]
              by_cases he : c'' = c'
              · rw [he, upd_at]
              · rw [upd_ne (by omega)]; exact e3 c'' (by omega)
          refine wb_R_commas_63 hm ⟨fun q => absurd ((nI_ltI (by omega) (by omega)).mp q) (by omega), fun _ => ?_⟩
          have e0 : nI r = 0 ↔ r = 0 := nI_eq (b := 0) (by omega) (by omega)
          have le0 : nI r ≤ 0 ↔ r = 0 := by rw [show (0 : Int32) = nI 0 from rfl, nI_leI (by omega) (by omega)]; omega
          rw [e0]
          refine ⟨fun hr0 => wb_R_commas_88 hm (wb_R_commas_89 hm ?_), fun hr0 => ?_⟩
          · have hk : k ≠ 0 := by omega
            -- the sum
            have rg : 0 < r * g := Nat.mul_pos (by omega) (by omega)
            have sum : ∀ t, g ≤ t → t ≤ c' → ∀ v : Int32, v + nI (cF (r * g) r (c' - t)) = nI (cT k g r c') → gWp (gTab (tb_R_commas (meth (d + 59)))) Q X 94 [some (.ref (x + 0)), some (.int (nI w)), some (.int (nI k)), some (.int (nI g)), some (.int (nI r)), some (.int (nI c')), some (.int v), some (.int (nI t))] [] (gset H x mck P (upI I 0 0 0) A2) := by
              intro t ht1 ht2
              refine gdown (p := fun t => g ≤ t → ∀ v : Int32, v + nI (cF (r * g) r (c' - t)) = nI (cT k g r c') → gWp (gTab (tb_R_commas (meth (d + 59)))) Q X 94 [some (.ref (x + 0)), some (.int (nI w)), some (.int (nI k)), some (.int (nI g)), some (.int (nI r)), some (.int (nI c')), some (.int v), some (.int (nI t))] [] (gset H x mck P (upI I 0 0 0) A2)) (n := c') ?_ ?_ t ht2 ht1
              · intro _ v hv
                refine wb_R_commas_94 hm ⟨fun q => absurd (le0.mp q) hr0, fun _ => ⟨fun _ => ?_, fun q => absurd (nI_le (Nat.le_refl _) (by omega)) q⟩⟩
                rw [Nat.sub_self, cF_0 rg, show nI 0 = 0 from rfl, Int32.add_zero] at hv
                rw [hv]
                exact g135 _
              · intro t ht iht hg v hv
                refine wb_R_commas_94 hm ⟨fun q => absurd (le0.mp q) hr0, fun _ => ⟨fun q => absurd q (nI_ge ht (by omega)), fun _ => ?_⟩⟩
                rw [show nI r - 1 = nI (r - 1) from nI_sub (b := 1) (by omega), nI_31, show nI (31 * (r - 1)) + nI c' = nI (31 * (r - 1) + c') from nI_add _ _, nI_sub (by omega), nI_clamp (by omega), nI_1, show 31 * (r - 1) + c' - t = 31 * (r - 1) + (c' - t) by omega, e2 (r - 1) (by omega) (c' - t) (by omega), cT_F hk, show r - 1 + 1 = r by omega]
                refine ⟨vp_in_nI (by omega) (by omega), iht (by omega) _ ?_⟩
                rw [← hv, Int32.add_assoc, show nI (cF (r * g) (r - 1) (c' - t)) + nI (cF (r * g) r (c' - (t + 1))) = nI (cF (r * g) (r - 1) (c' - t) + cF (r * g) r (c' - (t + 1))) from nI_add _ _]
                congr 2
                have := cF_s (m := r * g) (r := r - 1) (c := c' - (t + 1))
                rw [show r - 1 + 1 = r by omega, show c' - (t + 1) + 1 = c' - t by omega] at this
                omega
            have eT : cT k g r c' = cF ((r + 1) * g) r c' := cT_F hk
            by_cases hgc : g ≤ c'
            · refine sum g (Nat.le_refl _) hgc 0 ?_
              rw [Int32.zero_add, eT]
              congr 1
              unfold cF
              have em : (r + 1) * g = r * g + g := Nat.succ_mul r g
              by_cases hh : r * g ≤ c' - g
              · rw [if_pos hh, if_pos (by omega)]; congr 1; omega
              · rw [if_neg hh, if_neg (by omega)]
            · refine wb_R_commas_94 hm ⟨fun q => absurd (le0.mp q) hr0, fun _ => ⟨fun _ => ?_, fun q => absurd (nI_le (by omega) (by omega)) q⟩⟩
              have em : (r + 1) * g = r * g + g := Nat.succ_mul r g
              have := g135 (nI g)
              rw [eT] at this
              unfold cF at this
              rw [if_neg (by omega)] at this
              exact this
          · have hr0 : r = 0 := Classical.not_not.mp hr0
            have hmi := @mo_R_isPart (meth (d + 58)) (meth_smono (d + 58))
            have fin : ∀ v : Int32, v = nI (cT k g r c') → gWp (gTab (tb_R_commas (meth (d + 59)))) Q X 89 [some (.ref (x + 0)), some (.int (nI w)), some (.int (nI k)), some (.int (nI g)), some (.int (nI r)), some (.int (nI c')), none, none] [.int v] (gset H x mck P (upI I 0 0 0) A2) := fun v hv => by
              rw [hv]
              exact wb_R_commas_89 hm (wb_R_commas_94 hm ⟨fun _ => g135 _, fun q => absurd (le0.mpr hr0) q⟩)
            have kz : nI k = 0 ↔ k = 0 := nI_eq (b := 0) (by omega) (by omega)
            refine me_R_isPart (wb_R_isPart_0 hmi ⟨fun q => wb_R_isPart_9 hmi (wb_R_isPart_14 hmi ⟨rfl, wb_R_commas_81 hm ⟨fun z => absurd z (by decide), fun _ => fin 1 ?_⟩⟩), fun q => ⟨fun q2 => wb_R_isPart_14 hmi ⟨rfl, wb_R_commas_81 hm ⟨fun _ => wb_R_commas_88 hm (fin 0 ?_), fun z => absurd rfl z⟩⟩, fun q2 => wb_R_isPart_9 hmi (wb_R_isPart_14 hmi ⟨rfl, wb_R_commas_81 hm ⟨fun z => absurd z (by decide), fun _ => fin 1 ?_⟩⟩)⟩⟩)
            · unfold cT; rw [if_pos hr0, if_pos (Or.inl (kz.mp q))]; rfl
            · rw [nI_ltI (by omega) (by omega)] at q2
              unfold cT; rw [if_pos hr0, if_neg (fun z => z.elim (fun z => q (kz.mpr z)) (fun z => by omega))]; rfl
            · rw [nI_ltI (by omega) (by omega)] at q2
              unfold cT; rw [if_pos hr0, if_pos (Or.inr (by omega))]; rfl
      exact cols 0 (Nat.zero_le _) A1 f1 e1 (fun t ht => absurd ht (Nat.not_lt_zero t))
  exact rows 0 (Nat.zero_le _) A fr_r (fun t ht => absurd ht (Nat.not_lt_zero t))
end CA18
