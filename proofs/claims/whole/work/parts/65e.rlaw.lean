/-! ===== L2: a law's text, the reference: units, products, sums ===== -/
section L2LS
variable {n : Nat} {b : Nat → Int32}
set_option maxHeartbeats 2000000 in
theorem rl_unit {S : Option (PO → CO × PO)} {dd op D : Nat} (hn : n ≤ 150) (hS : ∀ F, S = some F → op < 6 ∧ rlawSp b n m_R_readSum dd (op + 1) F ∧ pGood n F D) (hN : S = none → op = 6) (hop : op ≤ 6) (hdd : 6 ≤ dd) : rlawSp b n m_R_readUnit (dd + 2) op (pU b n S) := by
  intro d0 hd0 Q X H x P I A o cs hA hc h7 hpos h
  obtain ⟨d, rfl⟩ : ∃ d, d0 = d + 8 := ⟨d0 - 8, by omega⟩
  have hm := @mo_R_readUnit (meth (d + 7)) (meth_smono (d + 7))
  have hn6 : n ≤ 600 := by omega
  refine me_R_readUnit (wb_R_readUnit_0 hm (sp_R_fine hn6 hc (wb_R_readUnit_4 hm ?_)))
  cases o with
  | inl e => exact ⟨fun c => absurd rfl c, fun _ => h I A rqI_r fr_r hc (fun q => by cases q)⟩
  | inr s =>
    obtain ⟨hs, hlen, hcode⟩ := hpos s rfl
    have hp := nx_P (b := b) hs
    refine ⟨fun _ => sp_R_here hn6 hA hc (fun I1 t1 k1 => wb_R_readUnit_12 hm ⟨fun c => ?_, fun c => ?_⟩), fun c => absurd i01_1 c⟩
    · have hnb : ¬ (tk b n s = 3 ∧ b s = 40) := fun q => c ((hv_sg (by decide) (by decide) (by decide)).mpr q)
      refine sp_R_here hn6 hA (rX_S k1) (fun I2 t2 k2 => wb_R_readUnit_49 hm (sp_R_isDigit (wb_R_readUnit_52 hm ⟨fun c2 => ?_, fun c2 => ?_⟩)))
      · have hn1 : ¬ tk b n s = 1 := fun q => by rw [hv_dg.mpr q] at c2; exact absurd c2 i01_1
        have ePU : pU b n S (.inr s) = pW b n S s (oword b n wlW s) := by
          rw [pU_r, if_neg hn1, if_neg hnb]
        rw [ePU] at h
        refine sp_R_word hn6 hA (rX_S k2) (fun I3 t3 k3 => wb_R_readUnit_75 hm (sp_R_of (i := 16) (by omega) (by decide +kernel) (wb_R_readUnit_81 hm ⟨fun c3 => ?_, fun c3 => ?_⟩)))
        · have nl : isW b n s (gtx 16) = false := by
            cases hq : isW b n s (gtx 16)
            · rfl
            · exact absurd ((word_eq hs (by decide +kernel)).mpr hq) c3
          refine sp_R_word hn6 hA (rX_S k3) (fun I4 t4 k4 => wb_R_readUnit_98 hm (sp_R_of (i := 17) (by omega) (by decide +kernel) (wb_R_readUnit_104 hm ⟨fun c4 => ?_, fun c4 => ?_⟩)))
          · have nm : isW b n s (gtx 17) = false := by
              cases hq : isW b n s (gtx 17)
              · rfl
              · exact absurd ((word_eq hs (by decide +kernel)).mpr hq) c4
            refine sp_R_factHere hn6 hA (rX_S k4) nl nm (fun I5 t5 k5 => wb_R_readUnit_121 hm ?_)
            have t15 : tR I I5 := tR_t t1 (tR_t t2 (tR_t t3 (tR_t t4 t5)))
            cases hw : oword b n wlW s with
            | none =>
              rw [hw] at h
              have h : ∀ I' A', rqI I I' → rqB A A' → rS b n (.inl (1, s)) I' → (false = true → rcodeAt (cs ++ []) I' A') → Q none (gset H x mck P I' A') := h
              refine ⟨fun c => absurd rfl c, fun _ => ?_⟩
              rw [k5.2.1]
              exact sp_R_wrong (k := 1) (q := s) (by omega) hs hn6 (rX_S k5) (fun I6 t6 k6 _ => wb_R_readUnit_136 hm (sp_R_fine hn6 k6 (wb_R_readUnit_140 hm ⟨fun c => absurd rfl c, fun _ => h I6 A (rqI_T (tR_t t15 t6)) fr_r k6 (fun q => by cases q)⟩)))
            | some w =>
              have hw12 : w < 12 := by have := (widx_lt hw).2; simpa [wlW] using this
              have hw10 : w < 10 := by
                have key : ∀ (ws : List (List Int32)) (j : Nat), widx (isW b n s) ws j = some w → isW b n s (ws.getD (w - j) []) = true := by
                  intro ws
                  induction ws with
                  | nil => intro j q; cases q
                  | cons v ws ih =>
                    intro j q
                    have hwl := widx_lt q
                    unfold widx at q
                    by_cases hv : isW b n s v = true
                    · rw [if_pos hv] at q
                      cases q
                      rw [Nat.sub_self]
                      exact hv
                    · rw [if_neg hv] at q
                      have hj := (widx_lt q).1
                      have := ih (j + 1) q
                      rw [show w - j = (w - (j + 1)) + 1 by omega]
                      exact this
                have hkk := key wlW 0 hw
                rcases (show w < 10 ∨ w = 10 ∨ w = 11 by omega) with q | rfl | rfl
                · exact q
                · rw [show wlW.getD (10 - 0) [] = gtx 16 from rfl, nl] at hkk; cases hkk
                · rw [show wlW.getD (11 - 0) [] = gtx 17 from rfl, nm] at hkk; cases hkk
              rw [hw] at h
              unfold pW at h
              dsimp only at h
              rw [if_pos hw10] at h
              have hsn : s < n := tk_lt (by rw [oword_tk hw]; decide)
              refine ⟨fun _ => wb_R_readUnit_136 hm (sp_R_fine hn6 (rX_S k5) (wb_R_readUnit_140 hm ⟨fun _ => sp_R_passW hn6 hA k5 (oword_tk hw) (fun I6 t6 k6 => wb_R_readUnit_148 hm ?_), fun c => absurd i01_1 c⟩)), fun c => absurd (nI_nm1 (by omega)) c⟩
              exact sp_R_emit2 (c := (1, w)) (cs := cs) hn6 k6 (fun _ => ⟨rfl, rfl⟩) (fun _ => ⟨rcodeAt_T (tR_t t15 t6) hcode, by omega⟩) (fun I7 A7 f7 g7 k7 c7 => x_weak (gLe_c (gLe_d gLe_n)) (wb_R_readUnit_154 hm (h I7 A7 (rqI_t (rqI_T (tR_t t15 t6)) f7) g7 k7 c7)))
          · have hq : isW b n s (gtx 17) = true := (word_eq hs (by decide +kernel)).mp (Classical.not_not.mp c4)
            have hw := oword_of hq (show widx (fun v => decide (v = gtx 17)) wlW 0 = some 11 by decide +kernel)
            rw [hw] at h
            have h : ∀ I' A', rqI I I' → rqB A A' → rS b n (pT b n S 11 s).2 I' → (osnd (pT b n S 11 s).2 = true → rcodeAt (cs ++ (pT b n S 11 s).1) I' A') → Q none (gset H x mck P I' A') := h
            have hte : s + 4 = te b n s := by
              unfold isW isWg at hq
              rw [decide_eq_true_eq] at hq
              exact hq.2.1.symm
            have t14 := tR_t t1 (tR_t t2 (tR_t t3 t4))
            refine sp_R_readTwo (w := 11) (k := 4) hn hS hN hop hdd (by omega) hA k4 (by rw [t14 7 (by decide) (by decide) (by decide)]; exact h7) hte (Or.inr rfl) hlen (tk_lt (by rw [oword_tk hw]; decide)) (rcodeAt_T t14 hcode) (fun I5 A5 f5 g5 k5 c5 => wb_R_readUnit_114 hm (wb_R_readUnit_154 hm (h I5 A5 (rqI_t (rqI_T t14) f5) g5 k5 c5)))
        · have hq : isW b n s (gtx 16) = true := (word_eq hs (by decide +kernel)).mp (Classical.not_not.mp c3)
          have hw := oword_of hq (show widx (fun v => decide (v = gtx 16)) wlW 0 = some 10 by decide +kernel)
          rw [hw] at h
          have h : ∀ I' A', rqI I I' → rqB A A' → rS b n (pT b n S 10 s).2 I' → (osnd (pT b n S 10 s).2 = true → rcodeAt (cs ++ (pT b n S 10 s).1) I' A') → Q none (gset H x mck P I' A') := h
          have hte : s + 5 = te b n s := by
            unfold isW isWg at hq
            rw [decide_eq_true_eq] at hq
            exact hq.2.1.symm
          have t13 := tR_t t1 (tR_t t2 t3)
          refine sp_R_readTwo (w := 10) (k := 5) hn hS hN hop hdd (by omega) hA k3 (by rw [t13 7 (by decide) (by decide) (by decide)]; exact h7) hte (Or.inl rfl) hlen (tk_lt (by rw [oword_tk hw]; decide)) (rcodeAt_T t13 hcode) (fun I5 A5 f5 g5 k5 c5 => wb_R_readUnit_91 hm (wb_R_readUnit_154 hm (h I5 A5 (rqI_t (rqI_T t13) f5) g5 k5 c5)))
      · have h1 : tk b n s = 1 := hv_dg.mp (b_i01 c2)
        have ePU : pU b n S (.inr s) = ([(0, (onum b n 0 1000 (.inr s)).1)], (onum b n 0 1000 (.inr s)).2) := by
          rw [pU_r, if_pos h1]
        rw [ePU] at h
        have hsn : s < n := tk_lt (by rw [h1]; decide)
        refine sp_R_readNumber (lo := 0) (hi := 1000) rfl rfl (by omega) (by omega) hn6 hA (rX_S k2) (fun I3 t3 k3 => wb_R_readUnit_65 hm ?_)
        have t13 := tR_t t1 (tR_t t2 t3)
        exact sp_R_emit2 (c := (0, (onum b n 0 1000 (.inr s)).1)) (cs := cs) hn6 k3 (fun _ => ⟨rfl, rfl⟩) (fun _ => ⟨rcodeAt_T t13 hcode, by omega⟩) (fun I4 A4 f4 g4 k4 c4 => wb_R_readUnit_68 hm (wb_R_readUnit_154 hm (h I4 A4 (rqI_t (rqI_T t13) f4) g4 k4 c4)))
    · have hb : tk b n s = 3 ∧ b s = 40 := (hv_sg (by decide) (by decide) (by decide)).mp (Classical.not_not.mp c)
      have ePU : pU b n S (.inr s) = pB b n S s := by
        rw [pU_r, if_neg (by rw [hb.1]; decide), if_pos hb]
      rw [ePU] at h
      have hte := (tk_3 hb.1).2
      have hlt := hp.2.2 (tk_3 hb.1).1
      refine sp_R_opensOne (k := 1) hn6 k1 (by rw [t1 7 (by decide) (by decide) (by decide)]; exact h7) hop hte.symm (fun I2 f2 j7 j26 k2 => wb_R_readUnit_22 hm ?_)
      have c2 : rcodeAt cs I2 A := ⟨by rw [j26]; exact (rcodeAt_T t1 hcode).1, hcode.2⟩
      cases S with
      | none =>
        have h6 := hN rfl
        rw [if_pos h6] at k2
        refine sp_R_sumF hn6 k2 (wb_R_readUnit_26 hm (sp_R_sign (by decide) (by decide) (by decide) hn6 hA k2 (fun I3 t3 k3 => wb_R_readUnit_32 hm (wb_R_readUnit_154 hm ?_))))
        have g3 : I3 0 7 = nI (op + 1) := by rw [t3 7 (by decide) (by decide) (by decide)]; exact j7
        rw [g3, nI_pred op]
        exact h _ A (rqI_7 (rq7_t (rq7_T t1) (rq7_t f2 (rq7_T t3))) h7.symm) fr_r (rS_I (by decide) k3) (fun q => by cases q)
      | some F =>
        obtain ⟨ho6, hF, hG⟩ := hS F rfl
        rw [if_neg (by omega)] at k2
        unfold pB at h
        dsimp only at h
        refine hF (d + 7) (by omega) _ _ _ _ _ _ _ (.inr (nx b n s)) cs hA k2 j7 (fun s1 e => by cases e; exact ⟨hp.1.1, by omega, c2⟩) (fun I3 A3 f3 g3 k3 c3 => wb_R_readUnit_26 hm (sp_R_sign (by decide) (by decide) (by decide) hn6 (by rw [g3 2 (by decide)]; exact hA) k3 (fun I4 t4 k4 => wb_R_readUnit_32 hm (wb_R_readUnit_154 hm ?_))))
        have g4 : I4 0 7 = nI (op + 1) := by rw [t4 7 (by decide) (by decide) (by decide), f3 7 (by decide) (by decide) (by decide) (by decide)]; exact j7
        rw [g4, nI_pred op]
        exact h _ A3 (rqI_7 (rq7_t (rq7_T t1) (rq7_t f2 (rq7_t (rq7_I f3) (rq7_T t4)))) h7.symm) g3 (rS_I (by decide) k4) (fun ho => rcodeAt_7 (rcodeAt_T t4 (c3 (osign_snd ho))))
theorem hv_end {s : Nat} (h : n ≤ s) : hv b n s = 0 := by unfold hv; rw [if_pos h]
theorem isTi_r {s : Nat} : isTi b n s = if hv b n s = 42 then some 4 else if hv b n s = 47 then some 5 else if hv b n s = 37 then some 8 else none := by
  have e42 : hv b n s = 42 ↔ tk b n s = 3 ∧ b s = 42 := hv_sg (by decide) (by decide) (by decide)
  have e47 : hv b n s = 47 ↔ tk b n s = 3 ∧ b s = 47 := hv_sg (by decide) (by decide) (by decide)
  have e37 : hv b n s = 37 ↔ tk b n s = 3 ∧ b s = 37 := hv_sg (by decide) (by decide) (by decide)
  unfold isTi
  by_cases h3 : tk b n s = 3
  · rw [if_pos h3]
    simp only [e42, e47, e37, h3, true_and]
  · rw [if_neg h3, if_neg (fun q => h3 (e42.mp q).1), if_neg (fun q => h3 (e47.mp q).1), if_neg (fun q => h3 (e37.mp q).1)]
theorem isPl_r {s : Nat} : isPl b n s = if hv b n s = 43 then some 2 else if hv b n s = 45 then some 3 else none := by
  have e43 : hv b n s = 43 ↔ tk b n s = 3 ∧ b s = 43 := hv_sg (by decide) (by decide) (by decide)
  have e45 : hv b n s = 45 ↔ tk b n s = 3 ∧ b s = 45 := hv_sg (by decide) (by decide) (by decide)
  unfold isPl
  by_cases h3 : tk b n s = 3
  · rw [if_pos h3]
    simp only [e43, e45, h3, true_and]
  · rw [if_neg h3, if_neg (fun q => h3 (e43.mp q).1), if_neg (fun q => h3 (e45.mp q).1)]
/-- one byte on, behind a sign -/
theorem rX_1 {s : Nat} {I : Nat → Nat → Int32} (hc : rX b n s I) (h3 : tk b n s = 3) : rS b n (.inr (nx b n s)) (upI I 0 4 (I 0 4 + 1)) := by
  obtain ⟨x3, x4, x5, xp⟩ := hc
  obtain ⟨hlt, hte⟩ := tk_3 h3
  rw [x4, nI_1]
  exact ⟨by rw [upI_f (by decide)]; exact x3, s + 1, by omega, upI_s, by rw [upI_f (by decide)]; exact x5, by unfold nx; rw [hte]⟩
set_option maxHeartbeats 2000000 in
theorem rl_prod {S : Option (PO → CO × PO)} {dd op D : Nat} (hn : n ≤ 150) (hU : rlawSp b n m_R_readUnit dd op (pU b n S)) (hG : pGood n (pU b n S) D) (hdd : 6 ≤ dd) : rlawSp b n m_R_readProduct (dd + 1) op (pP b n S) := by
  intro d0 hd0 Q X H x P I A o cs hA hc h7 hpos h
  obtain ⟨d, rfl⟩ : ∃ d, d0 = d + 7 := ⟨d0 - 7, by omega⟩
  have hm := @mo_R_readProduct (meth (d + 6)) (meth_smono (d + 6))
  have hn6 : n ≤ 600 := by omega
  have loop : ∀ (f i : Nat) (r : CO × PO) (I1 A1 : Nat → Nat → Int32), i + f = 150 → (∀ s, r.2 = .inr s → i ≤ s) → A1 2 = b → rS b n r.2 I1 → (∀ s, r.2 = .inr s → s ≤ n ∧ (cs ++ r.1).length ≤ s ∧ rcodeAt (cs ++ r.1) I1 A1) → rqI I I1 → rqB A A1 → ploop b n (pU b n S) (isTi b n) f r = pP b n S o → gWp (gTab (tb_R_readProduct (meth (d + 6)))) Q X 4 [some (.ref (x + 0)), none] [] (gset H x mck P I1 A1) := by
    intro f
    induction f with
    | zero =>
      intro i r I1 A1 hi is a1 c1 p1 f1 f2 e
      rw [← e] at h
      refine wb_R_readProduct_4 hm (sp_R_fine hn6 c1 (wb_R_readProduct_8 hm ?_))
      rcases r with ⟨ds, ro⟩
      cases ro with
      | inl er => exact ⟨fun _ => wb_R_readProduct_90 hm (h I1 A1 f1 f2 c1 (fun q => by cases q)), fun c => absurd rfl c⟩
      | inr s =>
        obtain ⟨ps, pl, pc⟩ := p1 s rfl
        have pl : (cs ++ ds).length ≤ s := pl
        have hi2 := is s rfl
        have z := hv_end (b := b) (n := n) (s := s) (by omega)
        refine ⟨fun q => absurd q i01_1, fun _ => sp_R_here hn6 a1 c1 (fun I2 t2 k2 => wb_R_readProduct_15 hm ⟨fun c => absurd (z.symm.trans c) (by decide), fun _ => sp_R_here hn6 a1 (rX_S k2) (fun I3 t3 k3 => wb_R_readProduct_24 hm ⟨fun c => absurd (z.symm.trans c) (by decide), fun _ => sp_R_here hn6 a1 (rX_S k3) (fun I4 t4 k4 => wb_R_readProduct_33 hm ⟨fun _ => wb_R_readProduct_90 hm ?_, fun c => absurd (z.symm.trans (Classical.not_not.mp c)) (by decide)⟩)⟩)⟩)⟩
        have t24 := tR_t t2 (tR_t t3 t4)
        exact h I4 A1 (rqI_t f1 (rqI_T t24)) f2 (rX_S k4) (fun _ => rcodeAt_T t24 pc)
    | succ f ih =>
      intro i r I1 A1 hi is a1 c1 p1 f1 f2 e
      refine wb_R_readProduct_4 hm (sp_R_fine hn6 c1 (wb_R_readProduct_8 hm ?_))
      rcases r with ⟨ds, ro⟩
      cases ro with
      | inl er =>
        rw [ploop_inl] at e
        rw [← e] at h
        exact ⟨fun _ => wb_R_readProduct_90 hm (h I1 A1 f1 f2 c1 (fun q => by cases q)), fun c => absurd rfl c⟩
      | inr s =>
        obtain ⟨ps, pl, pc⟩ := p1 s rfl
        have pl : (cs ++ ds).length ≤ s := pl
        have hi2 := is s rfl
        -- the operator is read
        have go66 : ∀ a I2, isTi b n s = some a → tR I1 I2 → rX b n s I2 → gWp (gTab (tb_R_readProduct (meth (d + 6)))) Q X 66 [some (.ref (x + 0)), none] [.int (nI a)] (gset H x mck P I2 A1) := by
          intro a I2 ha t2 k2
          obtain ⟨t3, bs⟩ := op_42 ha
          obtain ⟨sn, a2, a8⟩ := isTi_ok ha
          have hp := nx_P (b := b) ps
          have hlt := hp.2.2 sn
          unfold ploop at e
          dsimp only at e
          rw [ha] at e
          dsimp only at e
          have t22 : tR I1 (upI I2 0 4 (I2 0 4 + 1)) := tR_I t2 (by simp)
          refine wb_R_readProduct_66 hm (hU (d + 6) (by omega) _ _ _ _ _ _ _ (.inr (nx b n s)) (cs ++ ds) a1 (rX_1 k2 t3) (by rw [t22 7 (by decide) (by decide) (by decide), f1 7 (by decide) (by decide) (by decide) (by decide)]; exact h7) (fun s1 e1 => by cases e1; exact ⟨hp.1.1, by omega, rcodeAt_T t22 pc⟩) (fun I3 A3 g1 g2 k3 c3 => wb_R_readProduct_81 hm ?_))
          have hg := hG.2 (nx b n s)
          generalize hr : pU b n S (.inr (nx b n s)) = r1 at k3 c3 e hg
          refine sp_R_emit2 (c := (a, 0)) (cs := cs ++ ds ++ r1.1) hn6 k3 (fun _ => ⟨rfl, rfl⟩) (fun ho => ⟨c3 ho, ?_⟩) (fun I4 A4 g3 g4 k4 c4 => wb_R_readProduct_87 hm (ih (i + 1) (ds ++ (r1.1 ++ [(a, 0)]), r1.2) I4 A4 (by omega) (fun s' e' => ?_) (by rw [g4 2 (by decide), g2 2 (by decide)]; exact a1) k4 (fun s' e' => ?_) (rqI_t f1 (rqI_t (rqI_T t22) (rqI_t g1 g3))) (fr_t f2 (fr_t g2 g4)) e))
          · cases hr1 : r1.2 with
            | inl e' => rw [hr1] at ho; cases ho
            | inr s' =>
              have := hg s' hp.1.1 hr1
              rw [List.length_append]
              omega
          · have e' : r1.2 = .inr s' := e'
            have hh := hg s' hp.1.1 e'
            omega
          · have e' : r1.2 = .inr s' := e'
            have hh := hg s' hp.1.1 e'
            have c4' := c4 (by rw [e']; rfl)
            rw [List.append_assoc, List.append_assoc] at c4'
            refine ⟨hh.2.1, ?_, c4'⟩
            show (cs ++ (ds ++ (r1.1 ++ [(a, 0)]))).length ≤ s'
            rw [List.length_append] at pl
            rw [List.length_append, List.length_append, List.length_append]
            show _ + (_ + (_ + 1)) ≤ _
            omega
        have go38 : ∀ I2, (isTi b n s).isSome = true → tR I1 I2 → rX b n s I2 → gWp (gTab (tb_R_readProduct (meth (d + 6)))) Q X 38 [some (.ref (x + 0)), none] [] (gset H x mck P I2 A1) := by
          intro I2 hsome t2 k2
          rw [isTi_r] at hsome
          refine wb_R_readProduct_38 hm (sp_R_here hn6 a1 (rX_S k2) (fun I3 t3 k3 => wb_R_readProduct_42 hm ⟨fun c => sp_R_here hn6 a1 (rX_S k3) (fun I4 t4 k4 => wb_R_readProduct_55 hm ⟨fun c2 => go66 8 I4 ?_ (tR_t t2 (tR_t t3 t4)) k4, fun c2 => go66 5 I4 ?_ (tR_t t2 (tR_t t3 t4)) k4⟩), fun c => go66 4 I3 ?_ (tR_t t2 t3) k3⟩))
          · rw [if_neg c, if_neg c2] at hsome
            rw [isTi_r, if_neg c, if_neg c2]
            by_cases q : hv b n s = 37
            · rw [if_pos q]
            · rw [if_neg q] at hsome; cases hsome
          · rw [isTi_r, if_neg c, if_pos (Classical.not_not.mp c2)]
          · rw [isTi_r, if_pos (Classical.not_not.mp c)]
        refine ⟨fun q => absurd q i01_1, fun _ => sp_R_here hn6 a1 c1 (fun I2 t2 k2 => wb_R_readProduct_15 hm ⟨fun c => go38 I2 (by rw [isTi_r, if_pos c]; rfl) t2 k2, fun n1 => sp_R_here hn6 a1 (rX_S k2) (fun I3 t3 k3 => wb_R_readProduct_24 hm ⟨fun c => go38 I3 (by rw [isTi_r, if_neg n1, if_pos c]; rfl) (tR_t t2 t3) k3, fun n2 => sp_R_here hn6 a1 (rX_S k3) (fun I4 t4 k4 => wb_R_readProduct_33 hm ⟨fun n3 => wb_R_readProduct_90 hm ?_, fun c => go38 I4 (by rw [isTi_r, if_neg n1, if_neg n2, if_pos (Classical.not_not.mp c)]; rfl) (tR_t t2 (tR_t t3 t4)) k4⟩)⟩)⟩)⟩
        have t24 := tR_t t2 (tR_t t3 t4)
        have hno : isTi b n s = none := by rw [isTi_r, if_neg n1, if_neg n2, if_neg n3]
        unfold ploop at e
        dsimp only at e
        rw [hno] at e
        dsimp only at e
        rw [← e] at h
        exact h I4 A1 (rqI_t f1 (rqI_T t24)) f2 (rX_S k4) (fun _ => rcodeAt_T t24 pc)
  refine me_R_readProduct (wb_R_readProduct_0 hm (hU (d + 6) (by omega) _ _ _ _ _ _ _ o cs hA hc h7 hpos (fun I1 A1 f1 f2 k1 c1 => loop 150 0 (pU b n S o) I1 A1 rfl (fun s e => Nat.zero_le _) (by rw [f2 2 (by decide)]; exact hA) k1 (fun s e => ?_) f1 f2 rfl)))
  refine ⟨?_, ?_, c1 (by rw [e]; rfl)⟩
  · cases o with
    | inl e' => rw [hG.1] at e; cases e
    | inr s0 => exact (hG.2 s0 s (hpos s0 rfl).1 e).2.1
  · cases o with
    | inl e' => rw [hG.1] at e; cases e
    | inr s0 =>
      have := hG.2 s0 s (hpos s0 rfl).1 e
      have := (hpos s0 rfl).2.1
      rw [List.length_append]
      omega
set_option maxHeartbeats 2000000 in
theorem rl_sum {S : Option (PO → CO × PO)} {dd op D : Nat} (hn : n ≤ 150) (hU : rlawSp b n m_R_readProduct dd op (pP b n S)) (hG : pGood n (pP b n S) D) (hdd : 6 ≤ dd) : rlawSp b n m_R_readSum (dd + 1) op (pS b n S) := by
  intro d0 hd0 Q X H x P I A o cs hA hc h7 hpos h
  obtain ⟨d, rfl⟩ : ∃ d, d0 = d + 7 := ⟨d0 - 7, by omega⟩
  have hm := @mo_R_readSum (meth (d + 6)) (meth_smono (d + 6))
  have hn6 : n ≤ 600 := by omega
  have loop : ∀ (f i : Nat) (r : CO × PO) (I1 A1 : Nat → Nat → Int32), i + f = 150 → (∀ s, r.2 = .inr s → i ≤ s) → A1 2 = b → rS b n r.2 I1 → (∀ s, r.2 = .inr s → s ≤ n ∧ (cs ++ r.1).length ≤ s ∧ rcodeAt (cs ++ r.1) I1 A1) → rqI I I1 → rqB A A1 → ploop b n (pP b n S) (isPl b n) f r = pS b n S o → gWp (gTab (tb_R_readSum (meth (d + 6)))) Q X 4 [some (.ref (x + 0)), none] [] (gset H x mck P I1 A1) := by
    intro f
    induction f with
    | zero =>
      intro i r I1 A1 hi is a1 c1 p1 f1 f2 e
      rw [← e] at h
      refine wb_R_readSum_4 hm (sp_R_fine hn6 c1 (wb_R_readSum_8 hm ?_))
      rcases r with ⟨ds, ro⟩
      cases ro with
      | inl er => exact ⟨fun _ => wb_R_readSum_67 hm (h I1 A1 f1 f2 c1 (fun q => by cases q)), fun c => absurd rfl c⟩
      | inr s =>
        obtain ⟨ps, pl, pc⟩ := p1 s rfl
        have pl : (cs ++ ds).length ≤ s := pl
        have hi2 := is s rfl
        have z := hv_end (b := b) (n := n) (s := s) (by omega)
        refine ⟨fun q => absurd q i01_1, fun _ => sp_R_here hn6 a1 c1 (fun I2 t2 k2 => wb_R_readSum_15 hm ⟨fun c => absurd (z.symm.trans c) (by decide), fun _ => sp_R_here hn6 a1 (rX_S k2) (fun I3 t3 k3 => wb_R_readSum_24 hm ⟨fun _ => wb_R_readSum_67 hm ?_, fun c => absurd (z.symm.trans (Classical.not_not.mp c)) (by decide)⟩)⟩)⟩
        have t24 := tR_t t2 t3
        exact h I3 A1 (rqI_t f1 (rqI_T t24)) f2 (rX_S k3) (fun _ => rcodeAt_T t24 pc)
    | succ f ih =>
      intro i r I1 A1 hi is a1 c1 p1 f1 f2 e
      refine wb_R_readSum_4 hm (sp_R_fine hn6 c1 (wb_R_readSum_8 hm ?_))
      rcases r with ⟨ds, ro⟩
      cases ro with
      | inl er =>
        rw [ploop_inl] at e
        rw [← e] at h
        exact ⟨fun _ => wb_R_readSum_67 hm (h I1 A1 f1 f2 c1 (fun q => by cases q)), fun c => absurd rfl c⟩
      | inr s =>
        obtain ⟨ps, pl, pc⟩ := p1 s rfl
        have pl : (cs ++ ds).length ≤ s := pl
        have hi2 := is s rfl
        have go43 : ∀ a I2, isPl b n s = some a → tR I1 I2 → rX b n s I2 → gWp (gTab (tb_R_readSum (meth (d + 6)))) Q X 43 [some (.ref (x + 0)), none] [.int (nI a)] (gset H x mck P I2 A1) := by
          intro a I2 ha t2 k2
          obtain ⟨t3, bs⟩ := op_43 ha
          obtain ⟨sn, a2, a8⟩ := isPl_ok ha
          have hp := nx_P (b := b) ps
          have hlt := hp.2.2 sn
          unfold ploop at e
          dsimp only at e
          rw [ha] at e
          dsimp only at e
          have t22 : tR I1 (upI I2 0 4 (I2 0 4 + 1)) := tR_I t2 (by simp)
          refine wb_R_readSum_43 hm (hU (d + 6) (by omega) _ _ _ _ _ _ _ (.inr (nx b n s)) (cs ++ ds) a1 (rX_1 k2 t3) (by rw [t22 7 (by decide) (by decide) (by decide), f1 7 (by decide) (by decide) (by decide) (by decide)]; exact h7) (fun s1 e1 => by cases e1; exact ⟨hp.1.1, by omega, rcodeAt_T t22 pc⟩) (fun I3 A3 g1 g2 k3 c3 => wb_R_readSum_58 hm ?_))
          have hg := hG.2 (nx b n s)
          generalize hr : pP b n S (.inr (nx b n s)) = r1 at k3 c3 e hg
          refine sp_R_emit2 (c := (a, 0)) (cs := cs ++ ds ++ r1.1) hn6 k3 (fun _ => ⟨rfl, rfl⟩) (fun ho => ⟨c3 ho, ?_⟩) (fun I4 A4 g3 g4 k4 c4 => wb_R_readSum_64 hm (ih (i + 1) (ds ++ (r1.1 ++ [(a, 0)]), r1.2) I4 A4 (by omega) (fun s' e' => ?_) (by rw [g4 2 (by decide), g2 2 (by decide)]; exact a1) k4 (fun s' e' => ?_) (rqI_t f1 (rqI_t (rqI_T t22) (rqI_t g1 g3))) (fr_t f2 (fr_t g2 g4)) e))
          · cases hr1 : r1.2 with
            | inl e' => rw [hr1] at ho; cases ho
            | inr s' =>
              have := hg s' hp.1.1 hr1
              rw [List.length_append]
              omega
          · have e' : r1.2 = .inr s' := e'
            have hh := hg s' hp.1.1 e'
            omega
          · have e' : r1.2 = .inr s' := e'
            have hh := hg s' hp.1.1 e'
            have c4' := c4 (by rw [e']; rfl)
            rw [List.append_assoc, List.append_assoc] at c4'
            refine ⟨hh.2.1, ?_, c4'⟩
            show (cs ++ (ds ++ (r1.1 ++ [(a, 0)]))).length ≤ s'
            rw [List.length_append] at pl
            rw [List.length_append, List.length_append, List.length_append]
            show _ + (_ + (_ + 1)) ≤ _
            omega
        have go29 : ∀ I2, (isPl b n s).isSome = true → tR I1 I2 → rX b n s I2 → gWp (gTab (tb_R_readSum (meth (d + 6)))) Q X 29 [some (.ref (x + 0)), none] [] (gset H x mck P I2 A1) := by
          intro I2 hsome t2 k2
          rw [isPl_r] at hsome
          refine wb_R_readSum_29 hm (sp_R_here hn6 a1 (rX_S k2) (fun I3 t3 k3 => wb_R_readSum_33 hm ⟨fun c => go43 3 I3 ?_ (tR_t t2 t3) k3, fun c => go43 2 I3 ?_ (tR_t t2 t3) k3⟩))
          · rw [if_neg c] at hsome
            rw [isPl_r, if_neg c]
            by_cases q : hv b n s = 45
            · rw [if_pos q]
            · rw [if_neg q] at hsome; cases hsome
          · rw [isPl_r, if_pos (Classical.not_not.mp c)]
        refine ⟨fun q => absurd q i01_1, fun _ => sp_R_here hn6 a1 c1 (fun I2 t2 k2 => wb_R_readSum_15 hm ⟨fun c => go29 I2 (by rw [isPl_r, if_pos c]; rfl) t2 k2, fun n1 => sp_R_here hn6 a1 (rX_S k2) (fun I3 t3 k3 => wb_R_readSum_24 hm ⟨fun n2 => wb_R_readSum_67 hm ?_, fun c => go29 I3 (by rw [isPl_r, if_neg n1, if_pos (Classical.not_not.mp c)]; rfl) (tR_t t2 t3) k3⟩)⟩)⟩
        have t24 := tR_t t2 t3
        have hno : isPl b n s = none := by rw [isPl_r, if_neg n1, if_neg n2]
        unfold ploop at e
        dsimp only at e
        rw [hno] at e
        dsimp only at e
        rw [← e] at h
        exact h I3 A1 (rqI_t f1 (rqI_T t24)) f2 (rX_S k3) (fun _ => rcodeAt_T t24 pc)
  refine me_R_readSum (wb_R_readSum_0 hm (hU (d + 6) (by omega) _ _ _ _ _ _ _ o cs hA hc h7 hpos (fun I1 A1 f1 f2 k1 c1 => loop 150 0 (pP b n S o) I1 A1 rfl (fun s e => Nat.zero_le _) (by rw [f2 2 (by decide)]; exact hA) k1 (fun s e => ?_) f1 f2 rfl)))
  refine ⟨?_, ?_, c1 (by rw [e]; rfl)⟩
  · cases o with
    | inl e' => rw [hG.1] at e; cases e
    | inr s0 => exact (hG.2 s0 s (hpos s0 rfl).1 e).2.1
  · cases o with
    | inl e' => rw [hG.1] at e; cases e
    | inr s0 =>
      have := hG.2 s0 s (hpos s0 rfl).1 e
      have := (hpos s0 rfl).2.1
      rw [List.length_append]
      omega
theorem rl_all (hn : n ≤ 150) : ∀ g, g ≤ 6 → rlawSp b n m_R_readSum (10 + 4 * g) (6 - g) (pS b n (pSub b n g)) := by
  have step : ∀ g, g ≤ 6 → (∀ F, pSub b n g = some F → 6 - g < 6 ∧ rlawSp b n m_R_readSum (6 + 4 * g) (6 - g + 1) F ∧ pGood n F (3 * g)) → rlawSp b n m_R_readSum (10 + 4 * g) (6 - g) (pS b n (pSub b n g)) := by
    intro g hg hS
    have h1 := rl_unit (b := b) (n := n) (S := pSub b n g) (dd := 6 + 4 * g) (op := 6 - g) (D := 3 * g) hn hS (fun e => by cases g with
      | zero => rfl
      | succ g => cases e) (by omega) (by omega)
    have g1 := pU_good (b := b) (n := n) (S := pSub b n g) (D := 3 * g) (fun F hF => (hS F hF).2.2)
    have h2 := rl_prod hn h1 g1 (by omega)
    have h3 := rl_sum hn h2 (pP_good g1) (by omega)
    rw [show 10 + 4 * g = 6 + 4 * g + 2 + 1 + 1 by omega]
    exact h3
  intro g
  induction g with
  | zero => intro hg; exact step 0 hg (fun F e => by cases e)
  | succ g ih =>
    intro hg
    refine step (g + 1) hg (fun F e => ⟨by omega, ?_, pSub_good (g + 1) F e⟩)
    cases e
    have := ih (by omega)
    rw [show 6 + 4 * (g + 1) = 10 + 4 * g by omega, show 6 - (g + 1) + 1 = 6 - g by omega]
    exact this
end L2LS
