/-! ===== the body of the law's loop ===== -/
abbrev hsA : List (String × Int32) := [("java/lang/IllegalArgumentException", 1)]
abbrev hsT : List (String × Int32) := [("java/util/NoSuchElementException", 1)]
abbrev hsB : List (String × Int32) := [("java/util/NoSuchElementException", 1), ("java/lang/IllegalArgumentException", 2)]
section RIS
variable {c : Bool} {s : ST} {v : Int32} {hs : List (String × Int32)} {kc : String → Nat} {r : (Value ⊕ String) × ST}
theorem rI_i {a : Int32} {s' : ST} : rI hs kc ((.inl (.int a) : Value ⊕ String), s').1 := ⟨a, rfl⟩
theorem rI_q (h : ∃ n, (IAE, n) ∈ hs ∧ n = nI (kc IAE) ∧ ¬ n = 0) : rI hs kc (q1 c s v).1 := by
  cases c
  · rw [q1_f rfl]; exact h
  · rw [q1_t rfl]; exact ⟨v, rfl⟩
theorem rI_N (h : ∃ n, (IAE, n) ∈ hs ∧ n = nI (kc IAE) ∧ ¬ n = 0) (hr : rI hs kc r.1) : rI hs kc (qN c s r).1 := by
  cases c
  · rw [qN_f rfl]; exact h
  · rw [qN_t rfl]; exact hr
theorem rI_T (h : ∃ n, (NSE, n) ∈ hs ∧ n = nI (kc NSE) ∧ ¬ n = 0) (hr : rI hs kc r.1) : rI hs kc (qT c s r).1 := by
  cases c
  · rw [qT_f rfl]; exact h
  · rw [qT_t rfl]; exact hr
theorem rJ_N (h : ∃ n, (IAE, n) ∈ hs ∧ n = nI (kc IAE) ∧ ¬ n = 0) (hr : rJ hs kc r.1) : rJ hs kc (qN c s r).1 := by
  cases c
  · rw [qN_f rfl]; exact h
  · rw [qN_t rfl]; exact hr
theorem rJ_T (h : ∃ n, (NSE, n) ∈ hs ∧ n = nI (kc NSE) ∧ ¬ n = 0) (hr : rJ hs kc r.1) : rJ hs kc (qT c s r).1 := by
  cases c
  · rw [qT_f rfl]; exact h
  · rw [qT_t rfl]; exact hr
theorem rI_txt {o : PO} (hr : rI hs kc r.1) : rI hs kc (fTxt o s r).1 := by
  cases o with
  | inl e => exact ⟨_, rfl⟩
  | inr e => exact hr
end RIS
theorem eA : ∃ n, (IAE, n) ∈ hsA ∧ n = nI (kA IAE) ∧ ¬ n = 0 := ⟨1, List.mem_cons_self, rfl, by decide⟩
theorem eT : ∃ n, (NSE, n) ∈ hsT ∧ n = nI (kA NSE) ∧ ¬ n = 0 := ⟨1, List.mem_cons_self, rfl, by decide⟩
theorem eB1 : ∃ n, (NSE, n) ∈ hsB ∧ n = nI (kB NSE) ∧ ¬ n = 0 := ⟨1, List.mem_cons_self, by decide +kernel, by decide⟩
theorem eB2 : ∃ n, (IAE, n) ∈ hsB ∧ n = nI (kB IAE) ∧ ¬ n = 0 := ⟨2, List.mem_cons_of_mem _ List.mem_cons_self, by decide +kernel, by decide⟩
theorem rI_work {k : Nat} {s : ST} {hs : List (String × Int32)} {kc : String → Nat} : rI hs kc (f_work k s).1 := by
  unfold f_work
  split
  · exact ⟨_, rfl⟩
  · exact rI_txt ⟨_, rfl⟩
theorem lp_lt {i Ls : Nat} (hi : i ≤ 6000) (hL : Ls ≤ 5632) (h : ¬ (Int32.ofNat Ls - 11 < nI i)) : i + 11 ≤ Ls := by
  have h2 : nI i ≤ nI Ls - nI 11 := Int32.not_lt.mp h
  rw [Int32.le_iff_toInt_le] at h2
  rw [_root_.Jvm.Kit.i32_sub (by rw [nI_toInt (by omega), nI_toInt (by omega)]; omega) (by rw [nI_toInt (by omega), nI_toInt (by omega)]; omega), nI_toInt (by omega), nI_toInt (by omega), nI_toInt (by omega)] at h2
  omega
section LBY
variable {Ls : Nat} {xs : Nat → Int32} {E : gL → List Value → gH → Prop} {d i : Nat} {Q : gQ} {X : gX} {f : Nat → Int64} {P : Nat → Nat} {I A : Nat → Nat → Int32} {P' : Nat → Nat} {I' A' : Nat → Nat → Int32} {s : ST}
set_option maxRecDepth 40000 in
theorem lb_cases (hm : ∀ k, gMono (gTab (lT Ls xs E d) k)) (hi : i + 11 ≤ Ls) (hL : Ls ≤ 5632) (hs : sOk s) (hc : cRep s P I A) (hr : rRep s I' A') (hk : lK Ls xs E d Q X i P') (n : Nat) (hn : n < 39) : gWp (gTab (lT Ls xs E d)) Q X (([212, 285, 341, 397, 453, 509, 522, 535, 591, 659, 727, 783, 957, 1044, 1112, 1180, 1236, 1304, 1360, 1416, 1472, 1552, 1631, 1699, 1779, 1835, 1848, 1904, 1917, 1973, 2041, 2097, 2110, 2166, 2258, 2362, 2375, 2388, 2413] : List Nat).getD n 2438) (lL3 i none none none) [] (lW f P I A P' I' A') := by
  match n, hn with
  | 0, _ => exact lc_feed hm hi hL hc hr (C_feed hs) (R_feed hs) (sOk_feed hs) (by unfold f_feed; split <;> exact ⟨_, rfl⟩) hk
  | 1, _ => exact lc_state hm hi hL hc hr (C_state hs) (R_state hs) (sOk_state hs) (rI_N eA (rI_txt ⟨_, rfl⟩)) hk
  | 2, _ => exact lc_law hm hi hL hc hr (C_law hs) (R_law hs) (sOk_law hs) (rI_N eA (rI_txt ⟨_, rfl⟩)) hk
  | 3, _ => exact lc_work hm hi hL hc hr (C_work hs) (R_work hs) (sOk_work hs) (rI_N eA rI_work) hk
  | 4, _ => exact lc_book hm hi hL hc hr (C_book hs) (R_book hs) (sOk_book hs) (rI_N eA (rI_txt ⟨_, rfl⟩)) hk
  | 5, _ => exact lc_fault hm hi hL hc hr (C_fault) (R_fault) (hs) (rI_i) hk
  | 6, _ => exact lc_undo hm hi hL hc hr (C_undo hs) (R_undo hs) (sOk_undo hs) (by unfold f_undo; split <;> exact ⟨_, rfl⟩) hk
  | 7, _ => exact lc_told hm hi hL hc hr (C_told hs) (R_told hs) (sOk_q1 hs) (rI_q eA) hk
  | 8, _ => exact lc_town hm hi hL hc hr (C_town hs) (R_town hs) (sOk_qT hs (sOk_q1 hs)) (rI_T eB1 (rI_q eB2)) hk
  | 9, _ => exact lc_road hm hi hL hc hr (C_road hs) (R_road hs) (sOk_qT hs (sOk_q1 hs)) (rI_T eB1 (rI_q eB2)) hk
  | 10, _ => exact lc_seats hm hi hL hc hr (C_seats hs) (R_seats hs) (sOk_q1 hs) (rI_q eA) hk
  | 11, _ => exact lc_would hm hi hL hc hr (C_would hs) (R_would hs) (sOk_q1 hs) (rI_q eA) hk
  | 12, _ => exact lc_can hm hi hL hc hr (C_can hs) (R_can hs) (sOk_qT hs hs) (rI_T eT rI_i) hk
  | 13, _ => exact lc_ahead hm hi hL hc hr (C_ahead hs) (R_ahead hs) (sOk_q1 hs) (rI_q eA) hk
  | 14, _ => exact lc_turn hm hi hL hc hr (C_turn hs) (R_turn hs) (sOk_q1 hs) (rI_q eA) hk
  | 15, _ => exact lc_swing hm hi hL hc hr (C_swing hs) (R_swing hs) (sOk_qT hs hs) (rI_T eT rI_i) hk
  | 16, _ => exact lc_given hm hi hL hc hr (C_given hs) (R_given hs) (sOk_qT hs (sOk_q1 hs)) (rI_T eB1 (rI_q eB2)) hk
  | 17, _ => exact lc_league hm hi hL hc hr (C_league hs) (R_league hs) (sOk_q1 hs) (rI_q eA) hk
  | 18, _ => exact lc_drift hm hi hL hc hr (C_drift hs) (R_drift hs) (sOk_q1 hs) (rI_q eA) hk
  | 19, _ => exact lc_look hm hi hL hc hr (C_look hs) (R_look hs) (sOk_q1 hs) (rI_q eA) hk
  | 20, _ => exact lc_commas hm hi hL hc hr (C_commas) (R_commas) (sOk_q1 hs) (rI_q eA) hk
  | 21, _ => exact lc_odds hm hi hL hc hr (C_odds hs) (R_odds hs) (sOk_qT hs (sOk_qN hs (fun _ => hs))) (rJ_T eB1 (rJ_N eB2 ⟨_, rfl⟩)) hk
  | 22, _ => exact lc_speak hm hi hL hc hr (C_speak hs) (R_speak hs) (sOk_q1 hs) (rI_q eA) hk
  | 23, _ => exact lc_bread hm hi hL hc hr (C_bread hs) (R_bread hs) (sOk_qT hs (sOk_q1 hs)) (rI_T eB1 (rI_q eB2)) hk
  | 24, _ => exact lc_closest hm hi hL hc hr (C_closest hs) (R_closest hs) (sOk_q1 hs) (rI_q eA) hk
  | 25, _ => exact lc_parts hm hi hL hc hr (C_parts hs) (R_parts hs) (hs) (rI_i) hk
  | 26, _ => exact lc_safest hm hi hL hc hr (C_safest hs) (R_safest hs) (sOk_q1 hs) (rI_q eA) hk
  | 27, _ => exact lc_bridges hm hi hL hc hr (C_bridges hs) (R_bridges hs) (hs) (rI_i) hk
  | 28, _ => exact lc_till hm hi hL hc hr (C_till hs) (R_till hs) (sOk_q1 hs) (rI_q eA) hk
  | 29, _ => exact lc_most hm hi hL hc hr (C_most hs) (R_most hs) (sOk_qT hs hs) (rI_T eT rI_i) hk
  | 30, _ => exact lc_sides hm hi hL hc hr (C_sides hs) (R_sides hs) (sOk_q1 hs) (rI_q eA) hk
  | 31, _ => exact lc_margin hm hi hL hc hr (C_margin hs) (R_margin hs) (hs) (rI_i) hk
  | 32, _ => exact lc_lightest hm hi hL hc hr (C_lightest hs) (R_lightest hs) (sOk_q1 hs) (rI_q eA) hk
  | 33, _ => exact lc_term hm hi hL hc hr (C_term hs) (R_term hs) (sOk_q1 hs) (rI_q eA) hk
  | 34, _ => exact lc_span hm hi hL hc hr (C_span hs) (R_span hs) (sOk_q1 hs) (rI_q eA) hk
  | 35, _ => exact lc_image hm hi hL hc hr (C_image hs) (R_image hs) (sOk_image hs) (by unfold f_image; split <;> exact ⟨_, rfl⟩) hk
  | 36, _ => exact lc_restore hm hi hL hc hr (C_restore hs) (R_restore hs) (sOk_restore hs) (by unfold f_restore; split <;> exact ⟨_, rfl⟩) hk
  | 37, _ => exact lc_status hm hi hL hc hr (C_status) (R_status) (hs) (rI_i) hk
  | 38, _ => exact lc_count hm hi hL hc hr (C_count) (R_count) (hs) (rI_i) hk
  | n + 39, h => exact absurd h (by omega)
set_option maxRecDepth 40000 in
theorem lb_body (hm : ∀ k, gMono (gTab (lT Ls xs E d) k)) (hi : i ≤ 6000) (hL : Ls ≤ 5632) (hs : sOk s) (hc : cRep s P I A) (hr : rRep s I' A') (hk : i + 11 ≤ Ls → lK Ls xs E d Q X i P') (hq : ∀ H, Q (some (.int 1)) H) : gWp (gTab (lT Ls xs E d)) Q X 23 (lL3 i none none none) [] (lW f P I A P' I' A') := by
  refine x_iload hm (show gTab (lT Ls xs E d) 23 = gi_iload 25 4 from rfl) rfl (x_aload hm (show gTab (lT Ls xs E d) 25 = gi_aload 26 0 from rfl) rfl (x_slen hm (show gTab (lT Ls xs E d) 26 = gi_slen Ls 27 from rfl) (x_st hm (show gTab (lT Ls xs E d) 27 = gi_st 29 (gf_push (.int 11)) from rfl) rfl (x_st hm (show gTab (lT Ls xs E d) 29 = gi_st 30 (gf_i2 (fun x y => x - y)) from rfl) rfl (x_icmp hm (show gTab (lT Ls xs E d) 30 = gi_icmp 33 2444 (fun x y => y < x) from rfl) (fun _ => ?_) (fun q => ?_))))))
  · exact x_st hm (show gTab (lT Ls xs E d) 2444 = gi_st 2445 (gf_push (.int 1)) from rfl) rfl (x_zret hm (show gTab (lT Ls xs E d) 2445 = gi_zret .boolean from rfl) rfl (hq _))
  · have hi2 : i + 11 ≤ Ls := lp_lt hi hL q
    have h0 : vp_in (nI i) Ls := vp_in_nI (by omega) (by omega)
    refine x_aload hm (show gTab (lT Ls xs E d) 33 = gi_aload 34 0 from rfl) rfl (x_iload hm (show gTab (lT Ls xs E d) 34 = gi_iload 36 4 from rfl) rfl (x_sld hm (show gTab (lT Ls xs E d) 36 = gi_sld Ls xs 37 from rfl) h0 (x_st hm (show gTab (lT Ls xs E d) 37 = gi_st 39 (gf_push (.int 63)) from rfl) rfl (x_st hm (show gTab (lT Ls xs E d) 39 = gi_st 40 (gf_i2 (fun x y => x &&& y)) from rfl) rfl (x_tsw hm (show gTab (lT Ls xs E d) 40 = gi_tsw 0 [212, 285, 341, 397, 453, 509, 522, 535, 591, 659, 727, 783, 957, 1044, 1112, 1180, 1236, 1304, 1360, 1416, 1472, 1552, 1631, 1699, 1779, 1835, 1848, 1904, 1917, 1973, 2041, 2097, 2110, 2166, 2258, 2362, 2375, 2388, 2413] 2438 from rfl) ?_)))))
    generalize (xs (nI i).toNatClampNeg &&& 63).toInt = w
    by_cases c : w < 0 ∨ 0 + ((([212, 285, 341, 397, 453, 509, 522, 535, 591, 659, 727, 783, 957, 1044, 1112, 1180, 1236, 1304, 1360, 1416, 1472, 1552, 1631, 1699, 1779, 1835, 1848, 1904, 1917, 1973, 2041, 2097, 2110, 2166, 2258, 2362, 2375, 2388, 2413] : List Nat).length : Nat) : Int) ≤ w
    · rw [if_pos c]
      exact hk hi2 s f P I A I' A' hs hc hr
    · rw [if_neg c]
      refine lb_cases hm hi2 hL hs hc hr (hk hi2) _ ?_
      have c2 : ¬ (w < 0 ∨ 0 + ((39 : Nat) : Int) ≤ w) := c
      omega
end LBY
