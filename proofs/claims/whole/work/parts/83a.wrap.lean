/-! ===== wrappers: what they do; the calls of the law's loop ===== -/
def gMw (Ls : Nat) (xs : Nat → Int32) (i : gInf) (tb : (Nat → gS) → List (List gI)) : Prop :=
  plainName i.1.cls = true ∧ ∃ (h0 : Nat × Nat × Nat × Nat) (h1 : List (Nat × Nat × Nat × Nat)) (z : Nat → Nat), i.2.2.2.2.2 = h0 :: h1 ∧ (∀ k, z k ≤ i.2.2.2.2.1) ∧ ∀ (SS : Nat → gS) (d : Nat), (∀ M, gSmono (SS M)) → ∀ k, gOkW (h0 :: h1) (gEXv Ls xs) gInfW gCl gU SS d (fun _ _ => False) i.2.1 i.2.2.1 i.1.cls i.2.2.2.1 z i.2.2.2.2.1 k (gTab (tb SS) k)
theorem gAll2_lt {α β : Type} {P : α → β → Prop} {x : α} {y : β} : ∀ (l : List α) (t : List β) (j : Nat), j < l.length → j < t.length → gAll2 P l t → P (l.getD j x) (t.getD j y)
  | [], _, j, h, _, _ => absurd h (Nat.not_lt_zero j)
  | _ :: _, [], j, _, h, _ => absurd h (Nat.not_lt_zero j)
  | a :: l, b :: t, 0, _, _, h => by simpa using h.1
  | a :: l, b :: t, j + 1, h1, h2, h => by
    have := gAll2_lt (x := x) (y := y) l t j (by simpa using h1) (by simpa using h2) h.2
    simpa using this
def twL : List ((Nat → gS) → List (List gI)) := [tw_state, tw_law, tw_work, tw_book, tw_told, tw_town, tw_road, tw_seats, tw_would, tw_can, tw_ahead, tw_turn, tw_swing, tw_given, tw_league, tw_drift, tw_look, tw_commas, tw_odds, tw_speak, tw_bread, tw_closest, tw_safest, tw_till, tw_most, tw_sides, tw_lightest, tw_term, tw_span]
set_option maxRecDepth 20000 in
theorem gMw_all (Ls : Nat) (xs : Nat → Int32) : gAll2 (gMw Ls xs) gInfWL twL := gAll2_c ⟨by decide +kernel, (0, 9, 12, 13), [], (fun k => if k ≤ 4 then 0 else 1), rfl, by intro k; show (if k ≤ 4 then 0 else 1) ≤ 1; (repeat' split) <;> omega, fun SS d hm => gTab_ok (fun _ => gOkW_of gs_bad) (tkw_state hm)⟩ (gAll2_c ⟨by decide +kernel, (0, 9, 12, 13), [], (fun k => if k ≤ 4 then 0 else 1), rfl, by intro k; show (if k ≤ 4 then 0 else 1) ≤ 1; (repeat' split) <;> omega, fun SS d hm => gTab_ok (fun _ => gOkW_of gs_bad) (tkw_law hm)⟩ (gAll2_c ⟨by decide +kernel, (0, 9, 12, 13), [], (fun k => if k ≤ 4 then 0 else 1), rfl, by intro k; show (if k ≤ 4 then 0 else 1) ≤ 1; (repeat' split) <;> omega, fun SS d hm => gTab_ok (fun _ => gOkW_of gs_bad) (tkw_work hm)⟩ (gAll2_c ⟨by decide +kernel, (0, 9, 12, 13), [], (fun k => if k ≤ 4 then 0 else 1), rfl, by intro k; show (if k ≤ 4 then 0 else 1) ≤ 1; (repeat' split) <;> omega, fun SS d hm => gTab_ok (fun _ => gOkW_of gs_bad) (tkw_book hm)⟩ (gAll2_c ⟨by decide +kernel, (0, 9, 12, 13), [], (fun k => if k ≤ 4 then 0 else 1), rfl, by intro k; show (if k ≤ 4 then 0 else 1) ≤ 1; (repeat' split) <;> omega, fun SS d hm => gTab_ok (fun _ => gOkW_of gs_bad) (tkw_told hm)⟩ (gAll2_c ⟨by decide +kernel, (0, 10, 13, 31), [(0, 10, 17, 13)], (fun k => if k ≤ 5 then 0 else 2), rfl, by intro k; show (if k ≤ 5 then 0 else 2) ≤ 2; (repeat' split) <;> omega, fun SS d hm => gTab_ok (fun _ => gOkW_of gs_bad) (tkw_town hm)⟩ (gAll2_c ⟨by decide +kernel, (0, 10, 13, 31), [(0, 10, 17, 13)], (fun k => if k ≤ 5 then 0 else 2), rfl, by intro k; show (if k ≤ 5 then 0 else 2) ≤ 2; (repeat' split) <;> omega, fun SS d hm => gTab_ok (fun _ => gOkW_of gs_bad) (tkw_road hm)⟩ (gAll2_c ⟨by decide +kernel, (0, 9, 12, 13), [], (fun k => if k ≤ 4 then 0 else 1), rfl, by intro k; show (if k ≤ 4 then 0 else 1) ≤ 1; (repeat' split) <;> omega, fun SS d hm => gTab_ok (fun _ => gOkW_of gs_bad) (tkw_seats hm)⟩ (gAll2_c ⟨by decide +kernel, (0, 26, 29, 13), [], (fun k => if k ≤ 21 then 0 else 4), rfl, by intro k; show (if k ≤ 21 then 0 else 4) ≤ 4; (repeat' split) <;> omega, fun SS d hm => gTab_ok (fun _ => gOkW_of gs_bad) (tkw_would hm)⟩ (gAll2_c ⟨by decide +kernel, (0, 19, 22, 31), [], (fun k => if k ≤ 7 then 0 else 2), rfl, by intro k; show (if k ≤ 7 then 0 else 2) ≤ 2; (repeat' split) <;> omega, fun SS d hm => gTab_ok (fun _ => gOkW_of gs_bad) (tkw_can hm)⟩ (gAll2_c ⟨by decide +kernel, (0, 10, 13, 13), [], (fun k => if k ≤ 5 then 0 else 1), rfl, by intro k; show (if k ≤ 5 then 0 else 1) ≤ 1; (repeat' split) <;> omega, fun SS d hm => gTab_ok (fun _ => gOkW_of gs_bad) (tkw_ahead hm)⟩ (gAll2_c ⟨by decide +kernel, (0, 10, 13, 13), [], (fun k => if k ≤ 5 then 0 else 1), rfl, by intro k; show (if k ≤ 5 then 0 else 1) ≤ 1; (repeat' split) <;> omega, fun SS d hm => gTab_ok (fun _ => gOkW_of gs_bad) (tkw_turn hm)⟩ (gAll2_c ⟨by decide +kernel, (0, 9, 12, 31), [], (fun k => if k ≤ 4 then 0 else 1), rfl, by intro k; show (if k ≤ 4 then 0 else 1) ≤ 1; (repeat' split) <;> omega, fun SS d hm => gTab_ok (fun _ => gOkW_of gs_bad) (tkw_swing hm)⟩ (gAll2_c ⟨by decide +kernel, (0, 10, 13, 31), [(0, 10, 17, 13)], (fun k => if k ≤ 5 then 0 else 2), rfl, by intro k; show (if k ≤ 5 then 0 else 2) ≤ 2; (repeat' split) <;> omega, fun SS d hm => gTab_ok (fun _ => gOkW_of gs_bad) (tkw_given hm)⟩ (gAll2_c ⟨by decide +kernel, (0, 9, 12, 13), [], (fun k => if k ≤ 4 then 0 else 1), rfl, by intro k; show (if k ≤ 4 then 0 else 1) ≤ 1; (repeat' split) <;> omega, fun SS d hm => gTab_ok (fun _ => gOkW_of gs_bad) (tkw_league hm)⟩ (gAll2_c ⟨by decide +kernel, (0, 9, 12, 13), [], (fun k => if k ≤ 4 then 0 else 1), rfl, by intro k; show (if k ≤ 4 then 0 else 1) ≤ 1; (repeat' split) <;> omega, fun SS d hm => gTab_ok (fun _ => gOkW_of gs_bad) (tkw_drift hm)⟩ (gAll2_c ⟨by decide +kernel, (0, 9, 12, 13), [], (fun k => if k ≤ 4 then 0 else 1), rfl, by intro k; show (if k ≤ 4 then 0 else 1) ≤ 1; (repeat' split) <;> omega, fun SS d hm => gTab_ok (fun _ => gOkW_of gs_bad) (tkw_look hm)⟩ (gAll2_c ⟨by decide +kernel, (0, 12, 15, 13), [], (fun k => if k ≤ 7 then 0 else 1), rfl, by intro k; show (if k ≤ 7 then 0 else 1) ≤ 1; (repeat' split) <;> omega, fun SS d hm => gTab_ok (fun _ => gOkW_of gs_bad) (tkw_commas hm)⟩ (gAll2_c ⟨by decide +kernel, (0, 11, 14, 31), [(0, 11, 18, 13)], (fun k => if k ≤ 7 then 0 else 2), rfl, by intro k; show (if k ≤ 7 then 0 else 2) ≤ 2; (repeat' split) <;> omega, fun SS d hm => gTab_ok (fun _ => gOkW_of gs_bad) (tkw_odds hm)⟩ (gAll2_c ⟨by decide +kernel, (0, 10, 13, 13), [], (fun k => if k ≤ 5 then 0 else 1), rfl, by intro k; show (if k ≤ 5 then 0 else 1) ≤ 1; (repeat' split) <;> omega, fun SS d hm => gTab_ok (fun _ => gOkW_of gs_bad) (tkw_speak hm)⟩ (gAll2_c ⟨by decide +kernel, (0, 12, 15, 31), [(0, 12, 19, 13)], (fun k => if k ≤ 7 then 0 else 2), rfl, by intro k; show (if k ≤ 7 then 0 else 2) ≤ 2; (repeat' split) <;> omega, fun SS d hm => gTab_ok (fun _ => gOkW_of gs_bad) (tkw_bread hm)⟩ (gAll2_c ⟨by decide +kernel, (0, 9, 12, 13), [], (fun k => if k ≤ 4 then 0 else 1), rfl, by intro k; show (if k ≤ 4 then 0 else 1) ≤ 1; (repeat' split) <;> omega, fun SS d hm => gTab_ok (fun _ => gOkW_of gs_bad) (tkw_closest hm)⟩ (gAll2_c ⟨by decide +kernel, (0, 9, 12, 13), [], (fun k => if k ≤ 4 then 0 else 1), rfl, by intro k; show (if k ≤ 4 then 0 else 1) ≤ 1; (repeat' split) <;> omega, fun SS d hm => gTab_ok (fun _ => gOkW_of gs_bad) (tkw_safest hm)⟩ (gAll2_c ⟨by decide +kernel, (0, 9, 12, 13), [], (fun k => if k ≤ 4 then 0 else 1), rfl, by intro k; show (if k ≤ 4 then 0 else 1) ≤ 1; (repeat' split) <;> omega, fun SS d hm => gTab_ok (fun _ => gOkW_of gs_bad) (tkw_till hm)⟩ (gAll2_c ⟨by decide +kernel, (0, 10, 13, 31), [], (fun k => if k ≤ 5 then 0 else 2), rfl, by intro k; show (if k ≤ 5 then 0 else 2) ≤ 2; (repeat' split) <;> omega, fun SS d hm => gTab_ok (fun _ => gOkW_of gs_bad) (tkw_most hm)⟩ (gAll2_c ⟨by decide +kernel, (0, 9, 12, 13), [], (fun k => if k ≤ 4 then 0 else 1), rfl, by intro k; show (if k ≤ 4 then 0 else 1) ≤ 1; (repeat' split) <;> omega, fun SS d hm => gTab_ok (fun _ => gOkW_of gs_bad) (tkw_sides hm)⟩ (gAll2_c ⟨by decide +kernel, (0, 9, 12, 13), [], (fun k => if k ≤ 4 then 0 else 1), rfl, by intro k; show (if k ≤ 4 then 0 else 1) ≤ 1; (repeat' split) <;> omega, fun SS d hm => gTab_ok (fun _ => gOkW_of gs_bad) (tkw_lightest hm)⟩ (gAll2_c ⟨by decide +kernel, (0, 14, 17, 13), [], (fun k => if k ≤ 9 then 0 else 1), rfl, by intro k; show (if k ≤ 9 then 0 else 1) ≤ 1; (repeat' split) <;> omega, fun SS d hm => gTab_ok (fun _ => gOkW_of gs_bad) (tkw_term hm)⟩ (gAll2_c ⟨by decide +kernel, (0, 16, 19, 13), [], (fun k => if k ≤ 11 then 0 else 2), rfl, by intro k; show (if k ≤ 11 then 0 else 2) ≤ 2; (repeat' split) <;> omega, fun SS d hm => gTab_ok (fun _ => gOkW_of gs_bad) (tkw_span hm)⟩ (trivial)))))))))))))))))))))))))))))
theorem gMw_at (Ls : Nat) (xs : Nat → Int32) {M : Nat} (h1 : ¬ M < 258) (h2 : M < 287) : gMw Ls xs (gInfW M) (twL.getD (M - 258) (fun _ => [])) := by
  have e : gInfW M = gInfWL.getD (M - 258) (yX0_clear, cX0_clear, 0, none, 0, []) := if_neg h1
  rw [e]
  exact gAll2_lt gInfWL twL (M - 258) (by show M - 258 < 29; omega) (by show M - 258 < 29; omega) (gMw_all Ls xs)
/-- methods, as wrappers call them -/
def ssM (d : Nat) : Nat → gS := fun M as H Q X => M < 258 ∧ meth d M as H Q X
theorem ssM_mono (d M : Nat) : gSmono (ssM d M) := fun a H Q Q' X X' hQ hX h => ⟨h.1, meth_smono d M a H Q Q' X X' hQ hX h.2⟩
theorem gMet_w {EX : gEX} {l : Launch} {d M : Nat} {as : List Value} {H : gH} {Q : gQ} {X : gX} (h : M < 258) (hm : gMet EX l gInfT gCl gU d M as H Q X) : gMet EX l gInfW gCl gU d M as H Q X := by
  have e : gInfW M = gInfT M := if_pos h
  intro D cA ad n sz
  rw [e]
  exact hm D cA ad n sz
/-- methods and wrappers, as the law calls them -/
def ssL (d : Nat) : Nat → gS := fun M as H Q X => (M < 258 ∧ meth (d + 1) M as H Q X) ∨ (¬ M < 258 ∧ M < 287 ∧ (gsl as).length ≤ (gInfW M).2.2.1 ∧ gWp (gTab ((twL.getD (M - 258) (fun _ => [])) (ssM d))) Q (fun _ _ => False) 0 (gargs (gInfW M).2.2.1 as) [] H)
set_option maxRecDepth 20000 in
theorem tw_mono {M : Nat} (h1 : ¬ M < 258) (h2 : M < 287) (d k : Nat) : gMono (gTab ((twL.getD (M - 258) (fun _ => [])) (ssM d)) k) := by
  obtain ⟨-, h0, hh, z, -, -, hk⟩ := gMw_at 0 (fun _ => 0) h1 h2
  exact (hk (ssM d) d (ssM_mono d) k).1
set_option maxRecDepth 20000 in
theorem ssL_mono (d M : Nat) : gSmono (ssL d M) := by
  intro a H Q Q' X X' hQ hX h
  rcases h with ⟨h1, h2⟩ | ⟨h1, h2, h3, h4⟩
  · exact Or.inl ⟨h1, meth_smono _ M a H Q Q' X X' hQ hX h2⟩
  · exact Or.inr ⟨h1, h2, h3, gWp_mono (tw_mono h1 h2 d) hQ (fun _ _ q => q) h4⟩
theorem gMet_X {EX : gEX} {l : Launch} {inf : Nat → gInf} {cl : List vw_C} {U : List Cond} {d M : Nat} {as : List Value} {H : gH} {Q : gQ} {X : gX} (h : gMet EX l inf cl U d M as H Q (fun _ _ => False)) : gMet EX l inf cl U d M as H Q X := by
  intro D cA ad n sz p e ha hc hk s m args below hf happ hP hK
  obtain ⟨n2, o, h1, h2, h3, h4⟩ := h D cA ad n sz p e ha hc hk s m args below hf happ hP hK
  refine ⟨n2, o, h1, h2, h3, ?_⟩
  rcases h4 with h4 | ⟨q, -, E, ce, L, ⟨H', hx, -⟩, -⟩
  · exact Or.inl h4
  · exact hx.elim
set_option maxRecDepth 20000 in
theorem ssL_ok {Ls : Nat} {xs : Nat → Int32} {l : Launch} (hT : gThT (gEXv Ls xs) l) (d M : Nat) (as : List Value) (H : gH) (Q : gQ) (X : gX) (h : ssL d M as H Q X) : gMet (gEXv Ls xs) l gInfW gCl gU (d + 1) M as H Q X := by
  have hX := gEXv_ok Ls xs
  have hS := gEXv_str Ls xs
  have hZ := gEXv_x Ls xs
  rcases h with ⟨h1, h2⟩ | ⟨h1, h2, h3, h4⟩
  · exact gMet_w h1 (meth_ok hX hS hZ hT (d + 1) M as H Q X h2)
  · obtain ⟨hp, h0, hh, z, hhe, hz, hk⟩ := gMw_at Ls xs h1 h2
    exact gMet_X (gMetW_of hX hp hhe (hk (ssM d) d (ssM_mono d)) hz (fun M as H Q X q => gMet_w q.1 (meth_ok hX hS hZ hT d M as H Q X q.2)) h3 h4)
-- the law's heap: the class at 0, the reference at 52, the answer's row at 81
def lH (f : Nat → Int64) : gH := fun h => if h = 81 then some (.inl (1, (1, .inr (.inl f)))) else none
def lW (f : Nat → Int64) (P : Nat → Nat) (I A : Nat → Nat → Int32) (P' : Nat → Nat) (I' A' : Nat → Nat → Int32) : gH := gset (gset (lH f) 52 mck P' I' A') 0 cck P I A
theorem cck_n : ∀ o, (cck o).1 ≠ 0 ↔ o < 52 := fun o => by
  by_cases ho : o < 52
  · exact ⟨fun _ => ho, fun _ => (by decide +kernel : ∀ o, o < 52 → (cck o).1 ≠ 0) o ho⟩
  · refine ⟨fun q => absurd ?_ q, fun q => absurd q ho⟩
    unfold cck
    rw [List.getD_eq_getElem?_getD, List.getElem?_eq_none (by show 52 ≤ o; omega)]
    rfl
section LWH
variable {f g : Nat → Int64} {P : Nat → Nat} {I A : Nat → Nat → Int32} {P' : Nat → Nat} {I' A' : Nat → Nat → Int32}
theorem lW_sw : lW f P I A P' I' A' = gset (gset (lH f) 0 cck P I A) 52 mck P' I' A' := by
  funext h
  unfold lW gset
  by_cases h1 : h < 52
  · have e1 : 0 ≤ h ∧ (cck (h - 0)).1 ≠ 0 := ⟨Nat.zero_le _, (cck_n _).mpr (by omega)⟩
    have e2 : ¬ (52 ≤ h ∧ (mck (h - 52)).1 ≠ 0) := fun q => by omega
    rw [if_pos e1, if_neg e2, if_pos e1]
  · have e1 : ¬ (0 ≤ h ∧ (cck (h - 0)).1 ≠ 0) := fun q => h1 ((cck_n _).mp q.2)
    rw [if_neg e1, if_neg e1]
theorem lW_81 : lW f P I A P' I' A' 81 = some (.inl (1, (1, .inr (.inl f)))) := by
  unfold lW gset
  rw [if_neg (fun q => absurd ((cck_n _).mp q.2) (by decide)), if_neg (fun q => absurd ((mck_n _).mp q.2) (by decide))]
  exact if_pos rfl
theorem lW_put : gu (lW f P I A P' I' A') 81 (.inl (1, (1, .inr (.inl g)))) = lW g P I A P' I' A' := by
  funext h
  unfold gu
  by_cases hh : h = 81
  · subst hh
    rw [if_pos rfl, lW_81]
  · rw [if_neg hh]
    unfold lW gset
    by_cases e1 : 0 ≤ h ∧ (cck (h - 0)).1 ≠ 0
    · rw [if_pos e1, if_pos e1]
    · rw [if_neg e1, if_neg e1]
      by_cases e2 : 52 ≤ h ∧ (mck (h - 52)).1 ≠ 0
      · rw [if_pos e2, if_pos e2]
      · rw [if_neg e2, if_neg e2]
        unfold lH
        rw [if_neg hh, if_neg hh]
theorem lW_r0 {as : List Value} : grecv (lW f P I A P' I' A') 9 (.ref 0 :: as) := by
  show (match gset (gset (lH f) 52 mck P' I' A') 0 cck P I A (0 + 0) with | some (.inr (c, _)) => c = 9 | _ => False)
  rw [gz_ob (ck := cck) (o := 0) (ci := 9) rfl]
theorem lW_r52 {as : List Value} : grecv (lW f P I A P' I' A') 10 (.ref 52 :: as) := by
  rw [lW_sw]
  show (match gset (gset (lH f) 0 cck P I A) 52 mck P' I' A' (52 + 0) with | some (.inr (c, _)) => c = 10 | _ => False)
  rw [gz_ob (ck := mck) (o := 0) (ci := 10) rfl]
end LWH
-- rules for the law's table and the wrappers' tables
section LWX
variable {t : List (List gI)} {Q : gQ} {X : gX} {k : Nat} {L : gL} {st : List Value} {H : gH}
variable {f : Nat → Int64} {P : Nat → Nat} {I A : Nat → Nat → Int32} {P' : Nat → Nat} {I' A' : Nat → Nat → Int32}
theorem x_callvH {S : gS} {ci k' na : Nat} {hs : List (String × Int32)} {as rest : List Value} (hm : ∀ k, gMono (gTab t k)) (e : gTab t k = gi_callvH S ci k' na hs) (h1 : (st.take na).reverse = as) (h2 : st.drop na = rest) (h3 : na ≤ st.length) (h4 : gcat rest ≤ 8) (h5 : grecv H ci as) (kk : S as H (fun r H' => gWp (gTab t) Q X k' L (r.toList ++ rest) H') (fun E H' => ∃ n, (E, n) ∈ hs ∧ Q (some (.int n)) H')) : gWp (gTab t) Q X k L st H := by
  subst h1; subst h2
  refine gWp_in hm ?_
  rw [e]
  exact ⟨h3, h4, h5, kk⟩
theorem x_callvR {S : gS} {ci k' na : Nat} {as rest : List Value} (hm : ∀ k, gMono (gTab t k)) (e : gTab t k = gi_callv S ci k' na) (h1 : (st.take na).reverse = as) (h2 : st.drop na = rest) (h3 : na ≤ st.length) (h4 : gcat rest ≤ 8) (h5 : grecv H ci as) (kk : S as H (fun r H' => gWp (gTab t) Q X k' L (r.toList ++ rest) H') X) : gWp (gTab t) Q X k L st H := by
  subst h1; subst h2
  refine gWp_in hm ?_
  rw [e]
  exact ⟨h3, h4, h5, kk⟩
theorem x_lastW {k' : Nat} {a : Int64} (hm : ∀ k, gMono (gTab t k)) (e : gTab t k = gi_last k') (kk : gWp (gTab t) Q X k' L st (lW (vp_updL f 0 a) P I A P' I' A')) : gWp (gTab t) Q X k L (.long a :: .int 0 :: .ref 81 :: st) (lW f P I A P' I' A') := by
  refine gWp_in hm ?_
  rw [e]
  show (match gal (lW f P I A P' I' A') 81 with | some (n, f) => vp_in 0 n ∧ gWp (gTab t) Q X k' L st (gu (lW _ P I A P' I' A') 81 (.inl (1, (n, .inr (.inl (vp_updL f (0 : Int32).toNatClampNeg a)))))) | none => False)
  unfold gal
  rw [lW_81]
  show vp_in 0 1 ∧ _
  rw [lW_put]
  exact ⟨vp_in_nI (n := 0) (by omega) (by omega), kk⟩
theorem x_laldW {k' : Nat} (hm : ∀ k, gMono (gTab t k)) (e : gTab t k = gi_lald k') (kk : gWp (gTab t) Q X k' L (.long (f 0) :: st) (lW f P I A P' I' A')) : gWp (gTab t) Q X k L (.int 0 :: .ref 81 :: st) (lW f P I A P' I' A') := by
  refine gWp_in hm ?_
  rw [e]
  show (match gal (lW f P I A P' I' A') 81 with | some (n, f) => vp_in 0 n ∧ gWp (gTab t) Q X k' L (.long (f (0 : Int32).toNatClampNeg) :: st) (lW _ P I A P' I' A') | none => False)
  unfold gal
  rw [lW_81]
  exact ⟨vp_in_nI (n := 0) (by omega) (by omega), kk⟩
theorem x_sld {Ls : Nat} {xs : Nat → Int32} {k' : Nat} {i : Int32} (hm : ∀ k, gMono (gTab t k)) (e : gTab t k = gi_sld Ls xs k') (h : vp_in i Ls) (kk : gWp (gTab t) Q X k' L (.int (xs i.toNatClampNeg) :: st) H) : gWp (gTab t) Q X k L (.int i :: .ref 4000000 :: st) H := by
  refine gWp_in hm ?_
  rw [e]
  exact ⟨rfl, h, kk⟩
theorem x_slen {Ls : Nat} {k' : Nat} (hm : ∀ k, gMono (gTab t k)) (e : gTab t k = gi_slen Ls k') (kk : gWp (gTab t) Q X k' L (.int (Int32.ofNat Ls) :: st) H) : gWp (gTab t) Q X k L (.ref 4000000 :: st) H := by
  refine gWp_in hm ?_
  rw [e]
  exact ⟨rfl, kk⟩
theorem x_ext {E : gL → List Value → gH → Prop} (hm : ∀ k, gMono (gTab t k)) (e : gTab t k = gi_ext E) (kk : E L st H) : gWp (gTab t) Q X k L st H := by
  refine gWp_in hm ?_
  rw [e]
  exact kk
end LWX
/-- a wrapper's answer: what the call answered is in the row, or which throw it was -/
def wQ (hs : List (String × Int32)) (cv : Value → Option Int64) (Q : gQ) (f : Nat → Int64) (HH : (Nat → Int64) → gH) : Value ⊕ String → Prop
  | .inl v => ∃ a, cv v = some a ∧ Q (some (.int 0)) (HH (vp_updL f 0 a))
  | .inr E => ∃ n, (E, n) ∈ hs ∧ Q (some (.int n)) (HH f)
def cvI : Value → Option Int64
  | .int a => some a.toInt64
  | _ => none
def cvL : Value → Option Int64
  | .long a => some a
  | _ => none
def cvZ : Value → Option Int64
  | .int a => some (if a = 0 then 0 else 1)
  | _ => none
