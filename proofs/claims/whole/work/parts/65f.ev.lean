/-! ===== L2: what a law answers ===== -/
def jn (a : Nat) (x y : Int32) : Int32 := if a = 2 then x + y else if a = 3 then x - y else if a = 4 then x * y else if a = 5 then (if y = 0 then 0 else x / y) else if a = 6 then gmin x y else if a = 7 then gmax x y else (if y = 0 then 0 else x - x / y * y)
def run (fs : Nat → Int32) : CO → Nat → (Nat → Int32) → Nat → Int32
  | [], _, st => st
  | c :: cs, t, st => if c.1 = 0 then run fs cs (t + 1) (upd st t (nI c.2)) else if c.1 = 1 then run fs cs (t + 1) (upd st t (fs c.2)) else run fs cs (t - 1) (upd st (t - 2) (jn c.1 (st (t - 2)) (st (t - 1))))
theorem run_c {fs fs' : Nat → Int32} (hf : ∀ k, k < 10 → fs k = fs' k) : ∀ (cs : CO) (t e : Nat) (st st' : Nat → Int32), chk cs t e → (∀ j, j < t → st j = st' j) → ∀ j, j < e → run fs cs t st j = run fs' cs t st' j
  | [], t, e, st, st', h, hs, j, hj => by rw [show t = e from h] at hs; exact hs j hj
  | c :: cs, t, e, st, st', h, hs, j, hj => by
    unfold chk at h
    unfold run
    by_cases h0 : c.1 = 0
    · rw [if_pos h0] at h ⊢
      rw [if_pos h0]
      refine run_c hf cs _ e _ _ h.2.2 (fun i hi => ?_) j hj
      by_cases hit : i = t
      · rw [hit, upd_at, upd_at]
      · rw [upd_ne hit, upd_ne hit]; exact hs i (by omega)
    · rw [if_neg h0] at h ⊢
      rw [if_neg h0]
      by_cases h1 : c.1 = 1
      · rw [if_pos h1] at h ⊢
        rw [if_pos h1]
        refine run_c hf cs _ e _ _ h.2.2 (fun i hi => ?_) j hj
        by_cases hit : i = t
        · rw [hit, upd_at, upd_at]; exact hf _ h.1
        · rw [upd_ne hit, upd_ne hit]; exact hs i (by omega)
      · rw [if_neg h1] at h ⊢
        rw [if_neg h1]
        refine run_c hf cs _ e _ _ h.2.2 (fun i hi => ?_) j hj
        rw [hs (t - 2) (by omega), hs (t - 1) (by omega)]
        by_cases hit : i = t - 2
        · rw [hit, upd_at, upd_at]
        · rw [upd_ne hit, upd_ne hit]; exact hs i (by omega)
def clp (v : Int32) : Int32 := gmax (-99) (gmin 99 v)
def lev (cs : CO) (fs : Nat → Int32) : Int32 := clp (run fs cs 0 (fun _ => 0) 0)
theorem lev_ok {cs : CO} (h : chk cs 0 1) : evOk (lev cs) := fun f g hfg => by
  unfold lev
  rw [run_c hfg cs 0 1 _ (fun _ => 0) h (fun j hj => absurd hj (Nat.not_lt_zero j)) 0 (by omega)]
theorem chk_t {cs : CO} {c : Nat × Nat} {t e : Nat} (h : chk (c :: cs) t e) : (c.1 = 0 ∧ c.2 < 1000 ∧ t < 32 ∧ chk cs (t + 1) e) ∨ (c.1 = 1 ∧ c.2 < 10 ∧ t < 32 ∧ chk cs (t + 1) e) ∨ (2 ≤ c.1 ∧ c.1 ≤ 8 ∧ 2 ≤ t ∧ chk cs (t - 1) e) := by
  unfold chk at h
  by_cases h0 : c.1 = 0
  · rw [if_pos h0] at h; exact Or.inl ⟨h0, h⟩
  · rw [if_neg h0] at h
    by_cases h1 : c.1 = 1
    · rw [if_pos h1] at h; exact Or.inr (Or.inl ⟨h1, h⟩)
    · rw [if_neg h1] at h; exact Or.inr (Or.inr ⟨by omega, h⟩)
theorem run_s {fs : Nat → Int32} {cs : CO} {c : Nat × Nat} {t : Nat} {st : Nat → Int32} : run fs (c :: cs) t st = if c.1 = 0 then run fs cs (t + 1) (upd st t (nI c.2)) else if c.1 = 1 then run fs cs (t + 1) (upd st t (fs c.2)) else run fs cs (t - 1) (upd st (t - 2) (jn c.1 (st (t - 2)) (st (t - 1)))) := rfl
theorem drop_g {cs : CO} {i : Nat} (h : i < cs.length) : cs.drop i = cs.getD i (0, 0) :: cs.drop (i + 1) := by
  rw [List.drop_eq_getElem_cons h, List.getD_eq_getElem?_getD, List.getElem?_eq_getElem h]
  rfl
theorem nI_m {t : Nat} (h : 1 ≤ t) : nI t + (-1) = nI (t - 1) := by
  rw [show nI t + (-1) = nI t - nI 1 from (Int32.sub_eq_add_neg _ _).symm, nI_sub h]
section L2EV
variable {d q : Nat} {Q : gQ} {X : gX} {H : gH} {x : Nat} {P : Nat → Nat} {I A : Nat → Nat → Int32}
theorem sp_Law_join {a : Nat} {u v : Int32} (h2 : 2 ≤ a) (h8 : a ≤ 8) (h : Q (some (.int (jn a u v))) (gset H x cck P I A)) : meth (d + 1) m_Law_join [.int (nI (sgc a)), .int u, .int v] (gset H x cck P I A) Q X := by
  have hm := @mo_Law_join (meth d) (meth_smono d)
  refine me_Law_join (wb_Law_join_0 hm ?_)
  rcases (show a = 2 ∨ a = 3 ∨ a = 4 ∨ a = 5 ∨ a = 6 ∨ a = 7 ∨ a = 8 by omega) with rfl | rfl | rfl | rfl | rfl | rfl | rfl
  · exact wb_Law_join_60 hm h
  · exact wb_Law_join_64 hm h
  · exact wb_Law_join_68 hm h
  · refine wb_Law_join_72 hm ⟨fun c => ⟨c, wb_Law_join_83 hm ?_⟩, fun c => wb_Law_join_83 hm ?_⟩
    · rw [show jn 5 u v = if v = 0 then 0 else u / v from rfl, if_neg c] at h; exact h
    · rw [show jn 5 u v = if v = 0 then 0 else u / v from rfl, if_pos (Classical.not_not.mp c)] at h; exact h
  · exact wb_Law_join_96 hm h
  · exact wb_Law_join_102 hm h
  · refine wb_Law_join_84 hm ⟨fun c => ⟨c, wb_Law_join_95 hm ?_⟩, fun c => wb_Law_join_95 hm ?_⟩
    · rw [show jn 8 u v = if v = 0 then 0 else u - u / v * v from rfl, if_neg c] at h; exact h
    · rw [show jn 8 u v = if v = 0 then 0 else u - u / v * v from rfl, if_pos (Classical.not_not.mp c)] at h; exact h
theorem sgc_lt {a : Nat} : sgc a < 100 := by
  unfold sgc
  by_cases h2 : a = 2
  · rw [if_pos h2]; omega
  · rw [if_neg h2]
    by_cases h3 : a = 3
    · rw [if_pos h3]; omega
    · rw [if_neg h3]
      by_cases h4 : a = 4
      · rw [if_pos h4]; omega
      · rw [if_neg h4]
        by_cases h5 : a = 5
        · rw [if_pos h5]; omega
        · rw [if_neg h5]
          by_cases h6 : a = 6
          · rw [if_pos h6]; omega
          · rw [if_neg h6]
            by_cases h7 : a = 7
            · rw [if_pos h7]; omega
            · rw [if_neg h7]; omega
set_option maxHeartbeats 1000000 in
theorem oc_4 {cs : CO} (hq : cck q = (4 + 2, 0)) (h3 : I q 3 = nI cs.length) (hA : ∀ i, i < cs.length → A (q + 1) i = ccode (cs.getD i (0, 0))) (hl : cs.length ≤ 150) (v : Int32) (hk : ∀ K, Q (some (.int (clp v))) (gset H x cck P I (upC A (q + 3) K))) : ∀ (m i t : Nat) (K : Nat → Int32), i + m = cs.length → chk (cs.drop i) t 1 → t ≤ 32 → run (A (q + 2)) (cs.drop i) t K 0 = v →
    gWp (gTab (tb_Law_outcome (meth (d + 1)))) Q X 4 [some (.ref (x + q)), some (.int (nI t)), some (.int (nI i)), none, none] [] (gset H x cck P I (upC A (q + 3) K)) := by
  have hm := @mo_Law_outcome (meth (d + 1)) (meth_smono (d + 1))
  intro m
  induction m with
  | zero =>
    intro i t K hi hc ht hv
    rw [List.drop_eq_nil_of_le (show cs.length ≤ i by omega)] at hv
    have hv : K 0 = v := hv
    refine wb_Law_outcome_4 hm hq ⟨fun _ => ⟨vpd (by decide), ?_⟩, fun c => absurd (by rw [h3]; exact nI_le (by omega) (by omega)) c⟩
    rw [upC_s, show ((0 : Int32)).toNatClampNeg = 0 from rfl, hv]
    exact hk K
  | succ m ih =>
    intro i t K hi hc ht hv
    rw [drop_g (show i < cs.length by omega)] at hc hv
    rw [run_s] at hv
    have iv : vp_in (nI i) 150 := vp_in_nI (by omega) (by omega)
    refine wb_Law_outcome_4 hm hq ⟨fun c => absurd c (by rw [h3]; exact nI_ge (by omega) (by omega)), fun _ => ⟨iv, ?_⟩⟩
    rw [nI_clamp (by omega), upC_n (o := q + 3) (j := q + 1) (by omega), upC_n (o := q + 3) (j := q + 2) (by omega), upC_s, hA i (by omega)]
    generalize hcd : cs.getD i (0, 0) = c at hc hv ⊢
    -- what comes behind a push
    have push : ∀ v3 v4 u, t < 32 → chk (cs.drop (i + 1)) (t + 1) 1 → run (A (q + 2)) (cs.drop (i + 1)) (t + 1) (upd K t u) 0 = v → gWp (gTab (tb_Law_outcome (meth (d + 1)))) Q X 108 [some (.ref (x + q)), some (.int (nI t)), some (.int (nI i)), some (.int v3), some (.int v4)] [.int u, .int (nI t), .ref (x + (q + 3))] (gset H x cck P I (upC A (q + 3) K)) := by
      intro v3 v4 u h32 hc2 hv2
      refine wb_Law_outcome_108 hm hq ⟨vp_in_nI (by omega) (by omega), wb_Law_outcome_112 hm ?_⟩
      rw [nI_clamp (by omega), upA_up, nI_1, nI_1]
      exact ih (i + 1) (t + 1) _ (by omega) hc2 (by omega) hv2
    rcases chk_t hc with ⟨c0, c1, c2, c3⟩ | ⟨c0, c1, c2, c3⟩ | ⟨c0, c1, c2, c3⟩
    · rw [if_pos c0] at hv
      have ec : ccode c = nI c.2 := by unfold ccode; rw [if_pos c0]
      rw [ec]
      refine ⟨fun _ => ⟨fun q => absurd q (nI_ge (b := 32) (by omega) (by omega)), fun _ => ⟨fun _ => wb_Law_outcome_107 hm (push _ _ _ c2 c3 hv), fun q => absurd ?_ q⟩⟩, fun q => absurd (nI_lt (b := 2000) (by omega) (by omega)) q⟩
      rw [Int32.lt_iff_toInt_lt, show (1000 : Int32) = nI 1000 from rfl, _root_.Jvm.Kit.i32_sub (by rw [nI_toInt (by omega), nI_toInt (by omega)]; omega) (by rw [nI_toInt (by omega), nI_toInt (by omega)]; omega), nI_toInt (by omega), nI_toInt (by omega), show (0 : Int32).toInt = 0 from rfl]
      omega
    · rw [if_neg (by omega), if_pos c0] at hv
      have ec : ccode c = nI (1000 + c.2) := by unfold ccode; rw [if_neg (by omega), if_pos c0]
      rw [ec, show nI (1000 + c.2) - 1000 = nI c.2 by rw [show (1000 : Int32) = nI 1000 from rfl, nI_sub (by omega), Nat.add_sub_cancel_left], nI_clamp (by omega)]
      refine ⟨fun _ => ⟨fun q => absurd q (nI_ge (b := 32) (by omega) (by omega)), fun _ => ⟨fun q => absurd q (nI_ge (a := 0) (b := c.2) |> fun _ => ?_), fun _ => ⟨fun q => absurd q (nI_ge (b := 10) (by omega) (by omega)), fun _ => ⟨vp_in_nI (by omega) (by omega), push _ _ _ c2 c3 hv⟩⟩⟩⟩, fun q => absurd (nI_lt (b := 2000) (by omega) (by omega)) q⟩
      rw [show (0 : Int32) = nI 0 from rfl, nI_ltI (by omega) (by omega)]
      omega
    · rw [if_neg (by omega), if_neg (by omega)] at hv
      have ec : ccode c = nI (2000 + sgc c.1) := by unfold ccode; rw [if_neg (by omega), if_neg (by omega)]
      have hsg := @sgc_lt c.1
      rw [ec, show nI (2000 + sgc c.1) - 2000 = nI (sgc c.1) by rw [show (2000 : Int32) = nI 2000 from rfl, nI_sub (by omega), Nat.add_sub_cancel_left], nI_m (by omega), show nI (t - 1) - 1 = nI (t - 2) by rw [show (1 : Int32) = nI 1 from rfl, nI_sub (by omega)]; congr 1, nI_clamp (by omega), nI_clamp (by omega)]
      refine ⟨fun q => absurd q (by rw [show (2000 : Int32) = nI 2000 from rfl, nI_ltI (by omega) (by omega)]; omega), fun _ => ⟨fun q => absurd q (by rw [show (2 : Int32) = nI 2 from rfl, nI_ltI (by omega) (by omega)]; omega), fun _ => ⟨vp_in_nI (by omega) (by omega), vp_in_nI (by omega) (by omega), sp_Law_join c0 c1 (wb_Law_outcome_63 hm hq ⟨vp_in_nI (by omega) (by omega), wb_Law_outcome_112 hm ?_⟩)⟩⟩⟩
      rw [nI_clamp (by omega), upA_up, nI_1]
      exact ih (i + 1) (t - 1) _ (by omega) c3 (by omega) hv
theorem LawAt_of {cs : CO} (hq : cck q = (4 + 2, 0)) (h : codeAt q cs I A) (hl : cs.length ≤ 150) (hc : chk cs 0 1) : LawAt I A q (lev cs) := by
  intro d Q X H x P I' A' e1 e2 hk
  have hm := @mo_Law_outcome (meth (d + 1)) (meth_smono (d + 1))
  refine me_Law_outcome (wb_Law_outcome_0 hm ?_)
  have := oc_4 (d := d) (Q := Q) (X := X) (H := H) (x := x) (P := P) (I := I') (A := A') (cs := cs) hq (by rw [e1]; exact h.1) (by rw [e2]; exact h.2) hl (run (A' (q + 2)) cs 0 (fun _ => 0) 0) hk cs.length 0 0 (A' (q + 3)) (by omega) (by rw [List.drop_zero]; exact hc) (by omega) (by rw [List.drop_zero]; exact run_c (fun _ _ => rfl) cs 0 1 _ _ hc (fun j hj => absurd hj (Nat.not_lt_zero j)) 0 (by omega))
  rw [upC_id] at this
  exact this
def plainC : CO := [(1, 3), (0, 2), (4, 0), (0, 1), (3, 0)]
theorem plain_chk : chk plainC 0 1 := by
  unfold plainC
  simp [chk]
theorem plain_ev {f : Nat → Int32} : lev plainC f = clp (f 3 * 2 - 1) := rfl
theorem plain_code {I A : Nat → Nat → Int32} (h1 : I q 3 = nI 5) (h2 : ∀ i, i < 5 → A (q + 1) i = plain0 i) : codeAt q plainC I A := by
  refine ⟨h1, fun i hi => ?_⟩
  have hi : i < 5 := hi
  rw [h2 i hi]
  exact (by decide +kernel : ∀ i, i < 5 → plain0 i = ccode (plainC.getD i (0, 0))) i hi
/-- the reference's law -/
def rcodeL (cs : CO) (I A : Nat → Nat → Int32) : Prop := I 0 27 = nI cs.length ∧ ∀ i, i < cs.length → A 11 i = nI (cs.getD i (0, 0)).1 ∧ A 12 i = nI (cs.getD i (0, 0)).2
theorem sp_R_both {a : Nat} {u v : Int32} (h2 : 2 ≤ a) (h8 : a ≤ 8) (h : Q (some (.int (jn a u v))) (gset H x mck P I A)) : meth (d + 1) m_R_both [.int (nI a), .int u, .int v] (gset H x mck P I A) Q X := by
  have hm := @mo_R_both (meth d) (meth_smono d)
  refine me_R_both (wb_R_both_0 hm ?_)
  have mn : gmin u v = if v ≤ u then v else u := by
    unfold gmin
    by_cases c : v < u
    · rw [if_pos c, if_pos (Int32.le_of_lt c)]
    · rw [if_neg c]
      by_cases c2 : v ≤ u
      · rw [if_pos c2]; exact Int32.le_antisymm (Int32.not_lt.mp c) c2
      · rw [if_neg c2]
  have mx : gmax u v = if v ≤ u then u else v := by
    unfold gmax
    by_cases c : u < v
    · rw [if_pos c, if_neg (Int32.not_le.mpr c)]
    · rw [if_neg c, if_pos (Int32.not_lt.mp c)]
  rcases (show a = 2 ∨ a = 3 ∨ a = 4 ∨ a = 5 ∨ a = 6 ∨ a = 7 ∨ a = 8 by omega) with rfl | rfl | rfl | rfl | rfl | rfl | rfl
  · exact ⟨fun c => absurd rfl c, fun _ => h⟩
  · exact ⟨fun _ => ⟨fun c => absurd rfl c, fun _ => h⟩, fun c => absurd (by decide) c⟩
  · exact ⟨fun _ => ⟨fun _ => ⟨fun c => absurd rfl c, fun _ => h⟩, fun c => absurd (by decide) c⟩, fun c => absurd (by decide) c⟩
  · refine ⟨fun _ => ⟨fun _ => ⟨fun _ => ⟨fun _ => wb_R_both_38 hm ⟨fun c => ⟨fun c2 => absurd rfl c2, fun _ => ⟨c, wb_R_both_60 hm ?_⟩⟩, fun c => wb_R_both_60 hm ?_⟩, fun c => absurd rfl c⟩, fun c => absurd (by decide) c⟩, fun c => absurd (by decide) c⟩, fun c => absurd (by decide) c⟩
    · rw [show jn 5 u v = if v = 0 then 0 else u / v from rfl, if_neg c] at h; exact h
    · rw [show jn 5 u v = if v = 0 then 0 else u / v from rfl, if_pos (Classical.not_not.mp c)] at h; exact h
  · rw [show jn 6 u v = gmin u v from rfl, mn] at h
    refine ⟨fun _ => ⟨fun _ => ⟨fun _ => ⟨fun c => absurd c (by decide), fun _ => ⟨fun _ => ⟨fun c => wb_R_both_71 hm ⟨fun c => absurd rfl c, fun _ => wb_R_both_82 hm ⟨fun _ => wb_R_both_90 hm ?_, fun c => absurd (by decide) c⟩⟩, fun c => wb_R_both_71 hm ⟨fun c => absurd rfl c, fun _ => wb_R_both_82 hm ⟨fun c => absurd rfl c, fun _ => wb_R_both_90 hm ?_⟩⟩⟩, fun c => absurd (by decide) c⟩⟩, fun c => absurd (by decide) c⟩, fun c => absurd (by decide) c⟩, fun c => absurd (by decide) c⟩
    · rw [if_pos c] at h; exact h
    · rw [if_neg c] at h; exact h
  · rw [show jn 7 u v = gmax u v from rfl, mx] at h
    refine ⟨fun _ => ⟨fun _ => ⟨fun _ => ⟨fun c => absurd c (by decide), fun _ => ⟨fun _ => ⟨fun c => wb_R_both_71 hm ⟨fun _ => wb_R_both_82 hm ⟨fun c => absurd rfl c, fun _ => wb_R_both_90 hm ?_⟩, fun c => absurd (by decide) c⟩, fun c => wb_R_both_71 hm ⟨fun _ => wb_R_both_82 hm ⟨fun _ => wb_R_both_90 hm ?_, fun c => absurd (by decide) c⟩, fun c => absurd (by decide) c⟩⟩, fun c => absurd (by decide) c⟩⟩, fun c => absurd (by decide) c⟩, fun c => absurd (by decide) c⟩, fun c => absurd (by decide) c⟩
    · rw [if_pos c] at h; exact h
    · rw [if_neg c] at h; exact h
  · refine ⟨fun _ => ⟨fun _ => ⟨fun _ => ⟨fun c => absurd c (by decide), fun _ => ⟨fun c => absurd rfl c, fun _ => wb_R_both_38 hm ⟨fun c => ⟨fun _ => ⟨c, wb_R_both_60 hm ?_⟩, fun c2 => absurd (by decide) c2⟩, fun c => wb_R_both_60 hm ?_⟩⟩⟩, fun c => absurd (by decide) c⟩, fun c => absurd (by decide) c⟩, fun c => absurd (by decide) c⟩
    · rw [show jn 8 u v = if v = 0 then 0 else u - u / v * v from rfl, if_neg c] at h; exact h
    · rw [show jn 8 u v = if v = 0 then 0 else u - u / v * v from rfl, if_pos (Classical.not_not.mp c)] at h; exact h
set_option maxHeartbeats 1000000 in
theorem vn_4 {cs : CO} (h27 : I 0 27 = nI cs.length) (hA : ∀ i, i < cs.length → A 11 i = nI (cs.getD i (0, 0)).1 ∧ A 12 i = nI (cs.getD i (0, 0)).2) (hl : cs.length ≤ 150) (v : Int32) (hk : ∀ K, Q (some (.int v)) (gset H x mck P I (upC A 13 K))) : ∀ (m i t : Nat) (K : Nat → Int32), i + m = cs.length → chk (cs.drop i) t 1 → t ≤ 32 → run (A 14) (cs.drop i) t K 0 = v →
    gWp (gTab (tb_R_valueNow (meth (d + 1)))) Q X 4 [some (.ref (x + 0)), some (.int (nI t)), some (.int (nI i)), none] [] (gset H x mck P I (upC A 13 K)) := by
  have hm := @mo_R_valueNow (meth (d + 1)) (meth_smono (d + 1))
  intro m
  induction m with
  | zero =>
    intro i t K hi hc ht hv
    rw [List.drop_eq_nil_of_le (show cs.length ≤ i by omega)] at hv
    have hv : K 0 = v := hv
    refine wb_R_valueNow_4 hm ⟨fun _ => ⟨vpd (by decide), ?_⟩, fun c => absurd (by rw [h27]; exact nI_le (by omega) (by omega)) c⟩
    rw [upC_s, show ((0 : Int32)).toNatClampNeg = 0 from rfl, hv]
    exact hk K
  | succ m ih =>
    intro i t K hi hc ht hv
    rw [drop_g (show i < cs.length by omega)] at hc hv
    rw [run_s] at hv
    have iv : vp_in (nI i) 150 := vp_in_nI (by omega) (by omega)
    obtain ⟨a11, a12⟩ := hA i (by omega)
    refine wb_R_valueNow_4 hm ⟨fun c => absurd c (by rw [h27]; exact nI_ge (by omega) (by omega)), fun _ => ⟨iv, ?_⟩⟩
    rw [nI_clamp (by omega), upC_n (o := 13) (j := 11) (by decide), upC_n (o := 13) (j := 12) (by decide), upC_n (o := 13) (j := 14) (by decide), upC_s, a11, a12]
    generalize hcd : cs.getD i (0, 0) = c at hc hv ⊢
    have push : ∀ v3 u, t < 32 → chk (cs.drop (i + 1)) (t + 1) 1 → run (A 14) (cs.drop (i + 1)) (t + 1) (upd K t u) 0 = v → gWp (gTab (tb_R_valueNow (meth (d + 1)))) Q X 53 [some (.ref (x + 0)), some (.int (nI t)), some (.int (nI i)), some (.int v3)] [.int u, .int (nI t), .ref (x + 13)] (gset H x mck P I (upC A 13 K)) := by
      intro v3 u h32 hc2 hv2
      refine wb_R_valueNow_53 hm ⟨vp_in_nI (by omega) (by omega), wb_R_valueNow_89 hm ?_⟩
      rw [nI_clamp (by omega), upA_up, nI_1, nI_1]
      exact ih (i + 1) (t + 1) _ (by omega) hc2 (by omega) hv2
    rcases chk_t hc with ⟨c0, c1, c2, c3⟩ | ⟨c0, c1, c2, c3⟩ | ⟨c0, c1, c2, c3⟩
    · rw [if_pos c0] at hv
      rw [c0]
      refine ⟨fun q => absurd q (by decide), fun _ => ⟨fun q => absurd rfl q, fun _ => ⟨iv, push _ _ c2 c3 hv⟩⟩⟩
    · rw [if_neg (by omega), if_pos c0] at hv
      rw [c0, nI_clamp (by omega)]
      refine ⟨fun q => absurd q (by decide), fun _ => ⟨fun _ => ⟨iv, vp_in_nI (by omega) (by omega), push _ _ c2 c3 hv⟩, fun q => absurd (by decide) q⟩⟩
    · rw [if_neg (by omega), if_neg (by omega)] at hv
      rw [nI_m (by omega), show nI (t - 1) - 1 = nI (t - 2) by rw [show (1 : Int32) = nI 1 from rfl, nI_sub (by omega)]; congr 1, nI_clamp (by omega), nI_clamp (by omega)]
      refine ⟨fun _ => ⟨vp_in_nI (by omega) (by omega), vp_in_nI (by omega) (by omega), sp_R_both c0 c1 (wb_R_valueNow_88 hm ⟨vp_in_nI (by omega) (by omega), wb_R_valueNow_89 hm ?_⟩)⟩, fun q => absurd (by rw [show (1 : Int32) = nI 1 from rfl, nI_ltI (by omega) (by omega)]; omega) q⟩
      rw [nI_clamp (by omega), upA_up, nI_1]
      exact ih (i + 1) (t - 1) _ (by omega) c3 (by omega) hv
theorem clp_r {v : Int32} : clp v = if -99 ≤ v then if v ≤ 99 then v else 99 else -99 := by
  unfold clp gmin gmax
  by_cases h1 : v < 99
  · rw [if_pos h1]
    by_cases h2 : (-99 : Int32) < v
    · rw [if_pos h2, if_pos (Int32.le_of_lt h2), if_pos (Int32.le_of_lt h1)]
    · rw [if_neg h2]
      by_cases h3 : (-99 : Int32) ≤ v
      · rw [if_pos h3, if_pos (Int32.le_of_lt h1)]; exact Int32.le_antisymm h3 (Int32.not_lt.mp h2)
      · rw [if_neg h3]
  · rw [if_neg h1, if_pos (by decide)]
    have h2 : (99 : Int32) ≤ v := Int32.not_lt.mp h1
    rw [if_pos (Int32.le_trans (by decide) h2)]
    by_cases h3 : v ≤ 99
    · rw [if_pos h3]; exact Int32.le_antisymm h2 h3
    · rw [if_neg h3]
theorem sw_24 {v : Int32} (h : Q (some (.int (clp v))) (gset H x mck P I A)) : gWp (gTab (tb_R_swayNow (meth (d + 2)))) Q X 24 [some (.ref (x + 0)), none] [.int v] (gset H x mck P I A) := by
  have hm := @mo_R_swayNow (meth (d + 2)) (meth_smono (d + 2))
  rw [clp_r] at h
  refine wb_R_swayNow_24 hm ⟨fun c => ⟨fun c2 => wb_R_swayNow_48 hm ?_, fun c2 => wb_R_swayNow_48 hm ?_⟩, fun c => wb_R_swayNow_48 hm ?_⟩
  · rw [if_pos c, if_pos c2] at h; exact h
  · rw [if_pos c, if_neg c2] at h; exact h
  · rw [if_neg c] at h; exact h
theorem RLawAt_of {cs : CO} (h : rcodeL cs I A) (hl : cs.length ≤ 150) (hc : chk cs 0 1) : RLawAt I A (lev cs) := by
  intro d Q X H x P I' A' e1 e2 e3 hk
  have hm := @mo_R_swayNow (meth (d + 2)) (meth_smono (d + 2))
  have hne : 0 < cs.length := by
    cases cs with
    | nil => exact absurd (show (0 : Nat) = 1 from hc) (by decide)
    | cons c cs => simp
  have j27 : I' 0 27 = nI cs.length := e1.trans h.1
  refine me_R_swayNow (wb_R_swayNow_0 hm ⟨fun _ => ?_, fun c => absurd (by rw [j27]; exact nI_ne0 (by omega) (by omega)) c⟩)
  have hm2 := @mo_R_valueNow (meth (d + 1)) (meth_smono (d + 1))
  refine me_R_valueNow (wb_R_valueNow_0 hm2 ?_)
  have := vn_4 (d := d) (Q := fun r H' => gWp (gTab (tb_R_swayNow (meth (d + 2)))) Q X 24 [some (.ref (x + 0)), none] (r.toList ++ []) H') (X := X) (H := H) (x := x) (P := P) (I := I') (A := A') (cs := cs) j27 (by rw [e2, e3]; exact h.2) hl (run (A' 14) cs 0 (fun _ => 0) 0) (fun K => sw_24 (hk K)) cs.length 0 0 (A' 13) (by omega) (by rw [List.drop_zero]; exact hc) (by omega) (by rw [List.drop_zero]; exact run_c (fun _ _ => rfl) cs 0 1 _ _ hc (fun j hj => absurd hj (Nat.not_lt_zero j)) 0 (by omega))
  rw [upC_id] at this
  exact this
theorem RLawAt_plain (h : I 0 27 = 0) : RLawAt I A (lev plainC) := by
  intro d Q X H x P I' A' e1 e2 e3 hk
  have hm := @mo_R_swayNow (meth (d + 2)) (meth_smono (d + 2))
  refine me_R_swayNow (wb_R_swayNow_0 hm ⟨fun c => absurd (e1.trans h) c, fun _ => ⟨vpd (by decide), ?_⟩⟩)
  have := hk (A' 13)
  rw [upC_id, plain_ev, Int32.mul_comm] at this
  exact sw_24 this
end L2EV
