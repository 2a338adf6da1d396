/-! ===== L2: a step of a work ===== -/
def mv (f : Nat → Int32) (a c : Nat) (k : Int32) : Nat → Int32 := upd (upd f a (f a - k)) c (upd f a (f a - k) c + k)
def wmove (w : WS) (a c : Nat) (k : Int32) : WS := (mv (wV w) a c k, mv (wB w) a c k, w.2.2.1, w.2.2.2.1, w.2.2.2.2.1, w.2.2.2.2.2.1, w.2.2.2.2.2.2)
def wpart (w : WS) (a : Nat) : WS := (wV w, wB w, upd w.2.2.1 a (1 - w.2.2.1 a), w.2.2.2.1, w.2.2.2.2.1, w.2.2.2.2.2.1, w.2.2.2.2.2.2)
def wYear (w : WS) : Int32 := w.2.2.2.2.2.2
def wnext (w : WS) : WS := (wV w, wB w, w.2.2.1, w.2.2.2.1, w.2.2.2.2.1, w.2.2.2.2.2.1, wYear w + 1)
def wYok (w : WS) : Prop := ∃ y, y ≤ 400 ∧ wYear w = nI y
/-- the kinds: 0 move, 1 school, 2 fly, 3 vote, 4 year -/
def wstep (ev : (Nat → Int32) → Int32) (C N : Nat → Int32) (n : Nat) (w : WS) (s a c : Nat) (k : Int32) : WS × Int32 :=
  match s with
  | 0 => if wcanI w a c k = 0 then (w, 0) else (wmove w a c k, 1)
  | 1 => (wpart w a, 1)
  | 2 => (wFlip w, 1)
  | 3 => (wvote ev C N n w, 1)
  | _ => if wYear w = 400 then (w, 0) else (wnext w, 1)
theorem rs_mv {n a c : Nat} {f : Nat → Int32} {k : Int32} (ha : a < n) (hc : c < n) : rs n (mv f a c k) = mv (rs n f) a c k := by
  unfold mv
  rw [rs_upd hc, rs_upd ha, rs_at ha]
  congr 1
  by_cases h : c = a
  · rw [h, upd_at, upd_at]
  · rw [upd_ne h, upd_ne h, rs_at hc]
theorem part_flip {x : Int32} {n a : Nat} (ha : a < n) (hn : n ≤ 8) : rs n (fun t => ((x ^^^ ((1 : Int32) <<< (nI a &&& 31))) >>> (nI t &&& 31)) &&& 1) = upd (rs n (fun t => (x >>> (nI t &&& 31)) &&& 1)) a (1 - rs n (fun t => (x >>> (nI t &&& 31)) &&& 1) a) := by
  rw [← rs_upd ha]
  refine rs_c (fun t ht => ?_)
  rw [b_at (by omega), b_xor, b_1shl (by omega) (by omega)]
  by_cases h : t = a
  · subst h
    rw [upd_at, rs_at ha, b_at (by omega)]
    cases bt x t <;> simp
  · rw [upd_ne h, b_at (by omega), decide_eq_false h, Bool.xor_false]
theorem rW_move {n a c : Nat} {s : Nat → Int32} {k : Int32} (ha : a < n) (hc : c < n) (hn : n ≤ 8) {s' : Nat → Int32} (h1 : ∀ t, t < 8 → s' t = mv s a c k t) (h2 : ∀ t, t < 8 → s' (8 + t) = mv (fun t => s (8 + t)) a c k t) (h3 : ∀ j, 16 ≤ j → s' j = s j) : rW n s' = wmove (rW n s) a c k := by
  unfold rW wmove
  rw [rs_c (f := s') (g := mv s a c k) (fun t ht => h1 t (by omega)), rs_mv ha hc, rs_c (f := fun t => s' (8 + t)) (g := mv (fun t => s (8 + t)) a c k) (fun t ht => h2 t (by omega)), rs_mv ha hc, rs_c (f := fun t => s' (16 + t)) (g := fun t => s (16 + t)) (fun t ht => h3 _ (by omega)), h3 24 (by omega), h3 25 (by omega), h3 26 (by omega), h3 27 (by omega)]
  rfl
theorem rW_part {n a : Nat} {s : Nat → Int32} (ha : a < n) (hn : n ≤ 8) : rW n (upd s (16 + a) (1 - s (16 + a))) = wpart (rW n s) a := by
  unfold rW wpart
  have e1 : rs n (upd s (16 + a) (1 - s (16 + a))) = rs n s := rs_c (fun j hj => upd_ne (by omega))
  have e2 : rs n (fun j => upd s (16 + a) (1 - s (16 + a)) (8 + j)) = rs n (fun j => s (8 + j)) := rs_c (fun j hj => upd_ne (by omega))
  have e3 : rs n (fun j => upd s (16 + a) (1 - s (16 + a)) (16 + j)) = upd (rs n (fun j => s (16 + j))) a (1 - rs n (fun j => s (16 + j)) a) := by
    rw [← rs_upd ha]
    refine rs_c (fun j hj => ?_)
    by_cases h : j = a
    · rw [h, upd_at, upd_at, rs_at ha]
    · rw [upd_ne h, upd_ne (by omega)]
  rw [e1, e2, e3, upd_ne (by omega), upd_ne (by omega), upd_ne (by omega), upd_ne (by omega)]
  rfl
theorem rW_next {n : Nat} {s : Nat → Int32} (hn : n ≤ 8) : rW n (upd s 27 (s 27 + 1)) = wnext (rW n s) := by
  unfold rW wnext
  have e1 : rs n (upd s 27 (s 27 + 1)) = rs n s := rs_c (fun j hj => upd_ne (by omega))
  have e2 : rs n (fun j => upd s 27 (s 27 + 1) (8 + j)) = rs n (fun j => s (8 + j)) := rs_c (fun j hj => upd_ne (by omega))
  have e3 : rs n (fun j => upd s 27 (s 27 + 1) (16 + j)) = rs n (fun j => s (16 + j)) := rs_c (fun j hj => upd_ne (by omega))
  rw [e1, e2, e3, upd_at, upd_ne (by omega), upd_ne (by omega), upd_ne (by omega)]
  rfl
section L2N
variable {d : Nat} {Q : gQ} {X : gX} {H : gH} {x : Nat} {P : Nat → Nat} {I A : Nat → Nat → Int32}
theorem sp_World_move {o n a c : Nat} {k : Int32} (ho : cck o = (8 + 2, 0)) (hn8 : n ≤ 8) (hw : wOk n (cW n I A o)) (ha : a < n) (hc : c < n) (h0 : wcanI (cW n I A o) a c k = 0 → Q (some (.int 0)) (gset H x cck P I A)) (h1 : wcanI (cW n I A o) a c k ≠ 0 → ∀ A', Fr [o + 1, o + 2] A A' → cW n I A' o = wmove (cW n I A o) a c k → Q (some (.int 1)) (gset H x cck P I A')) : meth (d + 3) m_World_move [.ref (x + o), .int (nI a), .int (nI c), .int k] (gset H x cck P I A) Q X := by
  have hm := @mo_World_move (meth (d + 2)) (meth_smono (d + 2))
  have ia : vp_in (nI a) 8 := vp_in_nI (by omega) (by omega)
  have ic : vp_in (nI c) 8 := vp_in_nI (by omega) (by omega)
  refine me_World_move (wb_World_move_0 hm ho (sp_World_movable ho hn8 hw ha hc (wb_World_move_7 hm ho ⟨fun q => ⟨ia, ia, ia, ia, ic, ic, ic, ic, rfl, ?_⟩, fun q => ⟨rfl, h0 (Classical.not_not.mp q)⟩⟩)))
  rw [nI_clamp (by omega), nI_clamp (by omega)]
  refine h1 q _ (fr_A (fr_A (fr_A (fr_A fr_r (by simp)) (by simp)) (by simp)) (by simp)) ?_
  unfold cW wmove
  rw [show wV (rs n (A (o + 1)), rs n (A (o + 2)), rs n (fun t => (I o 3 >>> (nI t &&& 31)) &&& 1), I o 4, I o 5, I o 6, I o 7) = rs n (A (o + 1)) from rfl, show wB (rs n (A (o + 1)), rs n (A (o + 2)), rs n (fun t => (I o 3 >>> (nI t &&& 31)) &&& 1), I o 4, I o 5, I o 6, I o 7) = rs n (A (o + 2)) from rfl, ← rs_mv ha hc, ← rs_mv ha hc]
  simp [upA, mv]
theorem sp_World_nextYear {o : Nat} {y : Nat} (ho : cck o = (8 + 2, 0)) (hy : I o 7 = nI y) (hy4 : y ≤ 400) (h0 : I o 7 = 400 → Q (some (.int 0)) (gset H x cck P I A)) (h1 : I o 7 ≠ 400 → Q (some (.int 1)) (gset H x cck P (upI I o 7 (I o 7 + 1)) A)) : meth (d + 1) m_World_nextYear [.ref (x + o)] (gset H x cck P I A) Q X := by
  have hm := @mo_World_nextYear (meth d) (meth_smono d)
  refine me_World_nextYear (wb_World_nextYear_0 hm ho ⟨fun c => ⟨rfl, h1 (fun q => ?_)⟩, fun c => ⟨rfl, h0 ?_⟩⟩)
  · rw [q] at c; exact absurd c (by decide)
  · rw [hy] at c ⊢
    have : ¬ y < 400 := fun q => c (nI_lt (b := 400) q (by omega))
    rw [show y = 400 by omega]
    rfl
theorem tsw_at {s df : Nat} {ts : List Nat} (hs : s < 2 ^ 31) : (if (nI s).toInt < 0 ∨ 0 + (ts.length : Int) ≤ (nI s).toInt then df else ts.getD ((nI s).toInt - 0).toNat df) = ts.getD s df := by
  rw [nI_toInt hs]
  by_cases h : s < ts.length
  · rw [if_neg (by omega)]
    congr 1
  · rw [if_pos (by omega), List.getD_eq_getElem?_getD, List.getElem?_eq_none (by omega)]
    rfl
set_option maxHeartbeats 1000000 in
theorem sp_Deeds_enactStep {o l q n at_ s a c : Nat} {ev : (Nat → Int32) → Int32} (ho : cck o = (8 + 2, 0)) (hla : LandOk I A l n) (hq : cck q = (4 + 2, 0)) (hL : LawAt I A q ev) (hev : evOk ev) (hw : wOk n (cW n I A o)) (hy : wYok (cW n I A o)) (hat : at_ < 38) (hs : s ≤ 4) (e36 : A 36 at_ = nI s) (ea : s ≤ 1 → a < n ∧ A 37 at_ = nI a) (ec : s = 0 → c < n ∧ A 38 at_ = nI c)
    (h : ∀ I' A' r, Fr [o] I I' → Fr [o + 1, o + 2, o + 3, q + 2, q + 3] A A' → (cW n I' A' o, r) = wstep ev (A (l + 1)) (A (l + 2)) n (cW n I A o) s a c (A 39 at_) → Q (some (.int r)) (gset H x cck P I' A')) : meth (d + 6) m_Deeds_enactStep [.ref (x + 35), .ref (x + o), .ref (x + l), .ref (x + q), .int (nI at_)] (gset H x cck P I A) Q X := by
  have hm := @mo_Deeds_enactStep (meth (d + 5)) (meth_smono (d + 5))
  have ia : vp_in (nI at_) 38 := vp_in_nI (by omega) (by omega)
  have dW := cck_W ho
  refine me_Deeds_enactStep (wb_Deeds_enactStep_0 hm ⟨ia, ?_⟩)
  rw [nI_clamp (by omega), e36, tsw_at (by omega)]
  rcases (show s = 0 ∨ s = 1 ∨ s = 2 ∨ s = 3 ∨ s = 4 by omega) with rfl | rfl | rfl | rfl | rfl
  · refine wb_Deeds_enactStep_36 hm ho ⟨ia, ia, ia, ?_⟩
    rw [nI_clamp (by omega), (ea (by omega)).2, (ec rfl).2]
    refine sp_World_move (d := d + 2) ho hla.2.2.1 hw (ea (by omega)).1 (ec rfl).1 (fun z => wb_Deeds_enactStep_61 hm ⟨rfl, h I A 0 fr_r fr_r ?_⟩) (fun z A' f1 f2 => wb_Deeds_enactStep_61 hm ⟨rfl, h I A' 1 fr_r (fr_m f1 (by simp)) ?_⟩)
    · show _ = (if _ = 0 then _ else _)
      rw [if_pos z]
    · show _ = (if _ = 0 then _ else _)
      rw [if_neg z, f2]
  · refine wb_Deeds_enactStep_62 hm ho ⟨ia, rfl, ?_⟩
    rw [nI_clamp (by omega), (ea (by omega)).2]
    refine h _ A 1 (fr_I fr_r (by simp)) fr_r ?_
    show _ = (wpart _ a, 1)
    congr 1
    unfold cW wpart
    rw [upI_s, part_flip (ea (by omega)).1 hla.2.2.1, upI_f (by omega), upI_f (by omega), upI_f (by omega), upI_f (by omega)]
    rfl
  · refine wb_Deeds_enactStep_82 hm ho (sp_World_flip (d := d + 4) ho (wb_Deeds_enactStep_86 hm ⟨rfl, h _ A 1 (fr_I fr_r (by simp)) fr_r ?_⟩))
    show _ = (wFlip _, 1)
    congr 1
    unfold cW wFlip
    rw [upI_s, upI_f (by omega), upI_f (by omega), upI_f (by omega), upI_f (by omega)]
    rfl
  · refine wb_Deeds_enactStep_88 hm ho (sp_World_holdVote (d := d) ho hla.1 hq hla.2.1 hla.2.2.1 hL hev hla.2.2.2.1 hla.2.2.2.2 (fun I' A' f1 _ f2 e => wb_Deeds_enactStep_94 hm ⟨rfl, h I' A' 1 f1 (fr_m f2 (by simp)) ?_⟩))
    rw [e]
    rfl
  · obtain ⟨y, hy4, ey⟩ := hy
    refine wb_Deeds_enactStep_96 hm ho (sp_World_nextYear (d := d + 4) ho ey hy4 (fun z => wb_Deeds_enactStep_100 hm ⟨rfl, h I A 0 fr_r fr_r ?_⟩) (fun z => wb_Deeds_enactStep_100 hm ⟨rfl, h _ A 1 (fr_I fr_r (by simp)) fr_r ?_⟩))
    · show _ = (if _ = 400 then _ else _)
      rw [if_pos (show wYear (cW n I A o) = 400 from z)]
    · show _ = (if _ = 400 then _ else _)
      rw [if_neg (show ¬ wYear (cW n I A o) = 400 from z)]
      congr 1
      unfold cW wnext
      rw [upI_s, upI_f (by omega), upI_f (by omega), upI_f (by omega), upI_f (by omega)]
      rfl
set_option maxHeartbeats 1000000 in
theorem sp_R_goes {n m s a c : Nat} {ai ci k : Int32} {C N : Nat → Int32} {ev : (Nat → Int32) → Int32} (hla : RLandOk I A n m C N) (hL : RLawAt I A ev) (hev : evOk ev) (hw : wOk n (rW n (A 18))) (hs : s ≤ 4) (ea : s ≤ 1 → a < n ∧ ai = nI a) (ec : s = 0 → c < n ∧ ci = nI c)
    (h : ∀ A' r, Fr [13, 14, 18, 20] A A' → (rW n (A' 18), r) = wstep ev C N n (rW n (A 18)) s a c k → Q (some (.int r)) (gset H x mck P I A')) : meth (d + 7) m_R_goes [.ref (x + 0), .int (nI s), .int ai, .int ci, .int k] (gset H x mck P I A) Q X := by
  have hm := @mo_R_goes (meth (d + 6)) (meth_smono (d + 6))
  have hn8 := hla.2.1
  have hV : ∀ t, t < n → 0 ≤ A 18 t := fun t ht => by
    obtain ⟨v, b, _, _, _, ev, _⟩ := hw t ht
    rw [show wV (rW n (A 18)) t = A 18 t from rs_at ht] at ev
    rw [ev]; exact nI_pos' (by omega)
  have ne : ∀ {i j : Nat}, i ≤ 4 → j < 10 → i ≠ j → ¬ nI i = nI j := fun h1 h2 h3 q => h3 ((nI_eq (by omega) (by omega)).mp q)
  refine me_R_goes (wb_R_goes_0 hm ⟨fun z0 => ?_, fun z0 => ?_⟩)
  · have s0 : s ≠ 0 := fun q => z0 (by rw [q]; rfl)
    -- behind the school
    have t98 : s ≠ 1 → gWp (gTab (tb_R_goes (meth (d + 6)))) Q X 98 [some (.ref (x + 0)), some (.int (nI s)), some (.int ai), some (.int ci), some (.int k)] [] (gset H x mck P I A) := by
      intro s1
      have t119 : s ≠ 2 → gWp (gTab (tb_R_goes (meth (d + 6)))) Q X 119 [some (.ref (x + 0)), some (.int (nI s)), some (.int ai), some (.int ci), some (.int k)] [] (gset H x mck P I A) := by
        intro s2
        refine wb_R_goes_119 hm ⟨fun z => ?_, fun z => ?_⟩
        · have s4 : s = 4 := by
            have : s ≠ 3 := fun q => z (by rw [q]; rfl)
            omega
          subst s4
          refine wb_R_goes_128 hm ⟨fun _ => ⟨vpd (by decide), fun y => ⟨vpd (by decide), vpd (by decide), rfl, ?_⟩, fun y => ⟨rfl, h A 0 fr_r ?_⟩⟩, fun q => absurd rfl q⟩
          · have e27 : (27 : Int32).toNatClampNeg = 27 := rfl
            rw [e27] at y ⊢
            refine h _ 1 (fr_A fr_r (by decide)) ?_
            rw [upA_s, rW_next hn8]
            show _ = (if _ = 400 then _ else _)
            rw [if_neg (show ¬ wYear (rW n (A 18)) = 400 from y)]
          · show _ = (if _ = 400 then _ else _)
            rw [if_pos (show wYear (rW n (A 18)) = 400 from Classical.not_not.mp y)]
        · have s3 : s = 3 := (nI_eq (by omega) (by omega)).mp (show nI s = nI 3 from Classical.not_not.mp z)
          subst s3
          refine sp_R_votes (d := d) hL hev hla.1 hn8 hla.2.2.1 hla.2.2.2.1 hla.2.2.2.2.1 hla.2.2.2.2.2 hV (fun A' f1 e => wb_R_goes_128 hm ⟨fun q => absurd q (by decide), fun _ => ⟨rfl, h A' 1 f1 ?_⟩⟩)
          rw [e]
          rfl
      refine wb_R_goes_98 hm ⟨fun z => t119 (fun q => z (by rw [q]; rfl)), fun z => ⟨vpd (by decide), vpd (by decide), ?_⟩⟩
      have s2 : s = 2 := (nI_eq (by omega) (by omega)).mp (show nI s = nI 2 from Classical.not_not.mp z)
      subst s2
      have e24 : (24 : Int32).toNatClampNeg = 24 := rfl
      rw [e24]
      refine wb_R_goes_119 hm ⟨fun _ => wb_R_goes_128 hm ⟨fun q => absurd q (by decide), fun _ => ⟨rfl, h _ 1 (fr_A fr_r (by decide)) ?_⟩⟩, fun q => absurd (by decide) q⟩
      rw [upA_s, rW_F hn8]
      rfl
    refine ⟨fun z => t98 (fun q => z (by rw [q]; rfl)), fun z => ?_⟩
    have s1 : s = 1 := (nI_eq (by omega) (by omega)).mp (show nI s = nI 1 from Classical.not_not.mp z)
    subst s1
    rw [(ea (by omega)).2]
    have ha := (ea (by omega)).1
    refine ⟨by rw [n_16]; exact vp_in_nI (by omega) (by omega), by rw [n_16]; exact vp_in_nI (by omega) (by omega), ?_⟩
    rw [n_16, nI_clamp (by omega)]
    refine wb_R_goes_98 hm ⟨fun _ => wb_R_goes_119 hm ⟨fun _ => wb_R_goes_128 hm ⟨fun q => absurd q (by decide), fun _ => ⟨rfl, h _ 1 (fr_A fr_r (by decide)) ?_⟩⟩, fun q => absurd (by decide) q⟩, fun q => absurd (by decide) q⟩
    rw [upA_s, rW_part ha hn8]
    rfl
  · have s0 : s = 0 := (nI_eq (by omega) (by omega)).mp (show nI s = nI 0 from Classical.not_not.mp z0)
    subst s0
    rw [(ea (by omega)).2, (ec rfl).2]
    have ha := (ea (by omega)).1
    have hc := (ec rfl).1
    have i1 : vp_in ((0 : Int32) + nI a) 28 := by rw [n_z]; exact vp_in_nI (by omega) (by omega)
    have i2 : vp_in ((8 : Int32) + nI a) 28 := by rw [n_8]; exact vp_in_nI (by omega) (by omega)
    have i3 : vp_in ((0 : Int32) + nI c) 28 := by rw [n_z]; exact vp_in_nI (by omega) (by omega)
    have i4 : vp_in ((8 : Int32) + nI c) 28 := by rw [n_8]; exact vp_in_nI (by omega) (by omega)
    refine sp_R_canMove (d := d + 5) hn8 hw ha hc (wb_R_goes_12 hm ⟨fun z => ⟨i1, i1, i2, i2, i3, i3, i4, i4, rfl, ?_⟩, fun z => ⟨rfl, h A 0 fr_r ?_⟩⟩)
    · rw [n_z, n_z, n_8, n_8, nI_clamp (by omega), nI_clamp (by omega), nI_clamp (by omega), nI_clamp (by omega)]
      refine h _ 1 (fr_A (fr_A (fr_A (fr_A fr_r (by decide)) (by decide)) (by decide)) (by decide)) ?_
      show _ = (if _ = 0 then _ else _)
      rw [if_neg z]
      congr 1
      refine rW_move ha hc hn8 (fun t ht => ?_) (fun t ht => ?_) (fun j hj => ?_)
      · simp only [upA_s, mv, upd]
        repeat' split
        all_goals first | rfl | omega
      · simp only [upA_s, mv, upd]
        repeat' split
        all_goals first | rfl | omega
      · simp only [upA_s]
        rw [upd_ne (by omega), upd_ne (by omega), upd_ne (by omega), upd_ne (by omega)]
    · show _ = (if _ = 0 then _ else _)
      rw [if_pos (Classical.not_not.mp z)]
end L2N
