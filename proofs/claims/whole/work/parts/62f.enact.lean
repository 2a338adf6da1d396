/-! ===== L2: a work runs: both machines ===== -/
def cPg (A : Nat → Nat → Int32) (g : PG) (i : Nat) : Prop := A 36 i = nI (g.1 i) ∧ (g.1 i ≤ 1 ∨ g.1 i = 5 → A 37 i = nI (g.2.1 i)) ∧ (g.1 i = 0 ∨ g.1 i = 5 → A 38 i = nI (g.2.2.1 i)) ∧ (g.1 i = 0 → A 39 i = g.2.2.2 i)
def rPg (A : Nat → Nat → Int32) (g : PG) (i : Nat) : Prop := A 16 (4 * i) = nI (g.1 i) ∧ (g.1 i ≤ 1 ∨ g.1 i = 5 → A 16 (4 * i + 1) = nI (g.2.1 i)) ∧ (g.1 i = 0 → A 16 (4 * i + 2) = nI (g.2.2.1 i)) ∧ (g.1 i = 5 → A 16 (4 * i + 2) = nI (4 * g.2.2.1 i)) ∧ (g.1 i = 0 → A 16 (4 * i + 3) = g.2.2.2 i)
theorem wstep_k {ev : (Nat → Int32) → Int32} {C N : Nat → Int32} {n s a c : Nat} {w : WS} {k k' : Int32} (h : s = 0 → k = k') : wstep ev C N n w s a c k = wstep ev C N n w s a c k' := by
  cases s with
  | zero => rw [h rfl]
  | succ s => cases s with
    | zero => simp only [wstep]
    | succ s => cases s with
      | zero => simp only [wstep]
      | succ s => cases s with
        | zero => simp only [wstep]
        | succ s => simp only [wstep]
def eRep (n q : Nat) (I0 A0 : Nat → Nat → Int32) (z : PS) (I A : Nat → Nat → Int32) : Prop := Fr [13, 35] I0 I ∧ Fr [14, 15, 16, q + 2, q + 3] A0 A ∧ cW n I A 13 = z.1 ∧ I 35 5 = nI z.2.1 ∧ I 35 6 = z.2.2.1 ∧ I 35 7 = z.2.2.2 ∧ I 35 4 = I0 35 4 ∧ pOk n z
def fI (I0 I : Nat → Nat → Int32) : Prop := ∀ j, j ≠ 34 → j ≠ 35 → j ≠ 36 → I 0 j = I0 0 j
def sRep (n : Nat) (I0 A0 : Nat → Nat → Int32) (z : PS) (I A : Nat → Nat → Int32) : Prop := fI I0 I ∧ Fr [13, 14, 18, 20] A0 A ∧ rW n (A 18) = z.1 ∧ I 0 34 = nI z.2.1 ∧ I 0 35 = z.2.2.1 ∧ I 0 36 = z.2.2.2 ∧ pOk n z
section L2E
variable {H : gH} {x : Nat} {P : Nat → Nat} {I0 A0 : Nat → Nat → Int32} {n l q sz m : Nat} {ev : (Nat → Int32) → Int32} {g : PG} {C N : Nat → Int32}
set_option maxHeartbeats 1000000 in
theorem en_loop (hla : LandOk I0 A0 l n) (hq : cck q = (4 + 2, 0)) (hL : LawAt I0 A0 q ev) (hev : evOk ev) (hsz : sz ≤ 38) (hg : ∀ i, i < sz → cPg A0 g i) : ∀ (f dep i to : Nat), pwf n g f dep i to → to ≤ sz → dep ≤ 6 → ∀ (d cnt : Nat) (v4 : Int32) (z : PS) (I A : Nat → Nat → Int32) (Q : gQ) (X : gX), cnt ≤ i → eRep n q I0 A0 z I A → (∀ I' A', eRep n q I0 A0 (prun ev (A0 (l + 1)) (A0 (l + 2)) n g f i to z) I' A' → Q none (gset H x cck P I' A')) →
    gWp (gTab (tb_Deeds_enact (meth (d + dep + 6)))) Q X 7 [some (.ref (x + 35)), some (.ref (x + 13)), some (.ref (x + l)), some (.ref (x + q)), some (.int v4), some (.int (nI to)), some (.int (nI (6 - dep))), some (.int (nI i)), some (.int (nI cnt)), none] [] (gset H x cck P I A) := by
  have dL := cck_L hla.1
  have dQ := cck_Q hq
  intro f
  induction f with
  | zero =>
    intro dep i to hp hto hd d cnt v4 z I A Q X hc hz h
    have hm := @mo_Deeds_enact (meth (d + dep + 6)) (meth_smono (d + dep + 6))
    have e : i = to := hp
    exact wb_Deeds_enact_7 hm ⟨fun _ => wb_Deeds_enact_186 hm (h I A hz), fun _ => ⟨fun _ => wb_Deeds_enact_186 hm (h I A hz), fun c => absurd (nI_le (by omega) (by omega)) c⟩⟩
  | succ f ih =>
    intro dep i to hp hto hd d cnt v4 z I A Q X hc hz h
    have hm := @mo_Deeds_enact (meth (d + dep + 6)) (meth_smono (d + dep + 6))
    have hit : i ≤ to := by rcases hp with hp | ⟨hp, _⟩ <;> omega
    by_cases cx : to ≤ i ∨ 200 ≤ z.2.1
    · have e : prun ev (A0 (l + 1)) (A0 (l + 2)) n g (f + 1) i to z = z := by unfold prun; rw [if_pos cx]
      rw [e] at h
      refine wb_Deeds_enact_7 hm ⟨fun _ => wb_Deeds_enact_186 hm (h I A hz), fun _ => ⟨fun _ => wb_Deeds_enact_186 hm (h I A hz), fun c => ⟨fun _ => wb_Deeds_enact_186 hm (h I A hz), fun _ => ⟨fun _ => wb_Deeds_enact_186 hm (h I A hz), fun c2 => ?_⟩⟩⟩⟩
      rcases cx with cx | cx
      · exact absurd (nI_le cx (by omega)) c
      · have hz2 := hz.2.2.2.2.2.2.2.2.2
        exact absurd (by rw [hz.2.2.2.1]; exact nI_le (a := 200) cx (by omega)) c2
    · rcases hp with hp | ⟨hlt, hk⟩
      · omega
      · obtain ⟨f1, f2, z1, z2, z3, z4, z5, zo⟩ := hz
        have e36 : A 36 = A0 36 := f2 36 (by simp; omega)
        have e37 : A 37 = A0 37 := f2 37 (by simp; omega)
        have e38 : A 38 = A0 38 := f2 38 (by simp; omega)
        have e39 : A 39 = A0 39 := f2 39 (by simp; omega)
        have hgi := hg i (by omega)
        have iv : vp_in (nI i) 38 := vp_in_nI (by omega) (by omega)
        have zb := zo.2.2
        have fz : Fr [13, 35] I0 (upI I 35 5 (nI (z.2.1 + 1))) := fr_I f1 (by simp)
        refine wb_Deeds_enact_7 hm ⟨fun c => absurd c (nI_ge (b := 38) (by omega) (by omega)), fun _ => ⟨fun c => absurd c (nI_ge (by omega) (by omega)), fun _ => ⟨fun c => absurd c (nI_ge (b := 38) (by omega) (by omega)), fun _ => ⟨fun c => absurd c (by rw [z2]; exact nI_ge (b := 200) (by omega) (by omega)), fun _ => ⟨iv, ?_⟩⟩⟩⟩⟩
        rw [nI_clamp (by omega), e36, hgi.1, z2, nI_1]
        rcases hk with ⟨h5, hd1, h30, hs1, hs2, p1, p2⟩ | ⟨h4, ha, hc0, p2⟩
        · have e : prun ev (A0 (l + 1)) (A0 (l + 2)) n g (f + 1) i to z = prun ev (A0 (l + 1)) (A0 (l + 2)) n g f (g.2.2.1 i) to (prep (prun ev (A0 (l + 1)) (A0 (l + 2)) n g f (i + 1) (g.2.2.1 i)) (g.2.1 i) (z.1, z.2.1 + 1, z.2.2.1, z.2.2.2)) := by
            rw [prun, if_neg cx, if_pos h5]
          rw [e] at h
          refine ⟨fun _ => ?_, fun c => absurd (by rw [h5]; rfl) c⟩
          obtain ⟨dp, rfl⟩ : ∃ dp, dep = dp + 1 := ⟨dep - 1, by omega⟩
          have key : ∀ j, j ≤ g.2.1 i → ∀ (z' : PS) (I' A' : Nat → Nat → Int32), eRep n q I0 A0 z' I' A' → (∀ I2 A2, eRep n q I0 A0 (prun ev (A0 (l + 1)) (A0 (l + 2)) n g f (g.2.2.1 i) to (prep (prun ev (A0 (l + 1)) (A0 (l + 2)) n g f (i + 1) (g.2.2.1 i)) (g.2.1 i - j) z')) I2 A2 → Q none (gset H x cck P I2 A2)) → gWp (gTab (tb_Deeds_enact (meth (d + (dp + 1) + 6)))) Q X 117 [some (.ref (x + 35)), some (.ref (x + 13)), some (.ref (x + l)), some (.ref (x + q)), some (.int v4), some (.int (nI to)), some (.int (nI (6 - (dp + 1)))), some (.int (nI i)), some (.int (nI cnt)), some (.int (nI j))] [] (gset H x cck P I' A') := by
            refine gdown ?_ ?_
            · intro z' I' A' hz' h'
              have g37 : A' 37 i = nI (g.2.1 i) := by rw [hz'.2.1 37 (by simp; omega)]; exact hgi.2.1 (Or.inr h5)
              have g38 : A' 38 i = nI (g.2.2.1 i) := by rw [hz'.2.1 38 (by simp; omega)]; exact hgi.2.2.1 (Or.inr h5)
              refine wb_Deeds_enact_117 hm ⟨iv, fun _ => wb_Deeds_enact_164 hm ⟨iv, wb_Deeds_enact_180 hm ?_⟩, fun c => absurd (by rw [nI_clamp (by omega), g37]; exact nI_le (Nat.le_refl _) (by omega)) c⟩
              rw [nI_clamp (by omega), g38, nI_1, gmax_n (by omega) (by omega), Nat.max_eq_right hs1, nI_1]
              rw [Nat.sub_self] at h'
              exact ih (dp + 1) (g.2.2.1 i) to p2 hto hd d (cnt + 1) v4 z' I' A' Q X (by omega) hz' h'
            · intro j hj ihj z' I' A' hz' h'
              have g37 : A' 37 i = nI (g.2.1 i) := by rw [hz'.2.1 37 (by simp; omega)]; exact hgi.2.1 (Or.inr h5)
              have g38 : A' 38 i = nI (g.2.2.1 i) := by rw [hz'.2.1 38 (by simp; omega)]; exact hgi.2.2.1 (Or.inr h5)
              refine wb_Deeds_enact_117 hm ⟨iv, fun c => absurd c (by rw [nI_clamp (by omega), g37]; exact nI_ge hj (by omega)), fun _ => ⟨fun c => absurd c (nI_ge (b := 6) (by omega) (by omega)), fun _ => ⟨iv, ?_⟩⟩⟩
              rw [nI_clamp (by omega), g38, nI_1, nI_1, show 6 - (dp + 1) + 1 = 6 - dp by omega, show d + (dp + 1) + 6 = (d + dp + 6) + 1 by omega]
              refine me_Deeds_enact (wb_Deeds_enact_0 (@mo_Deeds_enact (meth (d + dp + 6)) (meth_smono (d + dp + 6))) (ih dp (i + 1) (g.2.2.1 i) p1 (by omega) (by omega) d 0 _ z' I' A' _ X (by omega) hz' (fun I2 A2 hz2 => ?_)))
              rw [show (d + dp + 6) + 1 = d + (dp + 1) + 6 by omega]
              refine wb_Deeds_enact_158 hm ?_
              rw [nI_1]
              refine ihj _ I2 A2 hz2 ?_
              rw [show g.2.1 i - j = (g.2.1 i - (j + 1)) + 1 by omega] at h'
              exact h'
          exact key 0 (Nat.zero_le _) (z.1, z.2.1 + 1, z.2.2.1, z.2.2.2) _ A ⟨fz, f2, by rw [← z1]; unfold cW; simp only [upI_n (show (13 : Nat) ≠ 35 by decide)], upI_s, by rw [upI_f (by decide), z3], by rw [upI_f (by decide), z4], by rw [upI_f (by decide), z5], zo.1, zo.2.1, by show z.2.1 + 1 ≤ 200; omega⟩ h
        · have e : prun ev (A0 (l + 1)) (A0 (l + 2)) n g (f + 1) i to z = prun ev (A0 (l + 1)) (A0 (l + 2)) n g f (i + 1) to (pone ev (A0 (l + 1)) (A0 (l + 2)) n g i z) := by
            rw [prun, if_neg cx, if_neg (by omega)]
          rw [e] at h
          refine ⟨fun c => absurd ((nI_eq (b := 5) (by omega) (by omega)).mp c) (by omega), fun _ => ?_⟩
          have hst := wstep_ok (ev := ev) (C := A0 (l + 1)) (N := A0 (l + 2)) (k := g.2.2.2 i) zo.1 zo.2.1 ha hc0
          have eC : A (l + 1) = A0 (l + 1) := f2 _ (by simp; omega)
          have eN : A (l + 2) = A0 (l + 2) := f2 _ (by simp; omega)
          have zc : cW n (upI I 35 5 (nI (z.2.1 + 1))) A 13 = z.1 := by rw [← z1]; unfold cW; simp only [upI_n (show (13 : Nat) ≠ 35 by decide)]
          refine sp_Deeds_enactStep (d := d + dep) (s := g.1 i) (a := g.2.1 i) (c := g.2.2.1 i) (n := n) (ev := ev) rfl (hla.mv (fz l (by simp; omega)) eC eN) hq (hL.mv (by rw [fz q (by simp; omega)]) (f2 _ (by simp; omega))) hev (by rw [zc]; exact zo.1) (by rw [zc]; exact zo.2.1) (by omega) h4 (by rw [e36]; exact hgi.1) (fun hh => ⟨ha hh, by rw [e37]; exact hgi.2.1 (Or.inl hh)⟩) (fun hh => ⟨hc0 hh, by rw [e38]; exact hgi.2.2.1 (Or.inl hh)⟩) (fun I' A' r k1 k2 ke => ?_)
          rw [zc, eC, eN, wstep_k (k' := g.2.2.2 i) (fun hh => by rw [e39]; exact hgi.2.2.2 hh)] at ke
          have kr : r = (wstep ev (A0 (l + 1)) (A0 (l + 2)) n z.1 (g.1 i) (g.2.1 i) (g.2.2.1 i) (g.2.2.2 i)).2 := congrArg Prod.snd ke
          have kw : cW n I' A' 13 = (wstep ev (A0 (l + 1)) (A0 (l + 2)) n z.1 (g.1 i) (g.2.1 i) (g.2.2.1 i) (g.2.2.2 i)).1 := congrArg Prod.fst ke
          have b35 : I' 35 = upI I 35 5 (nI (z.2.1 + 1)) 35 := k1 35 (by simp)
          have q5 : I' 35 5 = nI (z.2.1 + 1) := by rw [b35, upI_s]
          have q6 : I' 35 6 = z.2.2.1 := by rw [b35, upI_f (by decide), z3]
          have q7 : I' 35 7 = z.2.2.2 := by rw [b35, upI_f (by decide), z4]
          have q4 : I' 35 4 = I0 35 4 := by rw [b35, upI_f (by decide), z5]
          have fin : ∀ v1 v2 : Int32, v1 = (if r = 0 then 0 else 1) → v2 = (if r = 0 then 1 else 0) → gWp (gTab (tb_Deeds_enact (meth (d + dep + 6)))) Q X 180 [some (.ref (x + 35)), some (.ref (x + 13)), some (.ref (x + l)), some (.ref (x + q)), some (.int v4), some (.int (nI to)), some (.int (nI (6 - dep))), some (.int (nI i + 1)), some (.int (nI cnt)), some (.int r)] [] (gset H x cck P (upI (upI I' 35 6 (z.2.2.1 + v1)) 35 7 (z.2.2.2 + v2)) A') := by
            intro v1 v2 e1 e2
            refine wb_Deeds_enact_180 hm ?_
            rw [nI_1, nI_1]
            refine ih dep (i + 1) to p2 hto hd d (cnt + 1) v4 _ _ A' Q X (by omega) ⟨fr_I (fr_I (fr_t fz (fr_m k1 (by simp))) (by simp)) (by simp), fr_t f2 (fr_m k2 (by simp)), ?_, ?_, ?_, ?_, ?_, ?_⟩ h
            · show _ = (wstep ev (A0 (l + 1)) (A0 (l + 2)) n z.1 (g.1 i) (g.2.1 i) (g.2.2.1 i) (g.2.2.2 i)).1
              rw [← kw]; unfold cW; simp only [upI_n (show (13 : Nat) ≠ 35 by decide)]
            · rw [upI_f (by decide), upI_f (by decide), q5]; rfl
            · rw [upI_f (by decide), upI_s, e1, kr]; rfl
            · rw [upI_s, e2, kr]; rfl
            · rw [upI_f (by decide), upI_f (by decide), q4]
            · exact ⟨hst.1, hst.2, by show z.2.1 + 1 ≤ 200; omega⟩
          refine wb_Deeds_enact_68 hm ?_
          rw [q6]
          refine ⟨fun c => wb_Deeds_enact_85 hm ⟨fun _ => wb_Deeds_enact_104 hm ?_, fun c2 => absurd c c2⟩, fun c => wb_Deeds_enact_85 hm ⟨fun c2 => absurd c2 c, fun _ => wb_Deeds_enact_104 hm ?_⟩⟩
          · rw [q7]; exact fin 0 1 (by rw [if_pos c]) (by rw [if_pos c])
          · rw [q7]; exact fin 1 0 (by rw [if_neg c]) (by rw [if_neg c])
set_option maxHeartbeats 1000000 in
theorem gs_loop (hla : RLandOk I0 A0 n m C N) (hL : RLawAt I0 A0 ev) (hev : evOk ev) (hsz : sz ≤ 50) (hg : ∀ i, i < sz → rPg A0 g i) : ∀ (f dep i to : Nat), pwf n g f dep i to → to ≤ sz → ∀ (d : Nat) (v1 : Int32) (z : PS) (I A : Nat → Nat → Int32) (Q : gQ) (X : gX), sRep n I0 A0 z I A → (∀ I' A', sRep n I0 A0 (prun ev C N n g f i to z) I' A' → Q none (gset H x mck P I' A')) →
    gWp (gTab (tb_R_goesSteps (meth (d + dep + 7)))) Q X 2 [some (.ref (x + 0)), some (.int v1), some (.int (nI (4 * to))), some (.int (nI (4 * i))), none, none] [] (gset H x mck P I A) := by
  intro f
  induction f with
  | zero =>
    intro dep i to hp hto d v1 z I A Q X hz h
    have hm := @mo_R_goesSteps (meth (d + dep + 7)) (meth_smono (d + dep + 7))
    have e : i = to := hp
    exact wb_R_goesSteps_2 hm ⟨fun _ => wb_R_goesSteps_160 hm (h I A hz), fun c => absurd (nI_le (by omega) (by omega)) c⟩
  | succ f ih =>
    intro dep i to hp hto d v1 z I A Q X hz h
    have hm := @mo_R_goesSteps (meth (d + dep + 7)) (meth_smono (d + dep + 7))
    have hit : i ≤ to := by rcases hp with hp | ⟨hp, _⟩ <;> omega
    by_cases cx : to ≤ i ∨ 200 ≤ z.2.1
    · have e : prun ev C N n g (f + 1) i to z = z := by unfold prun; rw [if_pos cx]
      rw [e] at h
      refine wb_R_goesSteps_2 hm ⟨fun _ => wb_R_goesSteps_160 hm (h I A hz), fun c => ⟨fun _ => wb_R_goesSteps_160 hm (h I A hz), fun c2 => ?_⟩⟩
      rcases cx with cx | cx
      · exact absurd (nI_le (by omega) (by omega)) c
      · have hz2 := hz.2.2.2.2.2.2.2.2
        exact absurd (by rw [hz.2.2.2.1]; exact nI_le (a := 200) cx (by omega)) c2
    · rcases hp with hp | ⟨hlt, hk⟩
      · omega
      · obtain ⟨f1, f2, z1, z2, z3, z4, zo⟩ := hz
        have e16 : A 16 = A0 16 := f2 16 (by decide)
        have hgi := hg i (by omega)
        have i1 : nI (4 * i) + 1 = nI (4 * i + 1) := nI_add _ 1
        have i2 : nI (4 * i) + 2 = nI (4 * i + 2) := nI_add _ 2
        have i3 : nI (4 * i) + 3 = nI (4 * i + 3) := nI_add _ 3
        have i4 : nI (4 * i) + 4 = nI (4 * (i + 1)) := nI_add _ 4
        have v0 : vp_in (nI (4 * i)) 200 := vp_in_nI (by omega) (by omega)
        have vv1 : vp_in (nI (4 * i) + 1) 200 := by rw [i1]; exact vp_in_nI (by omega) (by omega)
        have vv2 : vp_in (nI (4 * i) + 2) 200 := by rw [i2]; exact vp_in_nI (by omega) (by omega)
        have vv3 : vp_in (nI (4 * i) + 3) 200 := by rw [i3]; exact vp_in_nI (by omega) (by omega)
        have zb := zo.2.2
        have fz : fI I0 (upI I 0 34 (nI (z.2.1 + 1))) := fun j h1 h2 h3 => by rw [upI_f h1]; exact f1 j h1 h2 h3
        refine wb_R_goesSteps_2 hm ⟨fun c => absurd c (nI_ge (by omega) (by omega)), fun _ => ⟨fun c => absurd c (by rw [z2]; exact nI_ge (b := 200) (by omega) (by omega)), fun _ => ⟨v0, ?_⟩⟩⟩
        rw [i1, i2, i3, nI_clamp (by omega), nI_clamp (by omega), nI_clamp (by omega), nI_clamp (by omega), e16, hgi.1, z2, nI_1]
        rw [i1] at vv1
        rw [i2] at vv2
        rw [i3] at vv3
        rcases hk with ⟨h5, hd1, h30, hs1, hs2, p1, p2⟩ | ⟨h4, ha, hc0, p2⟩
        · have e : prun ev C N n g (f + 1) i to z = prun ev C N n g f (g.2.2.1 i) to (prep (prun ev C N n g f (i + 1) (g.2.2.1 i)) (g.2.1 i) (z.1, z.2.1 + 1, z.2.2.1, z.2.2.2)) := by
            rw [prun, if_neg cx, if_pos h5]
          rw [e] at h
          refine ⟨fun c => absurd (by rw [h5]; rfl) c, fun _ => ⟨vv2, ?_⟩⟩
          rw [hgi.2.2.2.1 h5]
          obtain ⟨dp, rfl⟩ : ∃ dp, dep = dp + 1 := ⟨dep - 1, by omega⟩
          have fin : ∀ (j : Nat) (z' : PS) (I' A' : Nat → Nat → Int32), sRep n I0 A0 z' I' A' → (∀ I2 A2, sRep n I0 A0 (prun ev C N n g f (g.2.2.1 i) to z') I2 A2 → Q none (gset H x mck P I2 A2)) → gWp (gTab (tb_R_goesSteps (meth (d + (dp + 1) + 7)))) Q X 88 [some (.ref (x + 0)), some (.int v1), some (.int (nI (4 * to))), some (.int (nI (4 * i))), some (.int (nI (4 * g.2.2.1 i))), some (.int (nI j))] [] (gset H x mck P I' A') := by
            intro j z' I' A' hz' h'
            exact wb_R_goesSteps_88 hm (ih (dp + 1) (g.2.2.1 i) to p2 hto d v1 z' I' A' Q X hz' h')
          have key : ∀ j, j ≤ g.2.1 i → ∀ (z' : PS) (I' A' : Nat → Nat → Int32), sRep n I0 A0 z' I' A' → (∀ I2 A2, sRep n I0 A0 (prun ev C N n g f (g.2.2.1 i) to (prep (prun ev C N n g f (i + 1) (g.2.2.1 i)) (g.2.1 i - j) z')) I2 A2 → Q none (gset H x mck P I2 A2)) → gWp (gTab (tb_R_goesSteps (meth (d + (dp + 1) + 7)))) Q X 50 [some (.ref (x + 0)), some (.int v1), some (.int (nI (4 * to))), some (.int (nI (4 * i))), some (.int (nI (4 * g.2.2.1 i))), some (.int (nI j))] [] (gset H x mck P I' A') := by
            refine gdown ?_ ?_
            · intro z' I' A' hz' h'
              have g37 : A' 16 (4 * i + 1) = nI (g.2.1 i) := by rw [hz'.2.1 16 (by decide)]; exact hgi.2.1 (Or.inr h5)
              rw [Nat.sub_self] at h'
              exact wb_R_goesSteps_50 hm ⟨by rw [i1]; exact vv1, fun _ => fin _ z' I' A' hz' h', fun c => absurd (by rw [i1, nI_clamp (by omega), g37]; exact nI_le (Nat.le_refl _) (by omega)) c⟩
            · intro j hj ihj z' I' A' hz' h'
              have g37 : A' 16 (4 * i + 1) = nI (g.2.1 i) := by rw [hz'.2.1 16 (by decide)]; exact hgi.2.1 (Or.inr h5)
              have zb' := hz'.2.2.2.2.2.2.2.2
              refine wb_R_goesSteps_50 hm ⟨by rw [i1]; exact vv1, fun c => absurd c (by rw [i1, nI_clamp (by omega), g37]; exact nI_ge hj (by omega)), fun _ => ⟨fun c => fin _ z' I' A' hz' ?_, fun c => ?_⟩⟩
              · rw [hz'.2.2.2.1, show (200 : Int32) = nI 200 from rfl, nI_leI (by omega) (by omega)] at c
                rw [prep_full (prun_full c)] at h'
                exact h'
              · rw [i4, show d + (dp + 1) + 7 = (d + dp + 7) + 1 by omega]
                refine me_R_goesSteps (wb_R_goesSteps_0 (@mo_R_goesSteps (meth (d + dp + 7)) (meth_smono (d + dp + 7))) (ih dp (i + 1) (g.2.2.1 i) p1 (by omega) d _ z' I' A' _ X hz' (fun I2 A2 hz2 => ?_)))
                rw [show (d + dp + 7) + 1 = d + (dp + 1) + 7 by omega]
                refine wb_R_goesSteps_82 hm ?_
                rw [nI_1]
                refine ihj _ I2 A2 hz2 ?_
                rw [show g.2.1 i - j = (g.2.1 i - (j + 1)) + 1 by omega] at h'
                exact h'
          exact key 0 (Nat.zero_le _) (z.1, z.2.1 + 1, z.2.2.1, z.2.2.2) _ A ⟨fz, f2, z1, upI_s, by rw [upI_f (by decide), z3], by rw [upI_f (by decide), z4], zo.1, zo.2.1, by show z.2.1 + 1 ≤ 200; omega⟩ h
        · have e : prun ev C N n g (f + 1) i to z = prun ev C N n g f (i + 1) to (pone ev C N n g i z) := by
            rw [prun, if_neg cx, if_neg (by omega)]
          rw [e] at h
          refine ⟨fun _ => ⟨v0, vv1, vv2, vv3, ?_⟩, fun c => absurd (fun c2 => absurd ((nI_eq (b := 5) (by omega) (by omega)).mp c2) (by omega)) c⟩
          have hst := wstep_ok (ev := ev) (C := C) (N := N) (k := g.2.2.2 i) zo.1 zo.2.1 ha hc0
          refine sp_R_goes (d := d + dep) (s := g.1 i) (a := g.2.1 i) (c := g.2.2.1 i) (n := n) (m := m) (C := C) (N := N) (ev := ev) (hla.mv (fz 19 (by decide) (by decide) (by decide)) (fz 20 (by decide) (by decide) (by decide)) (f2 7 (by decide)) (f2 8 (by decide))) (hL.mv (fz 27 (by decide) (by decide) (by decide)) (f2 11 (by decide)) (f2 12 (by decide))) hev (by rw [z1]; exact zo.1) h4 (fun hh => ⟨ha hh, hgi.2.1 (Or.inl hh)⟩) (fun hh => ⟨hc0 hh, hgi.2.2.1 hh⟩) (fun A' r k2 ke => ?_)
          rw [z1, wstep_k (k' := g.2.2.2 i) (fun hh => hgi.2.2.2.2 hh)] at ke
          have kr : r = (wstep ev C N n z.1 (g.1 i) (g.2.1 i) (g.2.2.1 i) (g.2.2.2 i)).2 := congrArg Prod.snd ke
          have kw : rW n (A' 18) = (wstep ev C N n z.1 (g.1 i) (g.2.1 i) (g.2.2.1 i) (g.2.2.2 i)).1 := congrArg Prod.fst ke
          have fin : ∀ I', fI I0 I' → I' 0 34 = nI (z.2.1 + 1) → I' 0 35 = z.2.2.1 + (if r = 0 then 0 else 1) → I' 0 36 = z.2.2.2 + (if r = 0 then 1 else 0) → gWp (gTab (tb_R_goesSteps (meth (d + dep + 7)))) Q X 154 [some (.ref (x + 0)), some (.int v1), some (.int (nI (4 * to))), some (.int (nI (4 * i))), none, none] [] (gset H x mck P I' A') := by
            intro I' g1 g2 g3 g4
            refine wb_R_goesSteps_154 hm ?_
            rw [i4]
            refine ih dep (i + 1) to p2 hto d v1 _ _ A' Q X ⟨g1, fr_t f2 k2, kw, g2, by rw [g3, kr]; rfl, by rw [g4, kr]; rfl, hst.1, hst.2, by show z.2.1 + 1 ≤ 200; omega⟩ h
          have q35 : upI I 0 34 (nI (z.2.1 + 1)) 0 35 = z.2.2.1 := by rw [upI_f (by decide), z3]
          have q36 : upI I 0 34 (nI (z.2.1 + 1)) 0 36 = z.2.2.2 := by rw [upI_f (by decide), z4]
          refine wb_R_goesSteps_128 hm ?_
          rw [q35, q36]
          refine ⟨fun c => fin _ (fun j h1 h2 h3 => by rw [upI_f h3]; exact fz j h1 h2 h3) (by rw [upI_f (by decide), upI_s]) ?_ ?_, fun c => fin _ (fun j h1 h2 h3 => by rw [upI_f h2]; exact fz j h1 h2 h3) (by rw [upI_f (by decide), upI_s]) ?_ ?_⟩
          · rw [upI_f (by decide), q35, if_pos c, Int32.add_zero]
          · rw [upI_s, if_pos c]
          · rw [upI_s, if_neg c]
          · rw [upI_f (by decide), q36, if_neg c, Int32.add_zero]
end L2E
