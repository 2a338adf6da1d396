/-! ===== L2: a world tried: the class's Fate ===== -/
def LandOk (I A : Nat → Nat → Int32) (l n : Nat) : Prop := cck l = (3 + 2, 0) ∧ I l 0 = nI n ∧ n ≤ 8 ∧ chOk n (A (l + 1)) ∧ ∀ t, t < n → ∀ i, i < 32 → bt (A (l + 2) t) i = true → i < n
theorem LandOk.mv {I A I' A' : Nat → Nat → Int32} {l n : Nat} (h : LandOk I A l n) (h0 : I' l = I l) (h1 : A' (l + 1) = A (l + 1)) (h2 : A' (l + 2) = A (l + 2)) : LandOk I' A' l n := ⟨h.1, by rw [h0]; exact h.2.1, h.2.2.1, by rw [h1]; exact h.2.2.2.1, by rw [h2]; exact h.2.2.2.2⟩
def wvotes (ev : (Nat → Int32) → Int32) (C N : Nat → Int32) (n : Nat) (w : WS) : Nat → WS
  | 0 => w
  | k + 1 => wvote ev C N n (wvotes ev C N n w k)
def wParty (w : WS) : Int32 := w.2.2.2.2.2.1
def ftill (f : Nat → Int32) (p : Int32) : Nat → Nat → Int32
  | 0, _ => -1
  | u + 1, k => if f k = p then nI k else ftill f p u (k + 1)
def nxt (s : Int32) : Int32 := s * 1103515245 + 12345
def dbits (s : Int32) : Int32 := (nxt s >>> ((16 : Int32) &&& 31)) &&& 32767
def drw (s b : Int32) : Int32 := dbits s - dbits s / b * b
theorem b_32767 (i : Nat) : bt 32767 i = decide (i < 15) := by
  rcases Nat.lt_or_ge i 32 with h | h
  · exact (by decide +kernel : ∀ i, i < 32 → bt 32767 i = decide (i < 15)) i h
  · rw [b_big h, decide_eq_false (by omega)]
theorem dbits_u (s : Int32) : ((nxt s).toUInt32 >>> ((16 : Int32).toUInt32 &&& Int32.toUInt32 31)).toInt32 &&& 32767 = dbits s := by
  unfold dbits
  apply b_ext
  intro i hi
  rw [b_and, b_and, b_32767]
  by_cases h : i < 15
  · rw [show (16 : Int32) = nI 16 from rfl, b_ushr 16 (by omega), b_sshr 16 (by omega) _ hi, if_pos (by omega)]
  · rw [decide_eq_false h, Bool.and_false, Bool.and_false]
theorem dbits_n (s : Int32) : ∃ k, k < 32768 ∧ dbits s = nI k := by
  obtain ⟨m, hm, e⟩ := wb_of32 (nxt s >>> ((16 : Int32) &&& 31))
  refine ⟨m &&& 32767, Nat.lt_of_le_of_lt Nat.and_le_right (by omega), ?_⟩
  unfold dbits
  rw [e, show (32767 : Int32) = nI 32767 from rfl, nx_and]
theorem drw_n (s : Int32) {b : Nat} (hb : 0 < b) (hb2 : b < 2 ^ 31) : ∃ k, k < b ∧ drw s (nI b) = nI k := by
  obtain ⟨k, hk, e⟩ := dbits_n s
  exact ⟨k % b, Nat.mod_lt _ hb, by unfold drw; rw [e, pk_rem (by omega) hb hb2]⟩
def wSetB (w : WS) (t : Nat) (v : Int32) : WS := (wV w, upd (wB w) t v, w.2.2.1, w.2.2.2.1, w.2.2.2.2.1, w.2.2.2.2.2.1, w.2.2.2.2.2.2)
def wFlip (w : WS) : WS := (wV w, wB w, w.2.2.1, 1 - w.2.2.2.1, w.2.2.2.2.1, w.2.2.2.2.2.1, w.2.2.2.2.2.2)
theorem rs_upd {n t : Nat} {f : Nat → Int32} {v : Int32} (ht : t < n) : rs n (upd f t v) = upd (rs n f) t v := by
  funext j
  unfold rs upd
  by_cases hj : j = t
  · subst hj; rw [if_pos ht, if_pos rfl, if_pos rfl]
  · rw [if_neg hj, if_neg hj]
/-- a day of a term: a town, how many more, the comma -/
def wlive1 (w : WS) (s : Int32) (t : Nat) : WS := wSetB w t (fhold (wB w t) (wV w t) (drw (nxt s) 7 - 3))
def wlive (n : Nat) (q : Int32) (w : WS) (s : Int32) : WS := if q ≤ drw (nxt (nxt s)) 16 then wlive1 w s (drw s (nI n)).toNatClampNeg else wFlip (wlive1 w s (drw s (nI n)).toNatClampNeg)
def nxt3 (s : Int32) : Int32 := nxt (nxt (nxt s))
/-- world, seed, votes held, changes -/
abbrev TS : Type := WS × Int32 × Int32 × Int32
def wday (ev : (Nat → Int32) → Int32) (C N : Nat → Int32) (n : Nat) (q : Int32) (k : Nat) (z : TS) : TS :=
  if k % 4 = 0 then (wvote ev C N n (wlive n q z.1 z.2.1), nxt3 z.2.1, z.2.2.1 + 1, z.2.2.2 + (if wParty (wvote ev C N n (wlive n q z.1 z.2.1)) = wParty (wlive n q z.1 z.2.1) then 0 else 1)) else (wlive n q z.1 z.2.1, nxt3 z.2.1, z.2.2.1, z.2.2.2)
def wterm (ev : (Nat → Int32) → Int32) (C N : Nat → Int32) (n : Nat) (q : Int32) (z : TS) : Nat → TS
  | 0 => z
  | k + 1 => wday ev C N n q (k + 1) (wterm ev C N n q z k)
section L2F
variable {d : Nat} {Q : gQ} {X : gX} {H : gH} {x : Nat} {P : Nat → Nat} {I A : Nat → Nat → Int32}
theorem sp_World_copy {o p n : Nat} (ho : cck o = (8 + 2, 0)) (hp : cck p = (8 + 2, 0)) (hne : p ≠ o) (hn8 : n ≤ 8) (h : ∀ I' A', Fr [o] I I' → I' o 3 = I p 3 → Fr [o + 1, o + 2] A A' → cW n I' A' o = cW n I A p → (∀ t, t < 8 → A' (o + 1) t = A (p + 1) t ∧ A' (o + 2) t = A (p + 2) t) → Q none (gset H x cck P I' A')) : meth (d + 1) m_World_copy [.ref (x + o), .ref (x + p)] (gset H x cck P I A) Q X := by
  have hm := @mo_World_copy (meth d) (meth_smono d)
  have dO := cck_W ho
  have dP := cck_W hp
  refine me_World_copy (wb_World_copy_0 hm ?_)
  have key : ∀ k, k ≤ 8 → ∀ A', Fr [o + 1, o + 2] A A' → (∀ t, t < k → A' (o + 1) t = A (p + 1) t ∧ A' (o + 2) t = A (p + 2) t) → gWp (gTab (tb_World_copy (meth d))) Q X 2 [some (.ref (x + o)), some (.ref (x + p)), some (.int (nI k))] [] (gset H x cck P I A') := by
    refine gdown ?_ ?_
    · intro A' hf hs
      refine wb_World_copy_2 hm ho hp ⟨fun _ => ?_, fun c => absurd (nI_le (Nat.le_refl 8) (by omega)) c⟩
      simp only [upI_n hne]
      refine h _ _ (fr_I (fr_I (fr_I (fr_I (fr_I fr_r (by simp)) (by simp)) (by simp)) (by simp)) (by simp)) (by simp [upI, upd]) hf ?_ hs
      unfold cW
      rw [rs_c (f := A' (o + 1)) (g := A (p + 1)) (fun t ht => (hs t (by omega)).1), rs_c (f := A' (o + 2)) (g := A (p + 2)) (fun t ht => (hs t (by omega)).2)]
      simp [upI, upd]
    · intro k hk ih A' hf hs
      refine wb_World_copy_2 hm ho hp ⟨fun c => absurd c (nI_ge (b := 8) hk (by omega)), fun _ => ⟨vp_in_nI (by omega) (by omega), vp_in_nI (by omega) (by omega), vp_in_nI (by omega) (by omega), vp_in_nI (by omega) (by omega), ?_⟩⟩
      rw [nI_clamp (by omega), ← nI_succ]
      refine ih _ (fr_A (fr_A hf (by simp)) (by simp)) (fun t ht => ?_)
      have e1 : A' (p + 1) = A (p + 1) := hf _ (by simp; omega)
      have e2 : A' (p + 2) = A (p + 2) := hf _ (by simp; omega)
      rw [upA_n (by omega), upA_s, upA_s, upA_n (o := o + 1) (j := o + 2) (by omega), upA_n (o := o + 1) (j := p + 2) (by omega), e1, e2]
      by_cases htk : t = k
      · rw [htk, upd_at, upd_at]; exact ⟨rfl, rfl⟩
      · rw [upd_ne htk, upd_ne htk]; exact hs t (by omega)
  exact key 0 (by omega) A fr_r (fun t ht => absurd ht (Nat.not_lt_zero t))
theorem sp_Fate_holdVotes {l q n k : Nat} {ev : (Nat → Int32) → Int32} (hla : LandOk I A l n) (hq : cck q = (4 + 2, 0)) (hL : LawAt I A q ev) (hev : evOk ev) (hk : k ≤ 99)
    (h : ∀ I' A', Fr [48] I I' → Fr [49, 50, 51, q + 2, q + 3] A A' → cW n I' A' 48 = wvotes ev (A (l + 1)) (A (l + 2)) n (cW n I A 13) k → Q none (gset H x cck P I' A')) : meth (d + 6) m_Fate_holdVotes [.ref (x + 47), .int (nI k), .ref (x + 13), .ref (x + l), .ref (x + q)] (gset H x cck P I A) Q X := by
  have hm := @mo_Fate_holdVotes (meth (d + 5)) (meth_smono (d + 5))
  have dL := cck_L hla.1
  have dQ := cck_Q hq
  refine me_Fate_holdVotes (wb_Fate_holdVotes_0 hm (sp_World_copy (n := n) rfl rfl (by decide) hla.2.2.1 (fun I1 A1 f1 _ f2 e1 _ => wb_Fate_holdVotes_8 hm ?_)))
  have key : ∀ j, j ≤ k → ∀ I' A', Fr [48] I I' → Fr [49, 50, 51, q + 2, q + 3] A A' → cW n I' A' 48 = wvotes ev (A (l + 1)) (A (l + 2)) n (cW n I A 13) j → gWp (gTab (tb_Fate_holdVotes (meth (d + 5)))) Q X 11 [some (.ref (x + 47)), some (.int (nI k)), some (.ref (x + 13)), some (.ref (x + l)), some (.ref (x + q)), some (.int (nI j))] [] (gset H x cck P I' A') := by
    refine gdown ?_ ?_
    · intro I' A' g1 g2 ge
      exact wb_Fate_holdVotes_11 hm ⟨fun _ => h I' A' g1 g2 ge, fun c => absurd (nI_le (Nat.le_refl k) (by omega)) c⟩
    · intro j hj ih I' A' g1 g2 ge
      have eC : A' (l + 1) = A (l + 1) := g2 _ (by simp; omega)
      have eN : A' (l + 2) = A (l + 2) := g2 _ (by simp; omega)
      have hla' := hla.mv (I' := I') (A' := A') (g1 l (by simp; omega)) eC eN
      refine wb_Fate_holdVotes_11 hm ⟨fun c => absurd c (nI_ge hj (by omega)), fun _ => sp_World_holdVote (d := d) (o := 48) rfl hla'.1 hq hla'.2.1 hla'.2.2.1 (hL.mv (by rw [g1 q (by simp; omega)]) (g2 _ (by simp; omega))) hev hla'.2.2.2.1 hla'.2.2.2.2 (fun I2 A2 k1 _ k2 ke => wb_Fate_holdVotes_27 hm ?_)⟩
      rw [← nI_succ]
      refine ih I2 A2 (fr_t g1 k1) (fr_t g2 (fr_m k2 (by simp))) ?_
      rw [ke, eC, eN, ge]
      rfl
  exact key 0 (Nat.zero_le k) I1 A1 f1 (fr_m f2 (by simp)) e1
theorem sp_Fate_votesTill {l q n : Nat} {p : Int32} {ev : (Nat → Int32) → Int32} (hla : LandOk I A l n) (hq : cck q = (4 + 2, 0)) (hL : LawAt I A q ev) (hev : evOk ev)
    (h : ∀ I' A', Fr [48] I I' → Fr [49, 50, 51, q + 2, q + 3] A A' → Q (some (.int (ftill (fun k => wParty (wvotes ev (A (l + 1)) (A (l + 2)) n (cW n I A 13) k)) p 100 0))) (gset H x cck P I' A')) : meth (d + 6) m_Fate_votesTill [.ref (x + 47), .int p, .ref (x + 13), .ref (x + l), .ref (x + q)] (gset H x cck P I A) Q X := by
  have hm := @mo_Fate_votesTill (meth (d + 5)) (meth_smono (d + 5))
  have dL := cck_L hla.1
  have dQ := cck_Q hq
  refine me_Fate_votesTill (wb_Fate_votesTill_0 hm (sp_World_copy (n := n) rfl rfl (by decide) hla.2.2.1 (fun I1 A1 f1 _ f2 e1 _ => wb_Fate_votesTill_8 hm ?_)))
  have key : ∀ j, j ≤ 100 → ∀ I' A', Fr [48] I I' → Fr [49, 50, 51, q + 2, q + 3] A A' → cW n I' A' 48 = wvotes ev (A (l + 1)) (A (l + 2)) n (cW n I A 13) j → (∀ I' A', Fr [48] I I' → Fr [49, 50, 51, q + 2, q + 3] A A' → Q (some (.int (ftill (fun k => wParty (wvotes ev (A (l + 1)) (A (l + 2)) n (cW n I A 13) k)) p (100 - j) j))) (gset H x cck P I' A')) → gWp (gTab (tb_Fate_votesTill (meth (d + 5)))) Q X 11 [some (.ref (x + 47)), some (.int p), some (.ref (x + 13)), some (.ref (x + l)), some (.ref (x + q)), some (.int (nI j))] [] (gset H x cck P I' A') := by
    refine gdown ?_ ?_
    · intro I' A' g1 g2 ge hq'
      exact wb_Fate_votesTill_11 hm ⟨fun _ => hq' I' A' g1 g2, fun c => absurd (nI_lt (a := 99) (b := 100) (by omega) (by omega)) c⟩
    · intro j hj ih I' A' g1 g2 ge hq'
      have eC : A' (l + 1) = A (l + 1) := g2 _ (by simp; omega)
      have eN : A' (l + 2) = A (l + 2) := g2 _ (by simp; omega)
      have hla' := hla.mv (I' := I') (A' := A') (g1 l (by simp; omega)) eC eN
      have eP : I' 48 6 = wParty (wvotes ev (A (l + 1)) (A (l + 2)) n (cW n I A 13) j) := by rw [← ge]; rfl
      rw [show 100 - j = (100 - (j + 1)) + 1 by omega] at hq'
      unfold ftill at hq'
      refine wb_Fate_votesTill_11 hm ⟨fun c => absurd c (nI_nlt (b := j) (a := 99) (by omega) (by omega)), fun _ => ⟨fun c => ?_, fun c => ?_⟩⟩
      · rw [eP] at c
        simp only [if_neg c] at hq'
        refine sp_World_holdVote (d := d) (o := 48) rfl hla'.1 hq hla'.2.1 hla'.2.2.1 (hL.mv (by rw [g1 q (by simp; omega)]) (g2 _ (by simp; omega))) hev hla'.2.2.2.1 hla'.2.2.2.2 (fun I2 A2 k1 _ k2 ke => wb_Fate_votesTill_42 hm ?_)
        rw [← nI_succ]
        refine ih I2 A2 (fr_t g1 k1) (fr_t g2 (fr_m k2 (by simp))) ?_ hq'
        rw [ke, eC, eN, ge]
        rfl
      · rw [eP] at c
        simp only [if_pos (Classical.not_not.mp c)] at hq'
        exact hq' I' A' g1 g2
  exact key 0 (by omega) I1 A1 f1 (fr_m f2 (by simp)) e1 h
theorem sp_Fate_draw {b : Nat} (hb : 0 < b) (hb2 : b < 2 ^ 31) (h : Q (some (.int (drw (I 47 1) (nI b)))) (gset H x cck P (upI I 47 1 (nxt (I 47 1))) A)) : meth (d + 1) m_Fate_draw [.ref (x + 47), .int (nI b)] (gset H x cck P I A) Q X := by
  have hm := @mo_Fate_draw (meth d) (meth_smono d)
  refine me_Fate_draw (wb_Fate_draw_0 hm ⟨fun c => absurd c (nI_nle hb hb2), fun _ => ⟨nI_ne0 hb hb2, wb_Fate_draw_38 hm ?_⟩⟩)
  have e := dbits_u (I 47 1)
  unfold nxt at e
  rw [e]
  exact h
theorem sp_World_flip {o : Nat} (ho : cck o = (8 + 2, 0)) (h : Q none (gset H x cck P (upI I o 4 (1 - I o 4)) A)) : meth (d + 1) m_World_flip [.ref (x + o)] (gset H x cck P I A) Q X := by
  have hm := @mo_World_flip (meth d) (meth_smono d)
  exact me_World_flip (wb_World_flip_0 hm ho h)
theorem sp_Fate_liveDay {l n : Nat} {q : Int32} (hl : cck l = (3 + 2, 0)) (hn : I l 0 = nI n) (hn8 : n ≤ 8) (hn0 : 0 < n) (h : ∀ I' A', Fr [47, 48] I I' → Fr [50] A A' → I' 47 1 = nxt3 (I 47 1) → I' 47 2 = I 47 2 → I' 47 3 = I 47 3 → cW n I' A' 48 = wlive n q (cW n I A 48) (I 47 1) → Q none (gset H x cck P I' A')) : meth (d + 2) m_Fate_liveDay [.ref (x + 47), .int q, .ref (x + l)] (gset H x cck P I A) Q X := by
  have hm := @mo_Fate_liveDay (meth (d + 1)) (meth_smono (d + 1))
  have dL := cck_L hl
  obtain ⟨t, ht, et⟩ := drw_n (I 47 1) hn0 (by omega)
  refine me_Fate_liveDay (wb_Fate_liveDay_0 hm hl ?_)
  rw [hn]
  refine sp_Fate_draw hn0 (by omega) (wb_Fate_liveDay_8 hm (sp_Fate_draw (b := 7) (by decide) (by decide) (wb_Fate_liveDay_15 hm ?_)))
  rw [et, upI_s, upI_I]
  refine sp_World_shifted rfl (vp_in_nI (by omega) (by omega)) (wb_Fate_liveDay_37 hm ⟨vp_in_nI (by omega) (by omega), sp_Fate_draw (b := 16) (by decide) (by decide) (wb_Fate_liveDay_44 hm ?_)⟩)
  rw [upI_s, upI_I, nI_clamp (by omega)]
  have hW : ∀ I', I' 48 3 = I 48 3 → I' 48 5 = I 48 5 → I' 48 6 = I 48 6 → I' 48 7 = I 48 7 → I' 48 4 = (if q ≤ drw (nxt (nxt (I 47 1))) 16 then I 48 4 else 1 - I 48 4) → cW n I' (upA A 50 t (fhold (A (48 + 2) t) (A (48 + 1) t) (drw (nxt (I 47 1)) (nI 7) - 3))) 48 = wlive n q (cW n I A 48) (I 47 1) := by
    intro I' g3 g5 g6 g7 g4
    have e0 : wlive1 (cW n I A 48) (I 47 1) t = (rs n (A (48 + 1)), upd (rs n (A (48 + 2))) t (fhold (A (48 + 2) t) (A (48 + 1) t) (drw (nxt (I 47 1)) 7 - 3)), rs n (fun t => (I 48 3 >>> (nI t &&& 31)) &&& 1), I 48 4, I 48 5, I 48 6, I 48 7) := by
      unfold wlive1 wSetB
      rw [show wB (cW n I A 48) t = A (48 + 2) t from rs_at ht, show wV (cW n I A 48) t = A (48 + 1) t from rs_at ht]
      rfl
    unfold wlive
    rw [et, nI_clamp (by omega), e0]
    unfold cW
    rw [upA_n (by decide), upA_s, rs_upd ht, g3, g4, g5, g6, g7]
    by_cases c : q ≤ drw (nxt (nxt (I 47 1))) 16
    · rw [if_pos c, if_pos c]; rfl
    · rw [if_neg c, if_neg c]; rfl
  refine ⟨fun c => wb_Fate_liveDay_55 hm (h _ _ (fr_I fr_r (by simp)) (fr_A fr_r (by simp)) upI_s (upI_f (by decide)) (upI_f (by decide)) (hW _ ?_ ?_ ?_ ?_ ?_)), fun c => sp_World_flip rfl (wb_Fate_liveDay_55 hm (h _ _ (fr_I (fr_I fr_r (by simp)) (by simp)) (fr_A fr_r (by simp)) (by rw [upI_n (by decide), upI_s]; rfl) (by rw [upI_n (by decide), upI_f (by decide)]) (by rw [upI_n (by decide), upI_f (by decide)]) (hW _ ?_ ?_ ?_ ?_ ?_)))⟩
  · rw [upI_n (by decide)]
  · rw [upI_n (by decide)]
  · rw [upI_n (by decide)]
  · rw [upI_n (by decide)]
  · rw [upI_n (by decide)]; exact (if_pos (show q ≤ drw (nxt (nxt (I 47 1))) 16 from c)).symm
  · rw [upI_f (by decide), upI_n (by decide)]
  · rw [upI_f (by decide), upI_n (by decide)]
  · rw [upI_f (by decide), upI_n (by decide)]
  · rw [upI_f (by decide), upI_n (by decide)]
  · rw [upI_s, upI_n (by decide)]; exact (if_neg (show ¬ q ≤ drw (nxt (nxt (I 47 1))) 16 from c)).symm
theorem sp_Fate_serveTerm {l q n k : Nat} {sd qq : Int32} {ev : (Nat → Int32) → Int32} (hla : LandOk I A l n) (hq : cck q = (4 + 2, 0)) (hL : LawAt I A q ev) (hev : evOk ev) (hk : k ≤ 96)
    (h : ∀ I' A' z, Fr [47, 48] I I' → Fr [49, 50, 51, q + 2, q + 3] A A' → z = (if n = 0 then (cW n I A 13, sd, 0, 0) else wterm ev (A (l + 1)) (A (l + 2)) n qq (cW n I A 13, sd, 0, 0) k) → cW n I' A' 48 = z.1 → I' 47 2 = z.2.2.1 → I' 47 3 = z.2.2.2 → Q none (gset H x cck P I' A')) : meth (d + 6) m_Fate_serveTerm [.ref (x + 47), .int sd, .int qq, .int (nI k), .ref (x + 13), .ref (x + l), .ref (x + q)] (gset H x cck P I A) Q X := by
  have hm := @mo_Fate_serveTerm (meth (d + 5)) (meth_smono (d + 5))
  have dL := cck_L hla.1
  have dQ := cck_Q hq
  refine me_Fate_serveTerm (wb_Fate_serveTerm_0 hm (sp_World_copy (n := n) rfl rfl (by decide) hla.2.2.1 (fun I1 A1 f1 _ f2 e1 _ => wb_Fate_serveTerm_9 hm ?_)))
  generalize hI2 : upI (upI (upI I1 47 1 sd) 47 2 0) 47 3 0 = I2
  have a1 : Fr [47, 48] I I2 := by rw [← hI2]; exact fr_I (fr_I (fr_I (fr_m f1 (by simp)) (by simp)) (by simp)) (by simp)
  have a2 : cW n I2 A1 48 = cW n I A 13 := by rw [← e1, ← hI2]; unfold cW; simp only [upI_n (show (48 : Nat) ≠ 47 by decide)]
  have a3 : I2 47 1 = sd ∧ I2 47 2 = 0 ∧ I2 47 3 = 0 := by rw [← hI2]; exact ⟨by simp [upI, upd], by simp [upI, upd], by simp [upI, upd]⟩
  have hn2 : I2 l 0 = nI n := by rw [a1 l (by simp; omega)]; exact hla.2.1
  by_cases hn0 : n = 0
  · refine wb_Fate_serveTerm_27 hm hla.1 ⟨fun _ => wb_Fate_serveTerm_117 hm ?_, fun _ => ⟨fun _ => wb_Fate_serveTerm_117 hm ?_, fun c => absurd (by rw [hn2, hn0]; decide) c⟩⟩
    · exact h I2 A1 (cW n I A 13, sd, 0, 0) a1 (fr_m f2 (by simp)) (by rw [if_pos hn0]) a2 a3.2.1 a3.2.2
    · exact h I2 A1 (cW n I A 13, sd, 0, 0) a1 (fr_m f2 (by simp)) (by rw [if_pos hn0]) a2 a3.2.1 a3.2.2
  · have key : ∀ j, j ≤ k → ∀ I' A', Fr [47, 48] I I' → Fr [49, 50, 51, q + 2, q + 3] A A' → (cW n I' A' 48, I' 47 1, I' 47 2, I' 47 3) = wterm ev (A (l + 1)) (A (l + 2)) n qq (cW n I A 13, sd, 0, 0) j → gWp (gTab (tb_Fate_serveTerm (meth (d + 5)))) Q X 27 [some (.ref (x + 47)), some (.int sd), some (.int qq), some (.int (nI k)), some (.ref (x + 13)), some (.ref (x + l)), some (.ref (x + q)), some (.int (nI (j + 1))), none] [] (gset H x cck P I' A') := by
      refine gdown ?_ ?_
      · intro I' A' g1 g2 ge
        refine wb_Fate_serveTerm_27 hm hla.1 ⟨fun _ => wb_Fate_serveTerm_117 hm (h I' A' _ g1 g2 (by rw [if_neg hn0, ← ge]) rfl rfl rfl), fun c => absurd (nI_lt (by omega) (by omega)) c⟩
      · intro j hj ih I' A' g1 g2 ge
        have eC : A' (l + 1) = A (l + 1) := g2 _ (by simp; omega)
        have eN : A' (l + 2) = A (l + 2) := g2 _ (by simp; omega)
        have hn' : I' l 0 = nI n := by rw [g1 l (by simp; omega)]; exact hla.2.1
        refine wb_Fate_serveTerm_27 hm hla.1 ⟨fun c => absurd c (nI_nlt (by omega) (by omega)), fun _ => ⟨fun c => absurd c (by rw [hn']; exact nI_nle (by omega) (by have := hla.2.2.1; omega)), fun _ => sp_Fate_liveDay (d := d + 3) hla.1 hn' hla.2.2.1 (by omega) (fun I3 A3 k1 k2 k3 k4 k5 k6 => wb_Fate_serveTerm_48 hm ⟨by decide, ?_⟩)⟩⟩
        have eC3 : A3 (l + 1) = A (l + 1) := by rw [k2 _ (by simp; omega), eC]
        have eN3 : A3 (l + 2) = A (l + 2) := by rw [k2 _ (by simp; omega), eN]
        have g3 : Fr [47, 48] I I3 := fr_t g1 k1
        have g4 : Fr [49, 50, 51, q + 2, q + 3] A A3 := fr_t g2 (fr_m k2 (by simp))
        have hla3 := hla.mv (I' := I3) (A' := A3) (g3 l (by simp; omega)) eC3 eN3
        have hst : wterm ev (A (l + 1)) (A (l + 2)) n qq (cW n I A 13, sd, 0, 0) (j + 1) = wday ev (A (l + 1)) (A (l + 2)) n qq (j + 1) (cW n I' A' 48, I' 47 1, I' 47 2, I' 47 3) := by rw [ge]; rfl
        have hr : nI (j + 1) - nI (j + 1) / (4 : Int32) * (4 : Int32) = nI ((j + 1) % 4) := pk_rem (d := 4) (by omega) (by decide) (by decide)
        rw [hr]
        refine ⟨fun c => wb_Fate_serveTerm_111 hm ?_, fun c => ?_⟩
        · have hc : ¬ (j + 1) % 4 = 0 := fun e => c (by rw [e]; rfl)
          rw [← nI_succ]
          refine ih I3 A3 g3 g4 ?_
          rw [hst, wday, if_neg hc, k3, k4, k5, k6]
        · have hc : (j + 1) % 4 = 0 := by
            rw [Classical.not_not] at c
            exact (nI_eq (by omega) (by omega)).mp (c.trans nI_0.symm)
          refine sp_World_holdVote (d := d) (o := 48) rfl hla3.1 hq hla3.2.1 hla3.2.2.1 (hL.mv (by rw [g3 q (by simp; omega)]) (g4 _ (by simp; omega))) hev hla3.2.2.2.1 hla3.2.2.2.2 (fun I4 A4 m1 _ m2 me => wb_Fate_serveTerm_75 hm ?_)
          rw [eC3, eN3, k6] at me
          have p4 : I4 48 6 = wParty (wvote ev (A (l + 1)) (A (l + 2)) n (wlive n qq (cW n I' A' 48) (I' 47 1))) := by rw [← me]; rfl
          have p3 : I3 48 6 = wParty (wlive n qq (cW n I' A' 48) (I' 47 1)) := by rw [← k6]; rfl
          have b47 : I4 47 = I3 47 := m1 47 (by decide)
          have g5 : Fr [47, 48] I I4 := fr_t g3 (fr_m m1 (by simp))
          have g6 : Fr [49, 50, 51, q + 2, q + 3] A A4 := fr_t g4 (fr_m m2 (by simp))
          rw [p4, p3, b47, k4, k5]
          have fin : ∀ v : Int32, v = (if wParty (wvote ev (A (l + 1)) (A (l + 2)) n (wlive n qq (cW n I' A' 48) (I' 47 1))) = wParty (wlive n qq (cW n I' A' 48) (I' 47 1)) then 0 else 1) → gWp (gTab (tb_Fate_serveTerm (meth (d + 5)))) Q X 111 [some (.ref (x + 47)), some (.int sd), some (.int qq), some (.int (nI k)), some (.ref (x + 13)), some (.ref (x + l)), some (.ref (x + q)), some (.int (nI (j + 1))), none] [] (gset H x cck P (upI (upI I4 47 2 (I' 47 2 + 1)) 47 3 (I' 47 3 + v)) A4) := by
            intro v hv
            refine wb_Fate_serveTerm_111 hm ?_
            rw [← nI_succ]
            refine ih _ A4 (fr_I (fr_I g5 (by simp)) (by simp)) g6 ?_
            have hst2 : wday ev (A (l + 1)) (A (l + 2)) n qq (j + 1) (cW n I' A' 48, I' 47 1, I' 47 2, I' 47 3) = (wvote ev (A (l + 1)) (A (l + 2)) n (wlive n qq (cW n I' A' 48) (I' 47 1)), nxt3 (I' 47 1), I' 47 2 + 1, I' 47 3 + v) := by rw [hv]; exact if_pos hc
            rw [hst, hst2, ← me]
            have q1 : upI (upI I4 47 2 (I' 47 2 + 1)) 47 3 (I' 47 3 + v) 47 1 = nxt3 (I' 47 1) := by rw [upI_f (by decide), upI_f (by decide), b47, k3]
            have q2 : upI (upI I4 47 2 (I' 47 2 + 1)) 47 3 (I' 47 3 + v) 47 2 = I' 47 2 + 1 := by rw [upI_f (by decide), upI_s]
            rw [q1, q2, upI_s]
            unfold cW
            simp only [upI_n (show (48 : Nat) ≠ 47 by decide)]
          refine ⟨fun c2 => wb_Fate_serveTerm_107 hm (fin 1 (by rw [if_neg c2])), fun c2 => wb_Fate_serveTerm_107 hm (fin 0 (by rw [if_pos (Classical.not_not.mp c2)]))⟩
    exact key 0 (Nat.zero_le k) I2 A1 a1 (fr_m f2 (by simp)) (by rw [a2, a3.1, a3.2.1, a3.2.2]; rfl)
end L2F
