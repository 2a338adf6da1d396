/-! ===== L2: a state's text, the class ===== -/
theorem osnd_fail {k : Nat} {o : PO} : osnd (ofail k o) = false := by cases o <;> rfl
theorem oadv_fail {b : Nat → Int32} {n k : Nat} {o : PO} : oadv b n (ofail k o) = ofail k o := by cases o <;> rfl
theorem osign_snd {b : Nat → Int32} {n : Nat} {c : Int32} {o : PO} (h : osnd (osign b n c o) = true) : osnd o = true := by
  cases o with
  | inl e => cases h
  | inr s => rfl
theorem b_i01 {c : Bool} (h : ¬ i01 c = 0) : c = true := by cases c <;> first | rfl | exact absurd rfl h
theorem b_i00 {c : Bool} (h : i01 c = 0) : c = false := by cases c <;> first | rfl | exact absurd h (by decide)
section L2LE
variable {d n l : Nat} {Q : gQ} {X : gX} {H : gH} {x : Nat} {P : Nat → Nat} {I A : Nat → Nat → Int32} {b : Nat → Int32} {o : PO} {z : LZ}
set_option maxHeartbeats 1000000 in
theorem sp_Land_readRoad (hl : cck l = (3 + 2, 0)) (hn : n ≤ 600) (hA : A 2 = b) (hc : cS b n o I) (hz : lCl l z I A) (hk : zOk z) (hM : zM z < 12)
    (h : ∀ I' A', lfI l I I' → lfA l A A' → cS b n (oadv b n (rdO z (onum b n 0 (zN z) o).1 (onumh b n 0 (zN z) (onum b n 0 (zN z) o).2).1 (onumh b n 0 (zN z) (onum b n 0 (zN z) o).2).2)) I' → (osnd (rdO z (onum b n 0 (zN z) o).1 (onumh b n 0 (zN z) (onum b n 0 (zN z) o).2).1 (onumh b n 0 (zN z) (onum b n 0 (zN z) o).2).2) = true → lCl l (pcl1 b n z o).1 I' A') → Q none (gset H x cck P I' A')) : meth (d + 4) m_Land_readRoad [.ref (x + l), .ref (x + 1)] (gset H x cck P I A) Q X := by
  have hm := @mo_Land_readRoad (meth (d + 3)) (meth_smono (d + 3))
  have dL := cck_L hl
  have hl1 : l ≠ 1 := by omega
  have hN := hk.1
  unfold pcl1 at h
  refine me_Land_readRoad (wb_Land_readRoad_0 hm hl ?_)
  rw [hz.1]
  refine sp_Tape_number (d := d) (lo := 0) (hi := zN z) rfl rfl (by omega) (by omega) hn hA hc (fun I1 t1 q1 => wb_Land_readRoad_11 hm hl ?_)
  have b1' := onumh_le (b := b) (n := n) (lo := 0) (hi := zN z) (o := o)
  have b1 : (onum b n 0 (zN z) o).1 < 8 := by show (onumh b n 0 (zN z) o).1 < 8; omega
  have ok1' := @onum_ok b n 0 (zN z) o
  generalize h1 : onum b n 0 (zN z) o = r1 at q1 h b1 ok1' ⊢
  have hz1 := lCl_T hl1 t1 hz
  rw [hz1.1]
  refine sp_Tape_numberHere (d := d + 1) (lo := 0) (hi := zN z) rfl rfl (by omega) (by omega) hn q1 (fun I2 t2 q2 => wb_Land_readRoad_23 hm hl ?_)
  have b2' := onumh_le (b := b) (n := n) (lo := 0) (hi := zN z) (o := r1.2)
  have b2 : (onumh b n 0 (zN z) r1.2).1 < 8 := by omega
  have ok2' := @onumh_ok b n 0 (zN z) r1.2
  generalize h2 : onumh b n 0 (zN z) r1.2 = r2 at q2 h b2 ok2' ⊢
  have t12 := tT_t t1 t2
  have hz2 := lCl_T hl1 t2 hz1
  have bad : rdO z r1.1 r2.1 r2.2 = ofail 2 r2.2 → gWp (gTab (tb_Land_readRoad (meth (d + 3)))) Q X 43 [some (.ref (x + l)), some (.ref (x + 1)), some (.int (nI r1.1)), some (.int (nI r2.1))] [] (gset H x cck P I2 A) := by
    intro hr
    rw [hr] at h
    refine wb_Land_readRoad_43 hm (sp_Tape_fail (k := 2) (by omega) hn q2 (fun I3 t3 q3 => wb_Land_readRoad_48 hm (sp_Tape_sound q3 (wb_Land_readRoad_52 hm hl ⟨fun _ => wb_Land_readRoad_122 hm ?_, fun c => ?_⟩))))
    · refine h I3 A (lfI_T (tT_t t12 t3)) fr_r (by rw [oadv_fail]; exact q3) (fun q => ?_)
      rw [osnd_fail] at q
      cases q
    · rw [osnd_fail] at c
      exact absurd rfl c
  rcases r2 with ⟨r2a, r2o⟩
  cases r2o with
  | inl e =>
    have hrd : rdO z r1.1 r2a (.inl e) = ofail 2 (.inl e) := by
      unfold rdO
      by_cases hq : r1.1 = r2a ∨ hasR (zF z) (zT z) r1.1 r2a (zM z) = true
      · rw [if_pos hq]
      · rw [if_neg hq]; rfl
    have bad' := bad hrd
    rw [hrd] at h
    exact ⟨fun _ => bad', fun _ => ⟨vp_in_nI (by omega) (by omega), fun _ => wb_Land_readRoad_48 hm (sp_Tape_sound q2 (wb_Land_readRoad_52 hm hl ⟨fun _ => wb_Land_readRoad_122 hm (h I2 A (lfI_T t12) fr_r q2 (fun q => by cases q)), fun c => absurd rfl c⟩)), fun _ => bad'⟩⟩
  | inr s2 =>
    have ok2 := ok2' rfl
    have ok1 := ok1' ok2.2.2
    have hhas : (A (l + 2) r1.1 >>> (nI r2a &&& 31)) &&& 1 = 1 ↔ hasR (zF z) (zT z) r1.1 r2a (zM z) = true := by
      rw [b_at1 (show r2a < 32 by omega), (hz2.2.2.2.1 r1.1 ok1.2.1).2.2.2, froads_bt (by omega) (by omega) (fun e he => ⟨by have := hk.2.2.2.2 e he; omega, by have := hk.2.2.2.2 e he; omega⟩)]
    refine ⟨fun c => bad ?_, fun c => ⟨vp_in_nI (by omega) (by omega), fun c2 => ?_, fun c2 => bad ?_⟩⟩
    · unfold rdO; rw [if_pos (Or.inl ((nI_eq (by omega) (by omega)).mp c))]
    · rw [nI_clamp (by omega), hhas] at c2
      have hne : r1.1 ≠ r2a := fun q => c (by rw [q])
      have hno : ¬ (r1.1 = r2a ∨ hasR (zF z) (zT z) r1.1 r2a (zM z) = true) := fun q => q.elim hne c2
      have hrd : rdO z r1.1 r2a (.inr s2) = .inr s2 := by unfold rdO; rw [if_neg hno]
      rw [hrd] at h
      have iv : vp_in (I2 l 1) 12 := by rw [hz2.2.1]; exact vp_in_nI (by omega) (by omega)
      have va : vp_in (nI r1.1) 8 := vp_in_nI (by omega) (by omega)
      have vc : vp_in (nI r2a) 8 := vp_in_nI (by omega) (by omega)
      refine wb_Land_readRoad_48 hm (sp_Tape_sound q2 (wb_Land_readRoad_52 hm hl ⟨fun q => absurd q i01_1, fun _ => ⟨fun q => absurd q (by rw [hz2.2.1]; exact nI_ge (b := 12) hM (by omega)), fun _ => ⟨iv, iv, va, va, vc, vc, ?_⟩⟩⟩))
      rw [hz2.2.1, nI_clamp (by omega), nI_clamp (by omega), nI_clamp (by omega), nI_1]
      generalize hA' : upA (upA (upA (upA A (l + 3) (zM z) (nI r1.1)) (l + 4) (zM z) (nI r2a)) (l + 2) r1.1 (upA (upA A (l + 3) (zM z) (nI r1.1)) (l + 4) (zM z) (nI r2a) (l + 2) r1.1 ||| (1 : Int32) <<< (nI r2a &&& 31))) (l + 2) r2a (upA (upA (upA A (l + 3) (zM z) (nI r1.1)) (l + 4) (zM z) (nI r2a)) (l + 2) r1.1 (upA (upA A (l + 3) (zM z) (nI r1.1)) (l + 4) (zM z) (nI r2a) (l + 2) r1.1 ||| (1 : Int32) <<< (nI r2a &&& 31)) (l + 2) r2a ||| (1 : Int32) <<< (nI r1.1 &&& 31)) = A'
      have fA : lfA l A A' := by
        rw [← hA']
        exact fr_A (fr_A (fr_A (fr_A fr_r (by simp)) (by simp)) (by simp)) (by simp)
      have e3 : A' (l + 3) = upd (A (l + 3)) (zM z) (nI r1.1) := by rw [← hA', upA_n (by omega), upA_n (by omega), upA_n (by omega), upA_s]
      have e4 : A' (l + 4) = upd (A (l + 4)) (zM z) (nI r2a) := by rw [← hA', upA_n (by omega), upA_n (by omega), upA_s, upA_n (by omega)]
      have e2 : ∀ t, A' (l + 2) t = if t = r2a then A (l + 2) t ||| (1 : Int32) <<< (nI r1.1 &&& 31) else if t = r1.1 then A (l + 2) t ||| (1 : Int32) <<< (nI r2a &&& 31) else A (l + 2) t := by
        intro t
        rw [← hA', upA_s, upA_s, upA_n (o := l + 4) (by omega), upA_n (o := l + 3) (by omega)]
        by_cases ht : t = r2a
        · rw [ht, upd_at, if_pos rfl, upd_ne (Ne.symm hne)]
        · rw [upd_ne ht, if_neg ht]
          by_cases ht2 : t = r1.1
          · rw [ht2, upd_at, if_pos rfl]
          · rw [upd_ne ht2, if_neg ht2]
      refine sp_Tape_advance hn (by rw [fA 2 (by simp; omega)]; exact hA) (cS_ne hl1 q2) (fun I3 t3 q3 => wb_Land_readRoad_122 hm (h I3 A' (lfI_t (lfI_T t12) (lfI_t ⟨fr_I fr_r (by simp), by rw [upI_n (Ne.symm hl1)], fun f _ => by rw [upI_n (by omega)]⟩ (lfI_T t3))) fA q3 (fun _ => ?_)))
      rw [if_pos (show osnd (.inr s2) = true from rfl)]
      have i3 : I3 l = upI I2 l 1 (nI (zM z + 1)) l := t3.1 l (by simp; exact hl1)
      have i17 : I3 17 = I2 17 := by rw [t3.1 17 (by simp), upI_n (by omega)]
      refine ⟨by rw [i3, upI_f (by decide)]; exact hz2.1, by rw [i3, upI_s]; rfl, by rw [i17]; exact hz2.2.2.1, fun t ht => ?_, fun e he => ?_⟩
      · have ht : t < zN z := ht
        have q := hz2.2.2.2.1 t ht
        refine ⟨by rw [← hA', upA_n (by omega), upA_n (by omega), upA_n (by omega), upA_n (by omega)]; exact q.1, by rw [← hA', upA_n (by omega), upA_n (by omega), upA_n (by omega), upA_n (by omega)]; exact q.2.1, ?_, ?_⟩
        · rw [← hA', upA_n (by omega), upA_n (by omega), upA_n (by omega), upA_n (by omega)]
          exact q.2.2.1
        · show A' (l + 2) t = froads (rdA (updN (zF z) (zM z) r1.1) (updN (zT z) (zM z) r2a)) (nI t) (zM z + 1)
          rw [e2 t, q.2.2.2, froads_road (by omega) (by omega) (by omega) hne]
      · have he : e < zM z + 1 := he
        show A' (l + 3) e = nI (updN (zF z) (zM z) r1.1 e) ∧ A' (l + 4) e = nI (updN (zT z) (zM z) r2a e)
        rw [e3, e4]
        by_cases hh : e = zM z
        · rw [hh, upd_at, upd_at, updN_s, updN_s]; exact ⟨rfl, rfl⟩
        · rw [upd_ne hh, upd_ne hh, updN_n hh, updN_n hh]; exact hz2.2.2.2.2 e (by omega)
    · unfold rdO; rw [nI_clamp (by omega)] at c2; rw [if_pos (Or.inr (hhas.mp (Classical.not_not.mp c2)))]
theorem widx_lt {f : List Int32 → Bool} : ∀ {ws : List (List Int32)} {k j : Nat}, widx f ws k = some j → k ≤ j ∧ j < k + ws.length
  | [], k, j, h => by cases h
  | w :: ws, k, j, h => by
    unfold widx at h
    by_cases hw : f w = true
    · rw [if_pos hw] at h
      cases h
      simp
    · rw [if_neg hw] at h
      have := widx_lt h
      simp
      omega
def pclN (b : Nat → Int32) (n w : Nat) (z : LZ) (o : PO) : LZ × PO := if w = 0 then pcl0 b n z o else if w = 1 then pcl1 b n z o else pcl2 b n z o
theorem pclause_w {k s w : Nat} (hw : oword b n lwW s = some w) : pclause b n k s z = if 60 ≤ k ∨ (w = 0 ∧ 8 ≤ zN z) ∨ (w = 1 ∧ 12 ≤ zM z) then (z, .inl (3, s)) else pclN b n w z (.inr (nx b n s)) := by
  unfold pclause
  rw [hw]
  rfl
set_option maxHeartbeats 1000000 in
theorem sp_Land_readClause {k s : Nat} (hl : cck l = (3 + 2, 0)) (hn : n ≤ 600) (hA : A 2 = b) (hc : cS b n (.inr s) I) (hz : lCl l z I A) (hk : zOk z) (hk60 : k ≤ 60)
    (h : ∀ I' A', lfI l I I' → lfA l A A' → cS b n (pclause b n k s z).2 I' → (osnd (pclause b n k s z).2 = true → lCl l (pclause b n k s z).1 I' A') → Q none (gset H x cck P I' A')) : meth (d + 6) m_Land_readClause [.ref (x + l), .ref (x + 1), .ref (x + 17), .int (nI k)] (gset H x cck P I A) Q X := by
  have hm := @mo_Land_readClause (meth (d + 5)) (meth_smono (d + 5))
  have dL := cck_L hl
  have hl1 : l ≠ 1 := by omega
  -- from 72 behind a fault
  have fault : ∀ I' e v4 v5 v6, tT I I' → cS b n (.inl e) I' → (pclause b n k s z).2 = .inl e → gWp (gTab (tb_Land_readClause (meth (d + 5)))) Q X 72 [some (.ref (x + l)), some (.ref (x + 1)), some (.ref (x + 17)), some (.int (nI k)), some (.int v4), some (.int v5), some (.int v6)] [] (gset H x cck P I' A) := by
    intro I' e v4 v5 v6 t1 q1 he
    rw [he] at h
    exact wb_Land_readClause_72 hm (sp_Tape_sound q1 (wb_Land_readClause_76 hm ⟨fun c => absurd rfl c, fun _ => h I' A (lfI_T t1) fr_r q1 (fun q => by cases q)⟩))
  refine me_Land_readClause (wb_Land_readClause_0 hm (sp_wordHere (d := d) (ti := 3) (ws := lwW) (by omega) (by decide +kernel) (by decide +kernel) hA hn hc (fun w hw => ?_) (fun hw I' t1 q1 => ?_)))
  · have hw3 : w < 3 := by have := (widx_lt hw).2; simpa [lwW] using this
    have z0 := hz.1
    have z1 := hz.2.1
    -- the three conditions
    have g67 : ∀ v5 v6, 60 ≤ k ∨ (w = 0 ∧ 8 ≤ zN z) ∨ (w = 1 ∧ 12 ≤ zM z) → gWp (gTab (tb_Land_readClause (meth (d + 5)))) Q X 67 [some (.ref (x + l)), some (.ref (x + 1)), some (.ref (x + 17)), some (.int (nI k)), some (.int (nI w)), some (.int v5), some (.int v6)] [] (gset H x cck P I A) := by
      intro v5 v6 hq
      refine wb_Land_readClause_67 hm (sp_Tape_fail (k := 3) (by omega) hn hc (fun I' t1 q1 => fault I' (3, s) _ _ _ t1 q1 ?_))
      rw [pclause_w hw, if_pos hq]
    have g72 : ∀ v5 v6, ¬ (60 ≤ k ∨ (w = 0 ∧ 8 ≤ zN z) ∨ (w = 1 ∧ 12 ≤ zM z)) → gWp (gTab (tb_Land_readClause (meth (d + 5)))) Q X 72 [some (.ref (x + l)), some (.ref (x + 1)), some (.ref (x + 17)), some (.int (nI k)), some (.int (nI w)), some (.int v5), some (.int v6)] [] (gset H x cck P I A) := by
      intro v5 v6 hq
      have hp : pclause b n k s z = if w = 0 then pcl0 b n z (.inr (nx b n s)) else if w = 1 then pcl1 b n z (.inr (nx b n s)) else pcl2 b n z (.inr (nx b n s)) := by
        rw [pclause_w hw, if_neg hq]
        rfl
      rw [hp] at h
      refine wb_Land_readClause_72 hm (sp_Tape_sound hc (wb_Land_readClause_76 hm ⟨fun _ => sp_Tape_advance hn hA hc (fun I1 t1 q1 => wb_Land_readClause_84 hm hl ?_), fun c => absurd i01_1 c⟩))
      have hz1 := lCl_T hl1 t1 hz
      have hA2 : ∀ A', lfA l A A' → A' 2 = b := fun A' f => by rw [f 2 (by simp; omega)]; exact hA
      rcases (show w = 0 ∨ w = 1 ∨ w = 2 by omega) with rfl | rfl | rfl
      · rw [if_pos rfl] at h
        refine ⟨fun c => absurd rfl c, fun _ => sp_Land_readTown hl hn hA q1 hz1 (by omega) (fun I2 A2 f1 f2 q2 q3 => wb_Land_readClause_95 hm (wb_Land_readClause_122 hm (sp_Tape_sign hn (hA2 A2 f2) q2 (fun I3 t3 q4 => wb_Land_readClause_128 hm (h I3 A2 (lfI_t (lfI_T t1) (lfI_t f1 (lfI_T t3))) f2 q4 (fun q => ?_))))))⟩
        exact lCl_T hl1 t3 (q3 (osign_snd q) hk)
      · rw [if_neg (by decide), if_pos rfl] at h
        refine ⟨fun _ => ⟨fun c => absurd rfl c, fun _ => sp_Land_readRoad hl hn hA q1 hz1 hk (by omega) (fun I2 A2 f1 f2 q2 q3 => wb_Land_readClause_109 hm (wb_Land_readClause_122 hm (sp_Tape_sign hn (hA2 A2 f2) q2 (fun I3 t3 q4 => wb_Land_readClause_128 hm (h I3 A2 (lfI_t (lfI_T t1) (lfI_t f1 (lfI_T t3))) f2 q4 (fun q => ?_))))))⟩, fun c => absurd (by decide) c⟩
        exact lCl_T hl1 t3 (q3 (by have := osign_snd q; rwa [oadv_snd] at this))
      · rw [if_neg (by decide), if_neg (by decide)] at h
        refine ⟨fun _ => ⟨fun _ => sp_Tape_number (lo := 0) (hi := 2) rfl rfl (by omega) (by omega) hn hA q1 (fun I2 t2 q2 => wb_Land_readClause_119 hm rfl (wb_Land_readClause_122 hm (sp_Tape_sign hn hA (cS_ne (by decide) q2) (fun I3 t3 q4 => wb_Land_readClause_128 hm (h I3 A (lfI_t (lfI_T (tT_t t1 t2)) (lfI_t ⟨fr_I fr_r (by simp), by rw [upI_n (by decide)], fun f hf => by rw [upI_f hf]⟩ (lfI_T t3))) fr_r q4 (fun _ => ?_)))))), fun c => absurd (by decide) c⟩, fun c => absurd (by decide) c⟩
        have hz2 := lCl_T hl1 t2 hz1
        refine lCl_T hl1 t3 ⟨by rw [upI_n (by omega)]; exact hz2.1, by rw [upI_n (by omega)]; exact hz2.2.1, by rw [upI_s]; rfl, hz2.2.2.2.1, hz2.2.2.2.2⟩
    -- the booleans
    have hk8 : I l 0 < 8 ↔ ¬ 8 ≤ zN z := by rw [z0, show (8 : Int32) = nI 8 from rfl, nI_ltI (by have := hk.1; omega) (by omega)]; omega
    have hk12 : I l 1 < 12 ↔ ¬ 12 ≤ zM z := by rw [z1, show (12 : Int32) = nI 12 from rfl, nI_ltI (by have := hk.2.1; omega) (by omega)]; omega
    have hk6 : (60 : Int32) ≤ nI k ↔ 60 ≤ k := by rw [show (60 : Int32) = nI 60 from rfl, nI_leI (by omega) (by omega)]
    have w0 : nI w = 0 ↔ w = 0 := nI_eq (b := 0) (by omega) (by omega)
    have w1 : nI w = 1 ↔ w = 1 := nI_eq (b := 1) (by omega) (by omega)
    have p49 : ∀ v5 s0, (¬ v5 = 0 ↔ w = 0 ∧ 8 ≤ zN z) → (¬ s0 = 0 ↔ w = 1 ∧ 12 ≤ zM z) → gWp (gTab (tb_Land_readClause (meth (d + 5)))) Q X 49 [some (.ref (x + l)), some (.ref (x + 1)), some (.ref (x + 17)), some (.int (nI k)), some (.int (nI w)), some (.int v5), none] [.int s0] (gset H x cck P I A) := by
      intro v5 s0 a1 a2
      refine wb_Land_readClause_49 hm ⟨fun c => g67 _ _ (Or.inl (hk6.mp c)), fun c => ⟨fun c2 => g67 _ _ (Or.inr (Or.inl (a1.mp c2))), fun c2 => ⟨fun c3 => g72 _ _ ?_, fun c3 => g67 _ _ (Or.inr (Or.inr (a2.mp c3)))⟩⟩⟩
      rintro (q | q | q)
      · exact c (hk6.mpr q)
      · exact c2 (a1.mpr q)
      · exact a2.mpr q c3
    have p27 : ∀ v5, (¬ v5 = 0 ↔ w = 0 ∧ 8 ≤ zN z) → gWp (gTab (tb_Land_readClause (meth (d + 5)))) Q X 27 [some (.ref (x + l)), some (.ref (x + 1)), some (.ref (x + 17)), some (.int (nI k)), some (.int (nI w)), none, none] [.int v5] (gset H x cck P I A) := by
      intro v5 a1
      refine wb_Land_readClause_27 hm hl ⟨fun c => wb_Land_readClause_48 hm (p49 v5 0 a1 ⟨fun q => absurd rfl q, fun q => absurd (w1.mpr q.1) c⟩), fun c => ⟨fun c2 => wb_Land_readClause_48 hm (p49 v5 0 a1 ⟨fun q => absurd rfl q, fun q => absurd q.2 (hk12.mp c2)⟩), fun c2 => p49 v5 1 a1 ⟨fun _ => ⟨w1.mp (Classical.not_not.mp c), Classical.not_not.mp (fun q => c2 (hk12.mpr q))⟩, fun _ => by decide⟩⟩⟩
    refine wb_Land_readClause_6 hm hl ⟨fun c => wb_Land_readClause_26 hm (p27 0 ⟨fun q => absurd rfl q, fun q => absurd (w0.mpr q.1) c⟩), fun c => ⟨fun c2 => wb_Land_readClause_26 hm (p27 0 ⟨fun q => absurd rfl q, fun q => absurd q.2 (hk8.mp c2)⟩), fun c2 => p27 1 ⟨fun _ => ⟨w0.mp (Classical.not_not.mp c), Classical.not_not.mp (fun q => c2 (hk8.mpr q))⟩, fun _ => by decide⟩⟩⟩
  · have he : (pclause b n k s z).2 = .inl (1, s) := by unfold pclause; rw [hw]
    have g := fault I' (1, s) (-1) 0 0 t1 q1 he
    have g67 : gWp (gTab (tb_Land_readClause (meth (d + 5)))) Q X 67 [some (.ref (x + l)), some (.ref (x + 1)), some (.ref (x + 17)), some (.int (nI k)), some (.int (-1)), some (.int 0), some (.int 0)] [] (gset H x cck P I' A) := wb_Land_readClause_67 hm (sp_Tape_fail (k := 3) (by omega) hn q1 (fun I2 t2 q2 => fault I2 (1, s) _ _ _ (tT_t t1 t2) q2 he))
    exact wb_Land_readClause_6 hm hl ⟨fun _ => wb_Land_readClause_26 hm (wb_Land_readClause_27 hm hl ⟨fun _ => wb_Land_readClause_48 hm (wb_Land_readClause_49 hm ⟨fun _ => g67, fun _ => ⟨fun c => absurd rfl c, fun _ => ⟨fun _ => g, fun c => absurd rfl c⟩⟩⟩), fun c => absurd (by decide) c⟩), fun c => absurd (by decide) c⟩
theorem pclause_60 {k s : Nat} (hk : 60 ≤ k) : osnd (pclause b n k s z).2 = false := by
  unfold pclause
  cases oword b n lwW s with
  | none => rfl
  | some w =>
    show osnd (if 60 ≤ k ∨ (w = 0 ∧ 8 ≤ zN z) ∨ (w = 1 ∧ 12 ≤ zM z) then (z, Sum.inl (3, s)) else _).2 = false
    rw [if_pos (Or.inl hk)]
    rfl
theorem pclause_ok {k s : Nat} (hz : zOk z) (h : osnd (pclause b n k s z).2 = true) : zOk (pclause b n k s z).1 := by
  unfold pclause at h ⊢
  cases hw : oword b n lwW s with
  | none => exact hz
  | some w =>
    rw [hw] at h
    have h : osnd (if 60 ≤ k ∨ (w = 0 ∧ 8 ≤ zN z) ∨ (w = 1 ∧ 12 ≤ zM z) then (z, Sum.inl (3, s)) else if w = 0 then pcl0 b n z (.inr (nx b n s)) else if w = 1 then pcl1 b n z (.inr (nx b n s)) else pcl2 b n z (.inr (nx b n s))).2 = true := h
    show zOk (if 60 ≤ k ∨ (w = 0 ∧ 8 ≤ zN z) ∨ (w = 1 ∧ 12 ≤ zM z) then (z, Sum.inl (3, s)) else if w = 0 then pcl0 b n z (.inr (nx b n s)) else if w = 1 then pcl1 b n z (.inr (nx b n s)) else pcl2 b n z (.inr (nx b n s))).1
    by_cases hq : 60 ≤ k ∨ (w = 0 ∧ 8 ≤ zN z) ∨ (w = 1 ∧ 12 ≤ zM z)
    · rw [if_pos hq]; exact hz
    · rw [if_neg hq] at h ⊢
      by_cases h0 : w = 0
      · rw [if_pos h0] at h ⊢
        unfold pcl0 at h ⊢
        have s1 := osign_snd h
        have r3 := onum_ok s1
        have r2 := onum_ok r3.2.2
        have r1 := onum_ok r2.2.2
        show zOk (if _ then _ else _)
        rw [if_pos s1]
        exact zOk_town hz (by omega) r1.1 (by omega) (by omega) r3.1 (by omega)
      · rw [if_neg h0] at h ⊢
        by_cases h1 : w = 1
        · rw [if_pos h1] at h ⊢
          unfold pcl1 at h ⊢
          have s1 := osign_snd h
          rw [oadv_snd] at s1
          have r3 := rdO_ok s1
          have r2 := onumh_ok r3.2.2.1
          have r1 := onum_ok r2.2.2
          show zOk (if _ then _ else _)
          rw [if_pos s1]
          exact zOk_road hz (by omega) r1.2.1 r2.2.1 r3.1
        · rw [if_neg h1] at h ⊢
          have s1 := osign_snd (show osnd (osign b n 59 (onum b n 0 2 (.inr (nx b n s))).2) = true from h)
          have r1 := onum_ok s1
          obtain ⟨a1, a2, a3, a4, a5⟩ := hz
          exact ⟨a1, a2, by show (onum b n 0 2 (.inr (nx b n s))).1 ≤ 1; omega, a4, a5⟩
theorem pland_ok : ∀ (f k : Nat) (z : LZ) (o : PO), zOk z → osnd (pland b n f k z o).2 = true → zOk (pland b n f k z o).1
  | 0, _, _, _, hz, _ => hz
  | _ + 1, _, _, .inl _, hz, _ => hz
  | f + 1, k, z, .inr s, hz, h => by
    unfold pland at h ⊢
    by_cases hs : n ≤ s
    · rw [if_pos hs]; exact hz
    · rw [if_neg hs] at h ⊢
      have hs2 : osnd (pclause b n k s z).2 = true := by
        cases ho : (pclause b n k s z).2 with
        | inl e =>
          rw [ho] at h
          have : ∀ f k z, osnd (pland b n f k z (.inl e)).2 = false := by
            intro f k z
            cases f <;> rfl
          rw [this] at h
          cases h
        | inr s => rfl
      exact pland_ok f (k + 1) _ _ (pclause_ok hz hs2) h
theorem pland_inl {f k : Nat} {e : Nat × Nat} : pland b n f k z (.inl e) = (z, .inl e) := by cases f <;> rfl
theorem ct_end {s : Nat} (hc : ct b n s I) : I 1 5 = 0 ↔ n ≤ s := by
  rw [hc.2.2.2.1]
  rcases tk_cases b n s with ⟨h1, t, _⟩ | ⟨h1, _, t, _⟩ | ⟨h1, _, _, t, _⟩ | ⟨h1, _, _, t, _⟩ <;> rw [t]
  · exact ⟨fun _ => h1, fun _ => rfl⟩
  · exact ⟨fun q => absurd q (by decide), fun q => by omega⟩
  · exact ⟨fun q => absurd q (by decide), fun q => by omega⟩
  · exact ⟨fun q => absurd q (by decide), fun q => by omega⟩
set_option maxHeartbeats 1000000 in
theorem ld_12 (hl : cck l = (3 + 2, 0)) (hn : n ≤ 600) : ∀ (f k : Nat) (z : LZ) (o : PO) (I A : Nat → Nat → Int32), k + f = 61 → A 2 = b → cS b n o I → (osnd o = true → lCl l z I A ∧ zOk z) →
    (∀ I' A', lfI l I I' → lfA l A A' → cS b n (pland b n f k z o).2 I' → (osnd (pland b n f k z o).2 = true → lCl l (pland b n f k z o).1 I' A') → Q none (gset H x cck P I' A')) →
    gWp (gTab (tb_Land_read (meth (d + 6)))) Q X 12 [some (.ref (x + l)), some (.ref (x + 1)), some (.ref (x + 17)), some (.int (nI k))] [] (gset H x cck P I A) := by
  have hm := @mo_Land_read (meth (d + 6)) (meth_smono (d + 6))
  intro f
  induction f with
  | zero =>
    intro k z o I A hk hA hc hz h
    have hk61 : k = 61 := by omega
    subst hk61
    refine wb_Land_read_12 hm ⟨fun _ => wb_Land_read_45 hm (h I A lfI_r fr_r hc (fun q => (hz q).1)), fun c => absurd (show (60 : Int32) < nI 61 by decide) c⟩
  | succ f ih =>
    intro k z o I A hk hA hc hz h
    refine wb_Land_read_12 hm ⟨fun c => absurd c (by rw [show (60 : Int32) = nI 60 from rfl, nI_ltI (by omega) (by omega)]; omega), fun _ => sp_Tape_sound hc (wb_Land_read_22 hm hl ?_)⟩
    cases o with
    | inl e =>
      rw [pland_inl] at h
      exact ⟨fun _ => wb_Land_read_45 hm (h I A lfI_r fr_r hc (fun q => by cases q)), fun c => absurd rfl c⟩
    | inr s =>
      refine ⟨fun c => absurd c i01_1, fun _ => ⟨fun c => wb_Land_read_45 hm ?_, fun c => ?_⟩⟩
      · have hs := (ct_end hc).mp c
        unfold pland at h
        rw [if_pos hs] at h
        exact h I A lfI_r fr_r hc (fun q => (hz q).1)
      · have hs : ¬ n ≤ s := fun q => c ((ct_end hc).mpr q)
        unfold pland at h
        rw [if_neg hs] at h
        refine sp_Land_readClause hl hn hA hc (hz rfl).1 (hz rfl).2 (by omega) (fun I1 A1 f1 f2 q1 q2 => wb_Land_read_39 hm ?_)
        rw [nI_1]
        have dL := cck_L hl
        refine ih (k + 1) _ _ I1 A1 (by omega) (by rw [f2 2 (by simp; omega)]; exact hA) q1 (fun q => ⟨q2 q, pclause_ok (hz rfl).2 q⟩) (fun I2 A2 g1 g2 q3 q4 => h I2 A2 (lfI_t f1 g1) (fr_t f2 g2) q3 q4)
theorem sp_Land_read (hl : cck l = (3 + 2, 0)) (hn : n ≤ 600) (hA : A 2 = b) (hc : cS b n o I) (h17 : I 17 4 = 1)
    (h : ∀ I' A', lfI l I I' → lfA l A A' → cS b n (pland b n 61 0 zNil o).2 I' → (osnd (pland b n 61 0 zNil o).2 = true → lCl l (pland b n 61 0 zNil o).1 I' A') → Q none (gset H x cck P I' A')) : meth (d + 7) m_Land_read [.ref (x + l), .ref (x + 1), .ref (x + 17)] (gset H x cck P I A) Q X := by
  have hm := @mo_Land_read (meth (d + 6)) (meth_smono (d + 6))
  have dL := cck_L hl
  have hl1 : l ≠ 1 := by omega
  refine me_Land_read (wb_Land_read_0 hm hl ?_)
  refine ld_12 hl hn 61 0 zNil o _ A rfl hA (cS_ne hl1 (cS_ne hl1 hc)) (fun _ => ⟨⟨by rw [upI_f (by decide), upI_s]; rfl, by rw [upI_s]; rfl, by rw [upI_n (by omega), upI_n (by omega)]; exact h17, fun t ht => absurd ht (Nat.not_lt_zero t), fun e he => absurd he (Nat.not_lt_zero e)⟩, ?_⟩) (fun I' A' f1 f2 q1 q2 => h I' A' (lfI_t ⟨fr_I (fr_I fr_r (by simp)) (by simp), by rw [upI_n (Ne.symm hl1), upI_n (Ne.symm hl1)], fun f _ => by rw [upI_n (by omega), upI_n (by omega)]⟩ f1) f2 q1 q2)
  exact ⟨Nat.zero_le _, Nat.zero_le _, Nat.le_refl _, fun t ht => absurd ht (Nat.not_lt_zero t), fun e he => absurd he (Nat.not_lt_zero e)⟩
end L2LE
