/-! ===== L2: a state's text: what is read, and how the class reads it ===== -/
def updN (f : Nat → Nat) (k v : Nat) : Nat → Nat := fun j => if j = k then v else f j
theorem updN_s {f : Nat → Nat} {k v : Nat} : updN f k v k = v := if_pos rfl
theorem updN_n {f : Nat → Nat} {k v j : Nat} (h : j ≠ k) : updN f k v j = f j := if_neg h
/-- towns, roads, comma; voters, breathe, seats; from, to -/
abbrev LZ : Type := Nat × Nat × Nat × (Nat → Nat) × (Nat → Nat) × (Nat → Nat) × (Nat → Nat) × (Nat → Nat)
def zN (z : LZ) : Nat := z.1
def zM (z : LZ) : Nat := z.2.1
def zK (z : LZ) : Nat := z.2.2.1
def zV (z : LZ) : Nat → Nat := z.2.2.2.1
def zB (z : LZ) : Nat → Nat := z.2.2.2.2.1
def zC (z : LZ) : Nat → Nat := z.2.2.2.2.2.1
def zF (z : LZ) : Nat → Nat := z.2.2.2.2.2.2.1
def zT (z : LZ) : Nat → Nat := z.2.2.2.2.2.2.2
def zTown (z : LZ) (v b c : Nat) : LZ := (zN z + 1, zM z, zK z, updN (zV z) (zN z) v, updN (zB z) (zN z) b, updN (zC z) (zN z) c, zF z, zT z)
def zRoad (z : LZ) (a c : Nat) : LZ := (zN z, zM z + 1, zK z, zV z, zB z, zC z, updN (zF z) (zM z) a, updN (zT z) (zM z) c)
def zComma (z : LZ) (k : Nat) : LZ := (zN z, zM z, k, zV z, zB z, zC z, zF z, zT z)
def zNil : LZ := (0, 0, 1, fun _ => 0, fun _ => 0, fun _ => 0, fun _ => 0, fun _ => 0)
def hasR (F T : Nat → Nat) (a c : Nat) : Nat → Bool
  | 0 => false
  | e + 1 => hasR F T a c e || (decide (F e = a ∧ T e = c) || decide (F e = c ∧ T e = a))
def rdA (F T : Nat → Nat) : Nat → Int32 := fun j => if j % 2 = 0 then nI (F (j / 2)) else nI (T (j / 2))
def lwW : List (List Int32) := [[116, 111, 119, 110], [114, 111, 97, 100], [99, 111, 109, 109, 97]]
section PCL
variable (b : Nat → Int32) (n : Nat)
def pcl0 (z : LZ) (o : PO) : LZ × PO :=
  (if osnd (onum b n 1 10 (onum b n 0 ((onum b n 1 100 o).1 + 1) (onum b n 1 100 o).2).2).2 = true then zTown z (onum b n 1 100 o).1 (onum b n 0 ((onum b n 1 100 o).1 + 1) (onum b n 1 100 o).2).1 (onum b n 1 10 (onum b n 0 ((onum b n 1 100 o).1 + 1) (onum b n 1 100 o).2).2).1 else z,
    osign b n 59 (onum b n 1 10 (onum b n 0 ((onum b n 1 100 o).1 + 1) (onum b n 1 100 o).2).2).2)
def rdO (z : LZ) (a c : Nat) (o : PO) : PO := if a = c ∨ hasR (zF z) (zT z) a c (zM z) = true then ofail 2 o else o
def pcl1 (z : LZ) (o : PO) : LZ × PO :=
  (if osnd (rdO z (onum b n 0 (zN z) o).1 (onumh b n 0 (zN z) (onum b n 0 (zN z) o).2).1 (onumh b n 0 (zN z) (onum b n 0 (zN z) o).2).2) = true then zRoad z (onum b n 0 (zN z) o).1 (onumh b n 0 (zN z) (onum b n 0 (zN z) o).2).1 else z,
    osign b n 59 (oadv b n (rdO z (onum b n 0 (zN z) o).1 (onumh b n 0 (zN z) (onum b n 0 (zN z) o).2).1 (onumh b n 0 (zN z) (onum b n 0 (zN z) o).2).2)))
def pcl2 (z : LZ) (o : PO) : LZ × PO := (zComma z (onum b n 0 2 o).1, osign b n 59 (onum b n 0 2 o).2)
def pclause (k s : Nat) (z : LZ) : LZ × PO := match oword b n lwW s with
  | none => (z, .inl (1, s))
  | some w => if 60 ≤ k ∨ (w = 0 ∧ 8 ≤ zN z) ∨ (w = 1 ∧ 12 ≤ zM z) then (z, .inl (3, s)) else if w = 0 then pcl0 b n z (.inr (nx b n s)) else if w = 1 then pcl1 b n z (.inr (nx b n s)) else pcl2 b n z (.inr (nx b n s))
def pland : Nat → Nat → LZ → PO → LZ × PO
  | 0, _, z, o => (z, o)
  | _ + 1, _, z, .inl e => (z, .inl e)
  | f + 1, k, z, .inr s => if n ≤ s then (z, .inr s) else pland f (k + 1) (pclause b n k s z).1 (pclause b n k s z).2
end PCL
def zOk (z : LZ) : Prop := zN z ≤ 8 ∧ zM z ≤ 12 ∧ zK z ≤ 1 ∧ (∀ t, t < zN z → 1 ≤ zV z t ∧ zV z t ≤ 99 ∧ zB z t ≤ zV z t ∧ 1 ≤ zC z t ∧ zC z t ≤ 9) ∧ ∀ e, e < zM z → zF z e < zN z ∧ zT z e < zN z ∧ zF z e ≠ zT z e
section PCL2
variable {b : Nat → Int32} {n : Nat}
theorem onumh_ok {lo hi : Nat} {o : PO} (h : osnd (onumh b n lo hi o).2 = true) : lo ≤ (onumh b n lo hi o).1 ∧ (onumh b n lo hi o).1 < hi ∧ osnd o = true := by
  cases o with
  | inl e => cases h
  | inr s =>
    rw [onumh_r] at h ⊢
    by_cases h1 : tk b n s = 1
    · rw [if_pos h1] at h ⊢
      by_cases h2 : lo ≤ nv b n s ∧ nv b n s < hi
      · rw [if_pos h2]; exact ⟨h2.1, h2.2, rfl⟩
      · rw [if_neg h2] at h; cases h
    · rw [if_neg h1] at h; cases h
theorem oadv_snd {o : PO} : osnd (oadv b n o) = osnd o := by cases o <;> rfl
theorem onum_ok {lo hi : Nat} {o : PO} (h : osnd (onum b n lo hi o).2 = true) : lo ≤ (onum b n lo hi o).1 ∧ (onum b n lo hi o).1 < hi ∧ osnd o = true := onumh_ok (by unfold onum at h; rwa [oadv_snd] at h)
theorem onumh_le {lo hi : Nat} {o : PO} : (onumh b n lo hi o).1 = 0 ∨ (onumh b n lo hi o).1 < hi := by
  cases o with
  | inl e => exact Or.inl rfl
  | inr s =>
    rw [onumh_r]
    by_cases h1 : tk b n s = 1
    · rw [if_pos h1]
      by_cases h2 : lo ≤ nv b n s ∧ nv b n s < hi
      · rw [if_pos h2]; exact Or.inr h2.2
      · rw [if_neg h2]; exact Or.inl rfl
    · rw [if_neg h1]; exact Or.inl rfl
theorem rdO_ok {z : LZ} {a c : Nat} {o : PO} (h : osnd (rdO z a c o) = true) : a ≠ c ∧ hasR (zF z) (zT z) a c (zM z) = false ∧ osnd o = true ∧ rdO z a c o = o := by
  unfold rdO at h ⊢
  by_cases hc : a = c ∨ hasR (zF z) (zT z) a c (zM z) = true
  · rw [if_pos hc] at h
    cases o <;> cases h
  · rw [if_neg hc] at h ⊢
    refine ⟨fun q => hc (Or.inl q), ?_, h, rfl⟩
    cases hr : hasR (zF z) (zT z) a c (zM z)
    · rfl
    · exact absurd (Or.inr hr) hc
theorem zOk_town {z : LZ} {v w c : Nat} (h : zOk z) (hn : zN z < 8) (h1 : 1 ≤ v) (h2 : v ≤ 99) (h3 : w ≤ v) (h4 : 1 ≤ c) (h5 : c ≤ 9) : zOk (zTown z v w c) := by
  obtain ⟨a1, a2, a3, a4, a5⟩ := h
  refine ⟨hn, a2, a3, fun t ht => ?_, fun e he => ?_⟩
  · have ht : t < zN z + 1 := ht
    show 1 ≤ updN (zV z) (zN z) v t ∧ updN (zV z) (zN z) v t ≤ 99 ∧ updN (zB z) (zN z) w t ≤ updN (zV z) (zN z) v t ∧ 1 ≤ updN (zC z) (zN z) c t ∧ updN (zC z) (zN z) c t ≤ 9
    by_cases hh : t = zN z
    · rw [hh, updN_s, updN_s, updN_s]; exact ⟨h1, h2, h3, h4, h5⟩
    · rw [updN_n hh, updN_n hh, updN_n hh]; exact a4 t (by omega)
  · have := a5 e he
    exact ⟨Nat.lt_succ_of_lt this.1, Nat.lt_succ_of_lt this.2.1, this.2.2⟩
theorem zOk_road {z : LZ} {a c : Nat} (h : zOk z) (hm : zM z < 12) (h1 : a < zN z) (h2 : c < zN z) (h3 : a ≠ c) : zOk (zRoad z a c) := by
  obtain ⟨a1, a2, a3, a4, a5⟩ := h
  refine ⟨a1, hm, a3, a4, fun e he => ?_⟩
  have he : e < zM z + 1 := he
  show updN (zF z) (zM z) a e < zN z ∧ updN (zT z) (zM z) c e < zN z ∧ updN (zF z) (zM z) a e ≠ updN (zT z) (zM z) c e
  by_cases hh : e = zM z
  · rw [hh, updN_s, updN_s]; exact ⟨h1, h2, h3⟩
  · rw [updN_n hh, updN_n hh]; exact a5 e (by omega)
end PCL2
theorem rdA_e {F T : Nat → Nat} {e : Nat} : rdA F T (2 * e) = nI (F e) ∧ rdA F T (2 * e + 1) = nI (T e) := by
  unfold rdA
  rw [if_pos (by omega), if_neg (by omega), show 2 * e / 2 = e by omega, show (2 * e + 1) / 2 = e by omega]
  exact ⟨rfl, rfl⟩
theorem froads_c {R R' : Nat → Int32} {t : Int32} : ∀ {m : Nat}, (∀ e, e < m → R (2 * e) = R' (2 * e) ∧ R (2 * e + 1) = R' (2 * e + 1)) → froads R t m = froads R' t m
  | 0, _ => rfl
  | m + 1, h => by
    have h1 := h m (by omega)
    rw [froads, froads, froads_c (fun e he => h e (by omega)), h1.1, h1.2]
theorem froads_s {F T : Nat → Nat} {t m : Nat} : froads (rdA F T) (nI t) (m + 1) = (if nI (T m) = nI t then (if nI (F m) = nI t then froads (rdA F T) (nI t) m ||| ((1 : Int32) <<< (nI (T m) &&& 31)) else froads (rdA F T) (nI t) m) ||| ((1 : Int32) <<< (nI (F m) &&& 31)) else (if nI (F m) = nI t then froads (rdA F T) (nI t) m ||| ((1 : Int32) <<< (nI (T m) &&& 31)) else froads (rdA F T) (nI t) m)) := by
  rw [froads, rdA_e.1, rdA_e.2]
theorem froads_bt {F T : Nat → Nat} {a c : Nat} (ha : a < 32) (hc : c < 32) : ∀ {m : Nat}, (∀ e, e < m → F e < 32 ∧ T e < 32) → bt (froads (rdA F T) (nI a) m) c = hasR F T a c m
  | 0, _ => by rw [froads, b_0]; rfl
  | m + 1, h => by
    have hm := h m (by omega)
    have ih := froads_bt (m := m) ha hc (fun e he => h e (by omega))
    rw [froads_s, hasR, ← ih]
    have e1 : (nI (T m) = nI a) ↔ T m = a := nI_eq (by omega) (by omega)
    have e2 : (nI (F m) = nI a) ↔ F m = a := nI_eq (by omega) (by omega)
    by_cases h1 : T m = a
    · rw [if_pos (e1.mpr h1)]
      by_cases h2 : F m = a
      · rw [if_pos (e2.mpr h2), b_or, b_or, b_1shl (by omega) hc, b_1shl (by omega) hc, Bool.or_assoc]
        congr 1
        simp only [h1, h2, true_and, and_true]
        by_cases h3 : a = c
        · subst h3; simp
        · simp [h3, Ne.symm h3]
      · rw [if_neg (fun q => h2 (e2.mp q)), b_or, b_1shl (by omega) hc]
        congr 1
        simp only [h1, h2, false_and, decide_false, Bool.false_or, and_true]
        by_cases h3 : F m = c
        · simp [h3]
        · simp [h3, Ne.symm h3]
    · rw [if_neg (fun q => h1 (e1.mp q))]
      by_cases h2 : F m = a
      · rw [if_pos (e2.mpr h2), b_or, b_1shl (by omega) hc]
        congr 1
        simp only [h1, h2, true_and, and_false, decide_false, Bool.or_false]
        by_cases h3 : T m = c
        · simp [h3]
        · simp [h3, Ne.symm h3]
      · rw [if_neg (fun q => h2 (e2.mp q))]
        simp [h1, h2]
theorem froads_0 {F T : Nat → Nat} {t : Nat} (ht : t < 2 ^ 30) : ∀ {m : Nat}, (∀ e, e < m → F e < t ∧ T e < t) → froads (rdA F T) (nI t) m = 0
  | 0, _ => rfl
  | m + 1, h => by
    have hm := h m (by omega)
    rw [froads_s, if_neg (fun q => by have := (nI_eq (by omega) (by omega)).mp q; omega), if_neg (fun q => by have := (nI_eq (by omega) (by omega)).mp q; omega)]
    exact froads_0 ht (fun e he => h e (by omega))
/-- a state that is being read, in the class's spare land and world -/
def lCl (l : Nat) (z : LZ) (I A : Nat → Nat → Int32) : Prop := I l 0 = nI (zN z) ∧ I l 1 = nI (zM z) ∧ I 17 4 = nI (zK z) ∧ (∀ t, t < zN z → A 18 t = nI (zV z t) ∧ A 19 t = nI (zB z t) ∧ A (l + 1) t = nI (zC z t) ∧ A (l + 2) t = froads (rdA (zF z) (zT z)) (nI t) (zM z)) ∧ ∀ e, e < zM z → A (l + 3) e = nI (zF z e) ∧ A (l + 4) e = nI (zT z e)
def lfI (l : Nat) (I I' : Nat → Nat → Int32) : Prop := Fr [1, l, 17] I I' ∧ I' 1 1 = I 1 1 ∧ ∀ f, f ≠ 4 → I' 17 f = I 17 f
def lfA (l : Nat) (A A' : Nat → Nat → Int32) : Prop := Fr [18, 19, l + 1, l + 2, l + 3, l + 4] A A'
theorem lfI_r {l : Nat} {I : Nat → Nat → Int32} : lfI l I I := ⟨fr_r, rfl, fun _ _ => rfl⟩
theorem lfI_t {l : Nat} {I I' I'' : Nat → Nat → Int32} (h : lfI l I I') (k : lfI l I' I'') : lfI l I I'' := ⟨fr_t h.1 k.1, k.2.1.trans h.2.1, fun f hf => (k.2.2 f hf).trans (h.2.2 f hf)⟩
theorem lfI_T {l : Nat} {I I' : Nat → Nat → Int32} (h : tT I I') : lfI l I I' := ⟨fr_m h.1 (by simp), h.2, fun f _ => by rw [h.1 17 (by decide)]⟩
theorem lCl_T {l : Nat} {z : LZ} {I I' A : Nat → Nat → Int32} (hl : l ≠ 1) (h : tT I I') (hz : lCl l z I A) : lCl l z I' A := by
  obtain ⟨h1, h2, h3, h4⟩ := hz
  exact ⟨by rw [h.1 l (by simp; exact hl)]; exact h1, by rw [h.1 l (by simp; exact hl)]; exact h2, by rw [h.1 17 (by decide)]; exact h3, h4⟩
theorem cS_ne {b : Nat → Int32} {n : Nat} {o : PO} {I : Nat → Nat → Int32} {j f : Nat} {a : Int32} (hj : j ≠ 1) (h : cS b n o I) : cS b n o (upI I j f a) := by
  have e : upI I j f a 1 = I 1 := upI_n (Ne.symm hj)
  cases o with
  | inl x => unfold cS at h ⊢; rw [e]; exact h
  | inr s => unfold cS ct at h ⊢; rw [e]; exact h
section L2LD
variable {d n l : Nat} {Q : gQ} {X : gX} {H : gH} {x : Nat} {P : Nat → Nat} {I A : Nat → Nat → Int32} {b : Nat → Int32} {o : PO} {z : LZ}
set_option maxHeartbeats 1000000 in
theorem sp_Land_readTown (hl : cck l = (3 + 2, 0)) (hn : n ≤ 600) (hA : A 2 = b) (hc : cS b n o I) (hz : lCl l z I A) (hN : zN z < 8)
    (h : ∀ I' A', lfI l I I' → lfA l A A' → cS b n (onum b n 1 10 (onum b n 0 ((onum b n 1 100 o).1 + 1) (onum b n 1 100 o).2).2).2 I' → (osnd (onum b n 1 10 (onum b n 0 ((onum b n 1 100 o).1 + 1) (onum b n 1 100 o).2).2).2 = true → zOk z → lCl l (pcl0 b n z o).1 I' A') → Q none (gset H x cck P I' A')) : meth (d + 4) m_Land_readTown [.ref (x + l), .ref (x + 1), .ref (x + 17)] (gset H x cck P I A) Q X := by
  have hm := @mo_Land_readTown (meth (d + 3)) (meth_smono (d + 3))
  have dL := cck_L hl
  have hl1 : l ≠ 1 := by omega
  unfold pcl0 at h
  refine me_Land_readTown (wb_Land_readTown_0 hm (sp_Tape_number (d := d) (lo := 1) (hi := 100) rfl rfl (by omega) (by omega) hn hA hc (fun I1 t1 q1 => wb_Land_readTown_7 hm ?_)))
  generalize h1 : onum b n 1 100 o = r1 at q1 h ⊢
  have b1 : r1.1 < 100 ∨ r1.1 = 0 := by
    have := onumh_le (b := b) (n := n) (lo := 1) (hi := 100) (o := o)
    rw [← h1]; exact this.symm
  refine sp_Tape_number (d := d) (lo := 0) (hi := r1.1 + 1) rfl (nI_pred _).symm (by omega) (by omega) hn hA q1 (fun I2 t2 q2 => wb_Land_readTown_14 hm ?_)
  generalize h2 : onum b n 0 (r1.1 + 1) r1.2 = r2 at q2 h ⊢
  refine sp_Tape_number (d := d) (lo := 1) (hi := 10) rfl rfl (by omega) (by omega) hn hA q2 (fun I3 t3 q3 => wb_Land_readTown_23 hm (sp_Tape_sound (d := d + 2) q3 (wb_Land_readTown_29 hm hl rfl ?_)))
  generalize h3 : onum b n 1 10 r2.2 = r3 at q3 h ⊢
  have t13 : tT I I3 := tT_t t1 (tT_t t2 t3)
  have hz3 := lCl_T hl1 t13 hz
  obtain ⟨z1, z2, z3, z4, z5⟩ := hz3
  have iv : vp_in (I3 l 0) 8 := by rw [z1]; exact vp_in_nI (by omega) (by omega)
  refine ⟨fun c => wb_Land_readTown_93 hm ?_, fun c => ⟨fun c2 => absurd c2 (by rw [z1]; exact nI_ge (b := 8) (by omega) (by omega)), fun _ => ⟨iv, iv, iv, iv, wb_Land_readTown_93 hm ?_⟩⟩⟩
  · refine h I3 A (lfI_T t13) fr_r q3 (fun q => ?_)
    rw [q] at c
    exact absurd c i01_1
  · have hs : osnd r3.2 = true := by
      cases hq : osnd r3.2
      · rw [hq] at c; exact absurd rfl c
      · rfl
    rw [z1, nI_clamp (by omega), nI_1]
    refine h _ _ (lfI_t (lfI_T t13) ⟨fr_I fr_r (by simp), by rw [upI_n (Ne.symm hl1)], fun f _ => by rw [upI_n (by omega)]⟩) (fr_A (fr_A (fr_A (fr_A fr_r (by simp)) (by simp)) (by simp)) (by simp)) (cS_ne hl1 q3) (fun _ zk => ?_)
    rw [if_pos hs]
    refine ⟨by rw [upI_s]; rfl, by rw [upI_f (by decide)]; exact z2, by rw [upI_n (by omega)]; exact z3, fun t ht => ?_, fun e he => ?_⟩
    · have ht : t < zN z + 1 := ht
      show _ = nI (updN (zV z) (zN z) r1.1 t) ∧ _ = nI (updN (zB z) (zN z) r2.1 t) ∧ _ = nI (updN (zC z) (zN z) r3.1 t) ∧ _
      rw [upA_n (o := l + 2) (by omega), upA_n (o := l + 1) (by omega), upA_n (o := 17 + 2) (by omega), show (18 : Nat) = 17 + 1 from rfl, upA_s]
      rw [upA_n (o := l + 2) (j := 19) (by omega), upA_n (o := l + 1) (j := 19) (by omega), show (19 : Nat) = 17 + 2 from rfl, upA_s, upA_n (o := 17 + 1) (by omega)]
      rw [upA_n (o := l + 2) (j := l + 1) (by omega), upA_s, upA_n (o := 17 + 2) (j := l + 1) (by omega), upA_n (o := 17 + 1) (j := l + 1) (by omega)]
      rw [upA_s, upA_n (o := l + 1) (j := l + 2) (by omega), upA_n (o := 17 + 2) (j := l + 2) (by omega), upA_n (o := 17 + 1) (j := l + 2) (by omega)]
      by_cases hh : t = zN z
      · rw [hh, upd_at, upd_at, upd_at, upd_at, updN_s, updN_s, updN_s]
        refine ⟨rfl, rfl, rfl, (froads_0 (by omega) (fun e he => ?_)).symm⟩
        have := zk.2.2.2.2 e he
        exact ⟨this.1, this.2.1⟩
      · rw [upd_ne hh, upd_ne hh, upd_ne hh, upd_ne hh, updN_n hh, updN_n hh, updN_n hh]
        exact z4 t (by omega)
    · rw [upA_n (by omega), upA_n (by omega), upA_n (by omega), upA_n (by omega), upA_n (by omega), upA_n (by omega), upA_n (by omega), upA_n (by omega)]
      exact z5 e he
theorem froads_road {F T : Nat → Nat} {m a c t : Nat} (ha : a < 8) (hc : c < 8) (ht : t < 8) (hac : a ≠ c) : froads (rdA (updN F m a) (updN T m c)) (nI t) (m + 1) = if t = c then froads (rdA F T) (nI t) m ||| ((1 : Int32) <<< (nI a &&& 31)) else if t = a then froads (rdA F T) (nI t) m ||| ((1 : Int32) <<< (nI c &&& 31)) else froads (rdA F T) (nI t) m := by
  have e : froads (rdA (updN F m a) (updN T m c)) (nI t) m = froads (rdA F T) (nI t) m := froads_c (fun e he => by rw [rdA_e.1, rdA_e.2, rdA_e.1, rdA_e.2, updN_n (by omega), updN_n (by omega)]; exact ⟨rfl, rfl⟩)
  rw [froads_s, e, updN_s, updN_s]
  have e1 : (nI c = nI t) ↔ t = c := by rw [nI_eq (by omega) (by omega)]; exact ⟨Eq.symm, Eq.symm⟩
  have e2 : (nI a = nI t) ↔ t = a := by rw [nI_eq (by omega) (by omega)]; exact ⟨Eq.symm, Eq.symm⟩
  by_cases h1 : t = c
  · rw [if_pos (e1.mpr h1), if_pos h1, if_neg (fun q => by have := e2.mp q; omega)]
  · rw [if_neg (fun q => h1 (e1.mp q)), if_neg h1]
    by_cases h2 : t = a
    · rw [if_pos (e2.mpr h2), if_pos h2]
    · rw [if_neg (fun q => h2 (e2.mp q)), if_neg h2]
end L2LD
