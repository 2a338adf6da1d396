/-! ===== regions of cells as functions; rules to step through a table ===== -/
def upI (I : Nat → Nat → Int32) (o f : Nat) (a : Int32) : Nat → Nat → Int32 := fun j => if j = o then upd (I j) f a else I j
def upP (P : Nat → Nat) (f r : Nat) : Nat → Nat := fun j => if j = f then r else P j
/-- an object's fields: of the class ci, at x + o -/
def cobj (x : Nat) (P : Nat → Nat) (i : Nat → Int32) (o : Nat) : Nat → List Value
  | 0 => [.ref (x + (o + 1)), .ref (x + (o + 2)), .int (i 2), .int (i 3), .int (i 4), .int (i 5), .int (i 6)]
  | 1 => [.ref (x + (o + 1)), .ref (x + (o + 2)), .ref (x + (o + 3)), .ref (x + (o + 4)), .int (i 4), .int (i 5), .int (i 6), .int (i 7)]
  | 2 => [.ref (x + (o + 1)), .int (i 1), .int (i 2), .int (i 3)]
  | 3 => [.int (i 0), .int (i 1), .ref (x + (o + 1)), .ref (x + (o + 2)), .ref (x + (o + 3)), .ref (x + (o + 4))]
  | 4 => [.ref (x + (o + 1)), .ref (x + (o + 2)), .ref (x + (o + 3)), .int (i 3)]
  | 5 => [.ref (x + (o + 1)), .ref (x + (o + 2)), .int (i 2), .int (i 3)]
  | 6 => [.ref (x + (o + 1)), .ref (x + (o + 2)), .ref (x + (o + 3)), .int (i 3), .int (i 4), .int (i 5)]
  | 7 => [.ref (x + (o + 1)), .int (i 1), .int (i 2), .int (i 3), .int (i 4), .int (i 5), .int (i 6), .int (i 7), .int (i 8)]
  | 8 => [.ref (x + (o + 1)), .ref (x + (o + 2)), .ref (x + (o + 3)), .int (i 3), .int (i 4), .int (i 5), .int (i 6), .int (i 7)]
  | 9 => [.ref (x + 1), .ref (x + P 1), .ref (x + P 2), .ref (x + 13), .ref (x + 17), .ref (x + P 5), .ref (x + P 6), .ref (x + P 7), .ref (x + P 8), .ref (x + 35), .ref (x + 40), .ref (x + 43), .ref (x + 47), .int (i 13), .int (i 14), .int (i 15)]
  | 10 => [.int (i 0), .ref (x + 1), .int (i 2), .int (i 3), .int (i 4), .int (i 5), .int (i 6), .int (i 7), .int (i 8), .ref (x + 2), .ref (x + 3), .ref (x + 4), .ref (x + 5), .ref (x + 6), .ref (x + 7), .ref (x + 8), .int (i 16), .int (i 17), .int (i 18), .int (i 19), .int (i 20), .ref (x + 9), .ref (x + 10), .ref (x + 11), .ref (x + 12), .ref (x + 13), .int (i 26), .int (i 27), .ref (x + 14), .ref (x + 15), .ref (x + 16), .int (i 31), .int (i 32), .int (i 33), .int (i 34), .int (i 35), .int (i 36), .ref (x + 17), .ref (x + 18), .ref (x + 19), .ref (x + 20), .ref (x + 21), .ref (x + 22), .int (i 43), .ref (x + 23), .ref (x + 24), .ref (x + 25), .ref (x + 26), .ref (x + 27), .int (i 49), .int (i 50), .int (i 51), .ref (x + 28), .int (i 53)]
  | _ => []
/-- (1, n): an array of n ints; (c + 2, 0): an object of the class c; (0, _): nothing -/
def cE (ck : Nat → Nat × Nat) (x : Nat) (P : Nat → Nat) (I A : Nat → Nat → Int32) (o : Nat) : va_E := match ck o with
  | (c + 2, _) => .inr (c, cobj x P (I o) o c)
  | (_, n) => .inl (0, (n, .inl (A o)))
def gset (H : gH) (x : Nat) (ck : Nat → Nat × Nat) (P : Nat → Nat) (I A : Nat → Nat → Int32) : gH := fun h => if x ≤ h ∧ (ck (h - x)).1 ≠ 0 then some (cE ck x P I A (h - x)) else H h
section GZ
variable {H : gH} {x o : Nat} {ck : Nat → Nat × Nat} {P : Nat → Nat} {I A : Nat → Nat → Int32}
theorem gz_at (ho : (ck o).1 ≠ 0) : gset H x ck P I A (x + o) = some (cE ck x P I A o) := by
  unfold gset
  rw [if_pos ⟨by omega, by rw [Nat.add_sub_cancel_left]; exact ho⟩, Nat.add_sub_cancel_left]
theorem gz_ob {ci : Nat} (ho : ck o = (ci + 2, 0)) : gset H x ck P I A (x + o) = some (.inr (ci, cobj x P (I o) o ci)) := by
  rw [gz_at (by rw [ho]; simp)]
  unfold cE
  rw [ho]
theorem gz_ar {n : Nat} (ho : ck o = (1, n)) : gset H x ck P I A (x + o) = some (.inl (0, (n, .inl (A o)))) := by
  rw [gz_at (by rw [ho]; simp)]
  unfold cE
  rw [ho]
theorem gz_put {I' A' : Nat → Nat → Int32} {P' : Nat → Nat} {e : va_E} (ho : (ck o).1 ≠ 0) (he : e = cE ck x P' I' A' o) (hn : ∀ j, j ≠ o → cE ck x P I A j = cE ck x P' I' A' j) : gu (gset H x ck P I A) (x + o) e = gset H x ck P' I' A' := by
  funext h
  unfold gu
  by_cases hh : h = x + o
  · subst hh
    rw [if_pos rfl, gz_at ho, he]
  · rw [if_neg hh]
    unfold gset
    by_cases hc : x ≤ h ∧ (ck (h - x)).1 ≠ 0
    · rw [if_pos hc, if_pos hc, hn (h - x) (by omega)]
    · rw [if_neg hc, if_neg hc]
theorem cE_I {f j : Nat} {a : Int32} (hj : j ≠ o) : cE ck x P I A j = cE ck x P (upI I o f a) A j := by
  unfold cE
  have : upI I o f a j = I j := by simp [upI, hj]
  rw [this]
theorem gz_int {ci f : Nat} {a : Int32} (ho : ck o = (ci + 2, 0)) (hp : gns (cobj x P (I o) o ci) f (.int a) = cobj x P (upd (I o) f a) o ci) : gu (gset H x ck P I A) (x + o) (.inr (ci, gns (cobj x P (I o) o ci) f (.int a))) = gset H x ck P (upI I o f a) A := by
  refine gz_put (by rw [ho]; simp) ?_ (fun j hj => cE_I hj)
  unfold cE
  rw [ho, hp]
  simp [upI]
def upA (A : Nat → Nat → Int32) (o i : Nat) (a : Int32) : Nat → Nat → Int32 := fun j => if j = o then upd (A j) i a else A j
def upC (A : Nat → Nat → Int32) (o : Nat) (g : Nat → Int32) : Nat → Nat → Int32 := fun j => if j = o then g else A j
theorem gz_arr {n : Nat} {g : Nat → Int32} (ho : ck o = (1, n)) : gu (gset H x ck P I A) (x + o) (.inl (0, (n, .inl g))) = gset H x ck P I (upC A o g) := by
  refine gz_put (by rw [ho]; simp) ?_ (fun j hj => ?_)
  · unfold cE
    rw [ho]
    simp [upC]
  · unfold cE
    have : upC A o g j = A j := by simp [upC, hj]
    rw [this]
theorem upA_C {i : Nat} {a : Int32} : upC A o (upd (A o) i a) = upA A o i a := by
  funext j
  unfold upC upA
  by_cases h : j = o
  · subst h; rw [if_pos rfl]
  · rw [if_neg h, if_neg h]
theorem gz_ref {f r : Nat} (ho : ck 0 = (9 + 2, 0)) (h9 : ∀ j, j ≠ 0 → ck j ≠ (9 + 2, (ck j).2)) (hp : gns (cobj x P (I 0) 0 9) f (.ref (x + r)) = cobj x (upP P f r) (I 0) 0 9) : gu (gset H x ck P I A) (x + 0) (.inr (9, gns (cobj x P (I 0) 0 9) f (.ref (x + r)))) = gset H x ck (upP P f r) I A := by
  refine gz_put (by rw [ho]; simp) ?_ (fun j hj => ?_)
  · unfold cE
    rw [ho, hp]
  · unfold cE
    have h := h9 j hj
    rcases hk : ck j with ⟨c, n⟩
    rw [hk] at h
    match c, h with
    | 0, _ => rfl
    | 1, _ => rfl
    | c + 2, h =>
      have hc : c ≠ 9 := fun q => h (by rw [q])
      have : cobj x P (I j) j c = cobj x (upP P f r) (I j) j c := by
        unfold cobj
        split <;> first | rfl | exact absurd rfl hc
      show Sum.inr (c, cobj x P (I j) j c) = _
      rw [this]
end GZ
section GR
variable {t : List (List gI)} {Q : gQ} {X : gX} {k : Nat} {L : gL} {st : List Value} {H : gH}
theorem x_st {k' : Nat} {f : List Value → Option (List Value)} {st' : List Value} (hm : ∀ k, gMono (gTab t k)) (e : gTab t k = gi_st k' f) (h : f st = some st') (kk : gWp (gTab t) Q X k' L st' H) : gWp (gTab t) Q X k L st H := by
  refine gWp_in hm ?_
  rw [e]
  unfold gi_st
  rw [h]
  exact kk
theorem x_weak {L' : gL} (le : gLe L L') (h : gWp (gTab t) Q X k L st H) : gWp (gTab t) Q X k L' st H := gWp_up _ _ _ _ _ le h
theorem x_div {k' : Nat} {g : Int32 → Int32 → Int32} {a b : Int32} (hm : ∀ k, gMono (gTab t k)) (e : gTab t k = gi_st k' (gf_i2z g)) (h : ¬ b = 0) (kk : gWp (gTab t) Q X k' L (.int (g a b) :: st) H) : gWp (gTab t) Q X k L (.int b :: .int a :: st) H := x_st hm e (by show (if b = 0 then none else _) = _; rw [if_neg h]) kk
theorem x_ldiv {k' : Nat} {g : Int64 → Int64 → Int64} {a b : Int64} (hm : ∀ k, gMono (gTab t k)) (e : gTab t k = gi_st k' (gf_l2z g)) (h : ¬ b = 0) (kk : gWp (gTab t) Q X k' L (.long (g a b) :: st) H) : gWp (gTab t) Q X k L (.long b :: .long a :: st) H := x_st hm e (by show (if b = 0 then none else _) = _; rw [if_neg h]) kk
theorem x_goto {k' : Nat} (hm : ∀ k, gMono (gTab t k)) (e : gTab t k = gi_goto k') (kk : gWp (gTab t) Q X k' L st H) : gWp (gTab t) Q X k L st H := by
  refine gWp_in hm ?_
  rw [e]
  exact kk
theorem x_iload {k' i : Nat} {a : Int32} (hm : ∀ k, gMono (gTab t k)) (e : gTab t k = gi_iload k' i) (h : gl L i = some (.int a)) (kk : gWp (gTab t) Q X k' L (.int a :: st) H) : gWp (gTab t) Q X k L st H := by
  refine gWp_in hm ?_
  rw [e]
  unfold gi_iload
  rw [h]
  exact kk
theorem x_lload {k' i : Nat} {a : Int64} (hm : ∀ k, gMono (gTab t k)) (e : gTab t k = gi_lload k' i) (h : gl L i = some (.long a)) (kk : gWp (gTab t) Q X k' L (.long a :: st) H) : gWp (gTab t) Q X k L st H := by
  refine gWp_in hm ?_
  rw [e]
  unfold gi_lload
  rw [h]
  exact kk
theorem x_aload {k' i : Nat} {a : Nat} (hm : ∀ k, gMono (gTab t k)) (e : gTab t k = gi_aload k' i) (h : gl L i = some (.ref a)) (kk : gWp (gTab t) Q X k' L (.ref a :: st) H) : gWp (gTab t) Q X k L st H := by
  refine gWp_in hm ?_
  rw [e]
  unfold gi_aload
  rw [h]
  exact kk
theorem x_istore {k' i : Nat} {a : Int32} {L' : gL} (hm : ∀ k, gMono (gTab t k)) (e : gTab t k = gi_istore k' i) (h : gst1 L i (.int a) = L') (kk : gWp (gTab t) Q X k' L' st H) : gWp (gTab t) Q X k L (.int a :: st) H := by
  refine gWp_in hm ?_
  rw [e]
  subst h
  exact kk
theorem x_lstore {k' i : Nat} {a : Int64} {L' : gL} (hm : ∀ k, gMono (gTab t k)) (e : gTab t k = gi_lstore k' i) (h : gst2 L i (.long a) = L') (kk : gWp (gTab t) Q X k' L' st H) : gWp (gTab t) Q X k L (.long a :: st) H := by
  refine gWp_in hm ?_
  rw [e]
  subst h
  exact kk
theorem x_astore {k' i : Nat} {a : Nat} {L' : gL} (hm : ∀ k, gMono (gTab t k)) (e : gTab t k = gi_astore k' i) (h : gst1 L i (.ref a) = L') (kk : gWp (gTab t) Q X k' L' st H) : gWp (gTab t) Q X k L (.ref a :: st) H := by
  refine gWp_in hm ?_
  rw [e]
  subst h
  exact kk
theorem x_iinc {k' i : Nat} {a d : Int32} {L' : gL} (hm : ∀ k, gMono (gTab t k)) (e : gTab t k = gi_iinc k' i d) (h : gl L i = some (.int a)) (h2 : gst1 L i (.int (a + d)) = L') (kk : gWp (gTab t) Q X k' L' st H) : gWp (gTab t) Q X k L st H := by
  refine gWp_in hm ?_
  rw [e]
  unfold gi_iinc
  rw [h]
  subst h2
  exact kk
theorem x_if {k' tg : Nat} {c : Int32 → Prop} {a : Int32} (hm : ∀ k, gMono (gTab t k)) (e : gTab t k = gi_if k' tg c) (kt : c a → gWp (gTab t) Q X tg L st H) (kf : ¬ c a → gWp (gTab t) Q X k' L st H) : gWp (gTab t) Q X k L (.int a :: st) H := by
  refine gWp_in hm ?_
  rw [e]
  exact ⟨kt, kf⟩
theorem x_icmp {k' tg : Nat} {c : Int32 → Int32 → Prop} {a b : Int32} (hm : ∀ k, gMono (gTab t k)) (e : gTab t k = gi_icmp k' tg c) (kt : c a b → gWp (gTab t) Q X tg L st H) (kf : ¬ c a b → gWp (gTab t) Q X k' L st H) : gWp (gTab t) Q X k L (.int b :: .int a :: st) H := by
  refine gWp_in hm ?_
  rw [e]
  exact ⟨kt, kf⟩
theorem x_tsw {lo : Int} {ts : List Nat} {df : Nat} {a : Int32} (hm : ∀ k, gMono (gTab t k)) (e : gTab t k = gi_tsw lo ts df) (kk : gWp (gTab t) Q X (if a.toInt < lo ∨ lo + (ts.length : Int) ≤ a.toInt then df else ts.getD (a.toInt - lo).toNat df) L st H) : gWp (gTab t) Q X k L (.int a :: st) H := by
  refine gWp_in hm ?_
  rw [e]
  exact kk
theorem x_lsw {qs : List (Int32 × Nat)} {df : Nat} {a : Int32} (hm : ∀ k, gMono (gTab t k)) (e : gTab t k = gi_lsw qs df) (kk : gWp (gTab t) Q X (glk a df qs) L st H) : gWp (gTab t) Q X k L (.int a :: st) H := by
  refine gWp_in hm ?_
  rw [e]
  exact kk
theorem x_vret (hm : ∀ k, gMono (gTab t k)) (e : gTab t k = gi_vret) (kk : Q none H) : gWp (gTab t) Q X k L [] H := by
  refine gWp_in hm ?_
  rw [e]
  exact kk
theorem x_iret {a : Int32} (hm : ∀ k, gMono (gTab t k)) (e : gTab t k = gi_iret) (kk : Q (some (.int a)) H) : gWp (gTab t) Q X k L [.int a] H := by
  refine gWp_in hm ?_
  rw [e]
  exact kk
theorem x_zret {a : Int32} {ty : FieldType} (hm : ∀ k, gMono (gTab t k)) (e : gTab t k = gi_zret ty) (h : narrow ty (.int a) = .int a) (kk : Q (some (.int a)) H) : gWp (gTab t) Q X k L [.int a] H := by
  refine gWp_in hm ?_
  rw [e]
  exact ⟨h, kk⟩
theorem x_lret {a : Int64} (hm : ∀ k, gMono (gTab t k)) (e : gTab t k = gi_lret) (kk : Q (some (.long a)) H) : gWp (gTab t) Q X k L [.long a] H := by
  refine gWp_in hm ?_
  rw [e]
  exact kk
theorem x_throw {E : String} (hm : ∀ k, gMono (gTab t k)) (e : gTab t k = gi_throw E) (kk : X E H) : gWp (gTab t) Q X k L [] H := by
  refine gWp_in hm ?_
  rw [e]
  exact ⟨rfl, kk⟩
theorem x_calls {S : gS} {k' na : Nat} {as rest : List Value} (hm : ∀ k, gMono (gTab t k)) (e : gTab t k = gi_calls S k' na) (h1 : (st.take na).reverse = as) (h2 : st.drop na = rest) (h3 : na ≤ st.length) (h4 : gcat rest ≤ 8) (kk : S as H (fun r H' => gWp (gTab t) Q X k' L (r.toList ++ rest) H') X) : gWp (gTab t) Q X k L st H := by
  subst h1; subst h2
  refine gWp_in hm ?_
  rw [e]
  exact ⟨h3, h4, kk⟩
theorem x_callx {S : gS} {k' na : Nat} {as rest : List Value} (hm : ∀ k, gMono (gTab t k)) (e : gTab t k = gi_callx S k' na) (h1 : (st.take na).reverse = as) (h2 : st.drop na = rest) (h3 : na ≤ st.length) (h4 : gcat rest ≤ 8) (h5 : grecvx as) (kk : S as H (fun r H' => gWp (gTab t) Q X k' L (r.toList ++ rest) H') X) : gWp (gTab t) Q X k L st H := by
  subst h1; subst h2
  refine gWp_in hm ?_
  rw [e]
  exact ⟨h3, h4, h5, kk⟩
section GRZ
variable {H0 : gH} {x o : Nat} {ck : Nat → Nat × Nat} {P : Nat → Nat} {I A : Nat → Nat → Int32}
theorem x_callv {S : gS} {ci k' na : Nat} {as rest : List Value} (hm : ∀ k, gMono (gTab t k)) (e : gTab t k = gi_callv S ci k' na) (h1 : (st.take na).reverse = .ref (x + o) :: as) (h2 : st.drop na = rest) (h3 : na ≤ st.length) (h4 : gcat rest ≤ 8) (ho : ck o = (ci + 2, 0)) (kk : S (.ref (x + o) :: as) (gset H0 x ck P I A) (fun r H' => gWp (gTab t) Q X k' L (r.toList ++ rest) H') X) : gWp (gTab t) Q X k L st (gset H0 x ck P I A) := by
  subst h2
  refine gWp_in hm ?_
  rw [e]
  unfold gi_callv
  rw [h1]
  refine ⟨h3, h4, ?_, kk⟩
  show (match gset H0 x ck P I A (x + o) with | some (.inr (c, _)) => c = ci | _ => False)
  rw [gz_ob ho]
theorem x_get {k' ci f : Nat} {v : Value} (hm : ∀ k, gMono (gTab t k)) (e : gTab t k = gi_get k' ci f) (ho : ck o = (ci + 2, 0)) (h : gn (cobj x P (I o) o ci) f = some v) (kk : gWp (gTab t) Q X k' L (v :: st) (gset H0 x ck P I A)) : gWp (gTab t) Q X k L (.ref (x + o) :: st) (gset H0 x ck P I A) := by
  refine gWp_in hm ?_
  rw [e]
  show (match gfld (gset H0 x ck P I A) (x + o) ci f with | some v => gWp (gTab t) Q X k' L (v :: st) (gset H0 x ck P I A) | none => False)
  unfold gfld
  rw [gz_ob ho]
  simp only [if_true, h]
  exact kk
theorem x_puti {k' ci f : Nat} {a : Int32} (hm : ∀ k, gMono (gTab t k)) (e : gTab t k = gi_puti k' ci f) (ho : ck o = (ci + 2, 0)) (h : (gn (cobj x P (I o) o ci) f).isSome = true) (hp : gns (cobj x P (I o) o ci) f (.int a) = cobj x P (upd (I o) f a) o ci) (kk : gWp (gTab t) Q X k' L st (gset H0 x ck P (upI I o f a) A)) : gWp (gTab t) Q X k L (.int a :: .ref (x + o) :: st) (gset H0 x ck P I A) := by
  refine gWp_in hm ?_
  rw [e]
  show (match gput (gset H0 x ck P I A) (x + o) ci f (.int a) with | some H' => gWp (gTab t) Q X k' L st H' | none => False)
  unfold gput
  rw [gz_ob ho]
  obtain ⟨v, hv⟩ := Option.isSome_iff_exists.mp h
  simp only [if_true, hv]
  rw [gz_int ho hp]
  exact kk
theorem x_putr {k' f r : Nat} (hm : ∀ k, gMono (gTab t k)) (e : gTab t k = gi_putr k' 9 f) (ho : ck 0 = (9 + 2, 0)) (h9 : ∀ j, j ≠ 0 → ck j ≠ (9 + 2, (ck j).2)) (h : (gn (cobj x P (I 0) 0 9) f).isSome = true) (hp : gns (cobj x P (I 0) 0 9) f (.ref (x + r)) = cobj x (upP P f r) (I 0) 0 9) (kk : gWp (gTab t) Q X k' L st (gset H0 x ck (upP P f r) I A)) : gWp (gTab t) Q X k L (.ref (x + r) :: .ref (x + 0) :: st) (gset H0 x ck P I A) := by
  refine gWp_in hm ?_
  rw [e]
  show (match gput (gset H0 x ck P I A) (x + 0) 9 f (.ref (x + r)) with | some H' => gWp (gTab t) Q X k' L st H' | none => False)
  unfold gput
  rw [gz_ob ho]
  obtain ⟨v, hv⟩ := Option.isSome_iff_exists.mp h
  simp only [if_true, hv]
  rw [gz_ref ho h9 hp]
  exact kk
theorem x_iald {k' n : Nat} {i : Int32} (hm : ∀ k, gMono (gTab t k)) (e : gTab t k = gi_iald k') (ho : ck o = (1, n)) (hin : vp_in i n) (kk : gWp (gTab t) Q X k' L (.int (A o i.toNatClampNeg) :: st) (gset H0 x ck P I A)) : gWp (gTab t) Q X k L (.int i :: .ref (x + o) :: st) (gset H0 x ck P I A) := by
  refine gWp_in hm ?_
  rw [e]
  show (match gai (gset H0 x ck P I A) (x + o) with | some (n, f) => vp_in i n ∧ gWp (gTab t) Q X k' L (.int (f i.toNatClampNeg) :: st) (gset H0 x ck P I A) | none => False)
  unfold gai
  rw [gz_ar ho]
  exact ⟨hin, kk⟩
theorem x_alen {k' n : Nat} (hm : ∀ k, gMono (gTab t k)) (e : gTab t k = gi_alen k') (ho : ck o = (1, n)) (kk : gWp (gTab t) Q X k' L (.int (Int32.ofNat n) :: st) (gset H0 x ck P I A)) : gWp (gTab t) Q X k L (.ref (x + o) :: st) (gset H0 x ck P I A) := by
  refine gWp_in hm ?_
  rw [e]
  show (match gai (gset H0 x ck P I A) (x + o) with | some (n, _) => gWp (gTab t) Q X k' L (.int (Int32.ofNat n) :: st) (gset H0 x ck P I A) | none => False)
  unfold gai
  rw [gz_ar ho]
  exact kk
theorem x_iast {k' n : Nat} {i a : Int32} (hm : ∀ k, gMono (gTab t k)) (e : gTab t k = gi_iast k') (ho : ck o = (1, n)) (hin : vp_in i n) (kk : gWp (gTab t) Q X k' L st (gset H0 x ck P I (upA A o i.toNatClampNeg a))) : gWp (gTab t) Q X k L (.int a :: .int i :: .ref (x + o) :: st) (gset H0 x ck P I A) := by
  refine gWp_in hm ?_
  rw [e]
  show (match gai (gset H0 x ck P I A) (x + o) with | some (n, f) => vp_in i n ∧ gWp (gTab t) Q X k' L st (gu (gset H0 x ck P I A) (x + o) (.inl (0, (n, .inl (upd f i.toNatClampNeg a))))) | none => False)
  unfold gai
  rw [gz_ar ho]
  refine ⟨hin, ?_⟩
  rw [gz_arr ho, upA_C]
  exact kk
theorem x_copy {k' n0 n1 o1 : Nat} {n dp sp : Int32} (hm : ∀ k, gMono (gTab t k)) (e : gTab t k = gi_copy k') (ho : ck o = (1, n0)) (ho1 : ck o1 = (1, n1)) (h1 : ¬ sp < 0) (h2 : ¬ dp < 0) (h3 : ¬ n < 0) (h4 : sp.toNatClampNeg + n.toNatClampNeg ≤ n0) (h5 : dp.toNatClampNeg + n.toNatClampNeg ≤ n1) (h6 : gcat st ≤ 8) (kk : gWp (gTab t) Q X k' L st (gset H0 x ck P I (upC A o1 (va_cpy (A o) (A o1) sp.toNatClampNeg dp.toNatClampNeg n.toNatClampNeg)))) : gWp (gTab t) Q X k L (.int n :: .int dp :: .ref (x + o1) :: .int sp :: .ref (x + o) :: st) (gset H0 x ck P I A) := by
  refine gWp_in hm ?_
  rw [e]
  show (match gai (gset H0 x ck P I A) (x + o), gai (gset H0 x ck P I A) (x + o1) with
    | some (n0, f), some (n1, g) => ¬ sp < 0 ∧ ¬ dp < 0 ∧ ¬ n < 0 ∧ sp.toNatClampNeg + n.toNatClampNeg ≤ n0 ∧ dp.toNatClampNeg + n.toNatClampNeg ≤ n1 ∧ gcat st ≤ 8 ∧ gWp (gTab t) Q X k' L st (gu (gset H0 x ck P I A) (x + o1) (.inl (0, (n1, .inl (va_cpy f g sp.toNatClampNeg dp.toNatClampNeg n.toNatClampNeg)))))
    | _, _ => False)
  have q1 : gai (gset H0 x ck P I A) (x + o) = some (n0, A o) := by unfold gai; rw [gz_ar ho]; rfl
  have q2 : gai (gset H0 x ck P I A) (x + o1) = some (n1, A o1) := by unfold gai; rw [gz_ar ho1]; rfl
  rw [q1, q2]
  refine ⟨h1, h2, h3, h4, h5, h6, ?_⟩
  rw [gz_arr ho1]
  exact kk
end GRZ
end GR
-- the class's cells, and the reference's
def cckL : List (Nat × Nat) := [(11, 0), (9, 0), (1, 600), (5, 0), (1, 8), (1, 8), (1, 12), (1, 12), (5, 0), (1, 8), (1, 8), (1, 12), (1, 12), (10, 0), (1, 8), (1, 8), (1, 8), (10, 0), (1, 8), (1, 8), (1, 8), (6, 0), (1, 150), (1, 10), (1, 32), (6, 0), (1, 150), (1, 10), (1, 32), (2, 0), (1, 8), (1, 24), (2, 0), (1, 8), (1, 24), (3, 0), (1, 38), (1, 38), (1, 38), (1, 38), (7, 0), (1, 336), (1, 1074), (8, 0), (1, 8), (1, 64), (1, 64), (4, 0), (10, 0), (1, 8), (1, 8), (1, 8)]
def cck (o : Nat) : Nat × Nat := cckL.getD o (0, 0)
def mckL : List (Nat × Nat) := [(12, 0), (1, 2), (1, 600), (1, 8), (1, 8), (1, 8), (1, 24), (1, 8), (1, 24), (1, 150), (1, 150), (1, 150), (1, 150), (1, 150), (1, 10), (1, 200), (1, 200), (1, 28), (1, 28), (1, 448), (1, 8), (1, 8), (1, 8), (1, 73), (1, 8), (1, 3), (1, 341), (1, 8), (1, 1431)]
def mck (o : Nat) : Nat × Nat := mckL.getD o (0, 0)
theorem cck_all {p : Nat → Prop} (h : ∀ o, o < 52 → p o) (hb : ∀ o, cck o = (0, 0) → p o) (o : Nat) : p o := by
  by_cases ho : o < 52
  · exact h o ho
  · refine hb o ?_
    unfold cck
    rw [List.getD_eq_getElem?_getD, List.getElem?_eq_none (by show 52 ≤ o; omega)]
    rfl
theorem ca_0_1 {o : Nat} (h : cck o = (0 + 2, 0)) : cck (o + 1) = (1, 8) := cck_all (p := fun o => cck o = (0 + 2, 0) → cck (o + 1) = (1, 8)) (by decide +kernel) (fun o h q => by rw [h] at q; cases q) o h
theorem ca_0_2 {o : Nat} (h : cck o = (0 + 2, 0)) : cck (o + 2) = (1, 24) := cck_all (p := fun o => cck o = (0 + 2, 0) → cck (o + 2) = (1, 24)) (by decide +kernel) (fun o h q => by rw [h] at q; cases q) o h
theorem ca_1_1 {o : Nat} (h : cck o = (1 + 2, 0)) : cck (o + 1) = (1, 38) := cck_all (p := fun o => cck o = (1 + 2, 0) → cck (o + 1) = (1, 38)) (by decide +kernel) (fun o h q => by rw [h] at q; cases q) o h
theorem ca_1_2 {o : Nat} (h : cck o = (1 + 2, 0)) : cck (o + 2) = (1, 38) := cck_all (p := fun o => cck o = (1 + 2, 0) → cck (o + 2) = (1, 38)) (by decide +kernel) (fun o h q => by rw [h] at q; cases q) o h
theorem ca_1_3 {o : Nat} (h : cck o = (1 + 2, 0)) : cck (o + 3) = (1, 38) := cck_all (p := fun o => cck o = (1 + 2, 0) → cck (o + 3) = (1, 38)) (by decide +kernel) (fun o h q => by rw [h] at q; cases q) o h
theorem ca_1_4 {o : Nat} (h : cck o = (1 + 2, 0)) : cck (o + 4) = (1, 38) := cck_all (p := fun o => cck o = (1 + 2, 0) → cck (o + 4) = (1, 38)) (by decide +kernel) (fun o h q => by rw [h] at q; cases q) o h
theorem ca_3_1 {o : Nat} (h : cck o = (3 + 2, 0)) : cck (o + 1) = (1, 8) := cck_all (p := fun o => cck o = (3 + 2, 0) → cck (o + 1) = (1, 8)) (by decide +kernel) (fun o h q => by rw [h] at q; cases q) o h
theorem ca_3_2 {o : Nat} (h : cck o = (3 + 2, 0)) : cck (o + 2) = (1, 8) := cck_all (p := fun o => cck o = (3 + 2, 0) → cck (o + 2) = (1, 8)) (by decide +kernel) (fun o h q => by rw [h] at q; cases q) o h
theorem ca_3_3 {o : Nat} (h : cck o = (3 + 2, 0)) : cck (o + 3) = (1, 12) := cck_all (p := fun o => cck o = (3 + 2, 0) → cck (o + 3) = (1, 12)) (by decide +kernel) (fun o h q => by rw [h] at q; cases q) o h
theorem ca_3_4 {o : Nat} (h : cck o = (3 + 2, 0)) : cck (o + 4) = (1, 12) := cck_all (p := fun o => cck o = (3 + 2, 0) → cck (o + 4) = (1, 12)) (by decide +kernel) (fun o h q => by rw [h] at q; cases q) o h
theorem ca_4_1 {o : Nat} (h : cck o = (4 + 2, 0)) : cck (o + 1) = (1, 150) := cck_all (p := fun o => cck o = (4 + 2, 0) → cck (o + 1) = (1, 150)) (by decide +kernel) (fun o h q => by rw [h] at q; cases q) o h
theorem ca_4_2 {o : Nat} (h : cck o = (4 + 2, 0)) : cck (o + 2) = (1, 10) := cck_all (p := fun o => cck o = (4 + 2, 0) → cck (o + 2) = (1, 10)) (by decide +kernel) (fun o h q => by rw [h] at q; cases q) o h
theorem ca_4_3 {o : Nat} (h : cck o = (4 + 2, 0)) : cck (o + 3) = (1, 32) := cck_all (p := fun o => cck o = (4 + 2, 0) → cck (o + 3) = (1, 32)) (by decide +kernel) (fun o h q => by rw [h] at q; cases q) o h
theorem ca_5_1 {o : Nat} (h : cck o = (5 + 2, 0)) : cck (o + 1) = (1, 336) := cck_all (p := fun o => cck o = (5 + 2, 0) → cck (o + 1) = (1, 336)) (by decide +kernel) (fun o h q => by rw [h] at q; cases q) o h
theorem ca_5_2 {o : Nat} (h : cck o = (5 + 2, 0)) : cck (o + 2) = (1, 1074) := cck_all (p := fun o => cck o = (5 + 2, 0) → cck (o + 2) = (1, 1074)) (by decide +kernel) (fun o h q => by rw [h] at q; cases q) o h
theorem ca_6_1 {o : Nat} (h : cck o = (6 + 2, 0)) : cck (o + 1) = (1, 8) := cck_all (p := fun o => cck o = (6 + 2, 0) → cck (o + 1) = (1, 8)) (by decide +kernel) (fun o h q => by rw [h] at q; cases q) o h
theorem ca_6_2 {o : Nat} (h : cck o = (6 + 2, 0)) : cck (o + 2) = (1, 64) := cck_all (p := fun o => cck o = (6 + 2, 0) → cck (o + 2) = (1, 64)) (by decide +kernel) (fun o h q => by rw [h] at q; cases q) o h
theorem ca_6_3 {o : Nat} (h : cck o = (6 + 2, 0)) : cck (o + 3) = (1, 64) := cck_all (p := fun o => cck o = (6 + 2, 0) → cck (o + 3) = (1, 64)) (by decide +kernel) (fun o h q => by rw [h] at q; cases q) o h
theorem ca_7_1 {o : Nat} (h : cck o = (7 + 2, 0)) : cck (o + 1) = (1, 600) := cck_all (p := fun o => cck o = (7 + 2, 0) → cck (o + 1) = (1, 600)) (by decide +kernel) (fun o h q => by rw [h] at q; cases q) o h
theorem ca_8_1 {o : Nat} (h : cck o = (8 + 2, 0)) : cck (o + 1) = (1, 8) := cck_all (p := fun o => cck o = (8 + 2, 0) → cck (o + 1) = (1, 8)) (by decide +kernel) (fun o h q => by rw [h] at q; cases q) o h
theorem ca_8_2 {o : Nat} (h : cck o = (8 + 2, 0)) : cck (o + 2) = (1, 8) := cck_all (p := fun o => cck o = (8 + 2, 0) → cck (o + 2) = (1, 8)) (by decide +kernel) (fun o h q => by rw [h] at q; cases q) o h
theorem ca_8_3 {o : Nat} (h : cck o = (8 + 2, 0)) : cck (o + 3) = (1, 8) := cck_all (p := fun o => cck o = (8 + 2, 0) → cck (o + 3) = (1, 8)) (by decide +kernel) (fun o h q => by rw [h] at q; cases q) o h
theorem ca_2_1 {o : Nat} (h : cck o = (2 + 2, 0)) : cck (o + 1) = (8 + 2, 0) := cck_all (p := fun o => cck o = (2 + 2, 0) → cck (o + 1) = (8 + 2, 0)) (by decide +kernel) (fun o h q => by rw [h] at q; cases q) o h
theorem cck_9 : ∀ j, j ≠ 0 → cck j ≠ (9 + 2, (cck j).2) := cck_all (p := fun j => j ≠ 0 → cck j ≠ (9 + 2, (cck j).2)) (by decide +kernel) (fun o h _ q => by rw [h] at q; cases q)
theorem cp_0_2 {x o : Nat} {P : Nat → Nat} {i : Nat → Int32} {a : Int32} : gns (cobj x P i o 0) 2 (.int a) = cobj x P (upd i 2 a) o 0 := rfl
theorem cp_0_3 {x o : Nat} {P : Nat → Nat} {i : Nat → Int32} {a : Int32} : gns (cobj x P i o 0) 3 (.int a) = cobj x P (upd i 3 a) o 0 := rfl
theorem cp_0_4 {x o : Nat} {P : Nat → Nat} {i : Nat → Int32} {a : Int32} : gns (cobj x P i o 0) 4 (.int a) = cobj x P (upd i 4 a) o 0 := rfl
theorem cp_0_5 {x o : Nat} {P : Nat → Nat} {i : Nat → Int32} {a : Int32} : gns (cobj x P i o 0) 5 (.int a) = cobj x P (upd i 5 a) o 0 := rfl
theorem cp_0_6 {x o : Nat} {P : Nat → Nat} {i : Nat → Int32} {a : Int32} : gns (cobj x P i o 0) 6 (.int a) = cobj x P (upd i 6 a) o 0 := rfl
theorem cp_1_4 {x o : Nat} {P : Nat → Nat} {i : Nat → Int32} {a : Int32} : gns (cobj x P i o 1) 4 (.int a) = cobj x P (upd i 4 a) o 1 := rfl
theorem cp_1_5 {x o : Nat} {P : Nat → Nat} {i : Nat → Int32} {a : Int32} : gns (cobj x P i o 1) 5 (.int a) = cobj x P (upd i 5 a) o 1 := rfl
theorem cp_1_6 {x o : Nat} {P : Nat → Nat} {i : Nat → Int32} {a : Int32} : gns (cobj x P i o 1) 6 (.int a) = cobj x P (upd i 6 a) o 1 := rfl
theorem cp_1_7 {x o : Nat} {P : Nat → Nat} {i : Nat → Int32} {a : Int32} : gns (cobj x P i o 1) 7 (.int a) = cobj x P (upd i 7 a) o 1 := rfl
theorem cp_2_1 {x o : Nat} {P : Nat → Nat} {i : Nat → Int32} {a : Int32} : gns (cobj x P i o 2) 1 (.int a) = cobj x P (upd i 1 a) o 2 := rfl
theorem cp_2_2 {x o : Nat} {P : Nat → Nat} {i : Nat → Int32} {a : Int32} : gns (cobj x P i o 2) 2 (.int a) = cobj x P (upd i 2 a) o 2 := rfl
theorem cp_2_3 {x o : Nat} {P : Nat → Nat} {i : Nat → Int32} {a : Int32} : gns (cobj x P i o 2) 3 (.int a) = cobj x P (upd i 3 a) o 2 := rfl
theorem cp_3_0 {x o : Nat} {P : Nat → Nat} {i : Nat → Int32} {a : Int32} : gns (cobj x P i o 3) 0 (.int a) = cobj x P (upd i 0 a) o 3 := rfl
theorem cp_3_1 {x o : Nat} {P : Nat → Nat} {i : Nat → Int32} {a : Int32} : gns (cobj x P i o 3) 1 (.int a) = cobj x P (upd i 1 a) o 3 := rfl
theorem cp_4_3 {x o : Nat} {P : Nat → Nat} {i : Nat → Int32} {a : Int32} : gns (cobj x P i o 4) 3 (.int a) = cobj x P (upd i 3 a) o 4 := rfl
theorem cp_5_2 {x o : Nat} {P : Nat → Nat} {i : Nat → Int32} {a : Int32} : gns (cobj x P i o 5) 2 (.int a) = cobj x P (upd i 2 a) o 5 := rfl
theorem cp_5_3 {x o : Nat} {P : Nat → Nat} {i : Nat → Int32} {a : Int32} : gns (cobj x P i o 5) 3 (.int a) = cobj x P (upd i 3 a) o 5 := rfl
theorem cp_6_3 {x o : Nat} {P : Nat → Nat} {i : Nat → Int32} {a : Int32} : gns (cobj x P i o 6) 3 (.int a) = cobj x P (upd i 3 a) o 6 := rfl
theorem cp_6_4 {x o : Nat} {P : Nat → Nat} {i : Nat → Int32} {a : Int32} : gns (cobj x P i o 6) 4 (.int a) = cobj x P (upd i 4 a) o 6 := rfl
theorem cp_6_5 {x o : Nat} {P : Nat → Nat} {i : Nat → Int32} {a : Int32} : gns (cobj x P i o 6) 5 (.int a) = cobj x P (upd i 5 a) o 6 := rfl
theorem cp_7_1 {x o : Nat} {P : Nat → Nat} {i : Nat → Int32} {a : Int32} : gns (cobj x P i o 7) 1 (.int a) = cobj x P (upd i 1 a) o 7 := rfl
theorem cp_7_2 {x o : Nat} {P : Nat → Nat} {i : Nat → Int32} {a : Int32} : gns (cobj x P i o 7) 2 (.int a) = cobj x P (upd i 2 a) o 7 := rfl
theorem cp_7_3 {x o : Nat} {P : Nat → Nat} {i : Nat → Int32} {a : Int32} : gns (cobj x P i o 7) 3 (.int a) = cobj x P (upd i 3 a) o 7 := rfl
theorem cp_7_4 {x o : Nat} {P : Nat → Nat} {i : Nat → Int32} {a : Int32} : gns (cobj x P i o 7) 4 (.int a) = cobj x P (upd i 4 a) o 7 := rfl
theorem cp_7_5 {x o : Nat} {P : Nat → Nat} {i : Nat → Int32} {a : Int32} : gns (cobj x P i o 7) 5 (.int a) = cobj x P (upd i 5 a) o 7 := rfl
theorem cp_7_6 {x o : Nat} {P : Nat → Nat} {i : Nat → Int32} {a : Int32} : gns (cobj x P i o 7) 6 (.int a) = cobj x P (upd i 6 a) o 7 := rfl
theorem cp_7_7 {x o : Nat} {P : Nat → Nat} {i : Nat → Int32} {a : Int32} : gns (cobj x P i o 7) 7 (.int a) = cobj x P (upd i 7 a) o 7 := rfl
theorem cp_7_8 {x o : Nat} {P : Nat → Nat} {i : Nat → Int32} {a : Int32} : gns (cobj x P i o 7) 8 (.int a) = cobj x P (upd i 8 a) o 7 := rfl
theorem cp_8_3 {x o : Nat} {P : Nat → Nat} {i : Nat → Int32} {a : Int32} : gns (cobj x P i o 8) 3 (.int a) = cobj x P (upd i 3 a) o 8 := rfl
theorem cp_8_4 {x o : Nat} {P : Nat → Nat} {i : Nat → Int32} {a : Int32} : gns (cobj x P i o 8) 4 (.int a) = cobj x P (upd i 4 a) o 8 := rfl
theorem cp_8_5 {x o : Nat} {P : Nat → Nat} {i : Nat → Int32} {a : Int32} : gns (cobj x P i o 8) 5 (.int a) = cobj x P (upd i 5 a) o 8 := rfl
theorem cp_8_6 {x o : Nat} {P : Nat → Nat} {i : Nat → Int32} {a : Int32} : gns (cobj x P i o 8) 6 (.int a) = cobj x P (upd i 6 a) o 8 := rfl
theorem cp_8_7 {x o : Nat} {P : Nat → Nat} {i : Nat → Int32} {a : Int32} : gns (cobj x P i o 8) 7 (.int a) = cobj x P (upd i 7 a) o 8 := rfl
theorem cp_9_13 {x o : Nat} {P : Nat → Nat} {i : Nat → Int32} {a : Int32} : gns (cobj x P i o 9) 13 (.int a) = cobj x P (upd i 13 a) o 9 := rfl
theorem cp_9_14 {x o : Nat} {P : Nat → Nat} {i : Nat → Int32} {a : Int32} : gns (cobj x P i o 9) 14 (.int a) = cobj x P (upd i 14 a) o 9 := rfl
theorem cp_9_15 {x o : Nat} {P : Nat → Nat} {i : Nat → Int32} {a : Int32} : gns (cobj x P i o 9) 15 (.int a) = cobj x P (upd i 15 a) o 9 := rfl
theorem cp_10_0 {x o : Nat} {P : Nat → Nat} {i : Nat → Int32} {a : Int32} : gns (cobj x P i o 10) 0 (.int a) = cobj x P (upd i 0 a) o 10 := rfl
theorem cp_10_2 {x o : Nat} {P : Nat → Nat} {i : Nat → Int32} {a : Int32} : gns (cobj x P i o 10) 2 (.int a) = cobj x P (upd i 2 a) o 10 := rfl
theorem cp_10_3 {x o : Nat} {P : Nat → Nat} {i : Nat → Int32} {a : Int32} : gns (cobj x P i o 10) 3 (.int a) = cobj x P (upd i 3 a) o 10 := rfl
theorem cp_10_4 {x o : Nat} {P : Nat → Nat} {i : Nat → Int32} {a : Int32} : gns (cobj x P i o 10) 4 (.int a) = cobj x P (upd i 4 a) o 10 := rfl
theorem cp_10_5 {x o : Nat} {P : Nat → Nat} {i : Nat → Int32} {a : Int32} : gns (cobj x P i o 10) 5 (.int a) = cobj x P (upd i 5 a) o 10 := rfl
theorem cp_10_6 {x o : Nat} {P : Nat → Nat} {i : Nat → Int32} {a : Int32} : gns (cobj x P i o 10) 6 (.int a) = cobj x P (upd i 6 a) o 10 := rfl
theorem cp_10_7 {x o : Nat} {P : Nat → Nat} {i : Nat → Int32} {a : Int32} : gns (cobj x P i o 10) 7 (.int a) = cobj x P (upd i 7 a) o 10 := rfl
theorem cp_10_8 {x o : Nat} {P : Nat → Nat} {i : Nat → Int32} {a : Int32} : gns (cobj x P i o 10) 8 (.int a) = cobj x P (upd i 8 a) o 10 := rfl
theorem cp_10_16 {x o : Nat} {P : Nat → Nat} {i : Nat → Int32} {a : Int32} : gns (cobj x P i o 10) 16 (.int a) = cobj x P (upd i 16 a) o 10 := rfl
theorem cp_10_17 {x o : Nat} {P : Nat → Nat} {i : Nat → Int32} {a : Int32} : gns (cobj x P i o 10) 17 (.int a) = cobj x P (upd i 17 a) o 10 := rfl
theorem cp_10_18 {x o : Nat} {P : Nat → Nat} {i : Nat → Int32} {a : Int32} : gns (cobj x P i o 10) 18 (.int a) = cobj x P (upd i 18 a) o 10 := rfl
theorem cp_10_19 {x o : Nat} {P : Nat → Nat} {i : Nat → Int32} {a : Int32} : gns (cobj x P i o 10) 19 (.int a) = cobj x P (upd i 19 a) o 10 := rfl
theorem cp_10_20 {x o : Nat} {P : Nat → Nat} {i : Nat → Int32} {a : Int32} : gns (cobj x P i o 10) 20 (.int a) = cobj x P (upd i 20 a) o 10 := rfl
theorem cp_10_26 {x o : Nat} {P : Nat → Nat} {i : Nat → Int32} {a : Int32} : gns (cobj x P i o 10) 26 (.int a) = cobj x P (upd i 26 a) o 10 := rfl
theorem cp_10_27 {x o : Nat} {P : Nat → Nat} {i : Nat → Int32} {a : Int32} : gns (cobj x P i o 10) 27 (.int a) = cobj x P (upd i 27 a) o 10 := rfl
theorem cp_10_31 {x o : Nat} {P : Nat → Nat} {i : Nat → Int32} {a : Int32} : gns (cobj x P i o 10) 31 (.int a) = cobj x P (upd i 31 a) o 10 := rfl
theorem cp_10_32 {x o : Nat} {P : Nat → Nat} {i : Nat → Int32} {a : Int32} : gns (cobj x P i o 10) 32 (.int a) = cobj x P (upd i 32 a) o 10 := rfl
theorem cp_10_33 {x o : Nat} {P : Nat → Nat} {i : Nat → Int32} {a : Int32} : gns (cobj x P i o 10) 33 (.int a) = cobj x P (upd i 33 a) o 10 := rfl
theorem cp_10_34 {x o : Nat} {P : Nat → Nat} {i : Nat → Int32} {a : Int32} : gns (cobj x P i o 10) 34 (.int a) = cobj x P (upd i 34 a) o 10 := rfl
theorem cp_10_35 {x o : Nat} {P : Nat → Nat} {i : Nat → Int32} {a : Int32} : gns (cobj x P i o 10) 35 (.int a) = cobj x P (upd i 35 a) o 10 := rfl
theorem cp_10_36 {x o : Nat} {P : Nat → Nat} {i : Nat → Int32} {a : Int32} : gns (cobj x P i o 10) 36 (.int a) = cobj x P (upd i 36 a) o 10 := rfl
theorem cp_10_43 {x o : Nat} {P : Nat → Nat} {i : Nat → Int32} {a : Int32} : gns (cobj x P i o 10) 43 (.int a) = cobj x P (upd i 43 a) o 10 := rfl
theorem cp_10_49 {x o : Nat} {P : Nat → Nat} {i : Nat → Int32} {a : Int32} : gns (cobj x P i o 10) 49 (.int a) = cobj x P (upd i 49 a) o 10 := rfl
theorem cp_10_50 {x o : Nat} {P : Nat → Nat} {i : Nat → Int32} {a : Int32} : gns (cobj x P i o 10) 50 (.int a) = cobj x P (upd i 50 a) o 10 := rfl
theorem cp_10_51 {x o : Nat} {P : Nat → Nat} {i : Nat → Int32} {a : Int32} : gns (cobj x P i o 10) 51 (.int a) = cobj x P (upd i 51 a) o 10 := rfl
theorem cp_10_53 {x o : Nat} {P : Nat → Nat} {i : Nat → Int32} {a : Int32} : gns (cobj x P i o 10) 53 (.int a) = cobj x P (upd i 53 a) o 10 := rfl
theorem cr_1 {x r : Nat} {P : Nat → Nat} {i : Nat → Int32} : gns (cobj x P i 0 9) 1 (.ref (x + r)) = cobj x (upP P 1 r) i 0 9 := rfl
theorem cr_2 {x r : Nat} {P : Nat → Nat} {i : Nat → Int32} : gns (cobj x P i 0 9) 2 (.ref (x + r)) = cobj x (upP P 2 r) i 0 9 := rfl
theorem cr_5 {x r : Nat} {P : Nat → Nat} {i : Nat → Int32} : gns (cobj x P i 0 9) 5 (.ref (x + r)) = cobj x (upP P 5 r) i 0 9 := rfl
theorem cr_6 {x r : Nat} {P : Nat → Nat} {i : Nat → Int32} : gns (cobj x P i 0 9) 6 (.ref (x + r)) = cobj x (upP P 6 r) i 0 9 := rfl
theorem cr_7 {x r : Nat} {P : Nat → Nat} {i : Nat → Int32} : gns (cobj x P i 0 9) 7 (.ref (x + r)) = cobj x (upP P 7 r) i 0 9 := rfl
theorem cr_8 {x r : Nat} {P : Nat → Nat} {i : Nat → Int32} : gns (cobj x P i 0 9) 8 (.ref (x + r)) = cobj x (upP P 8 r) i 0 9 := rfl
