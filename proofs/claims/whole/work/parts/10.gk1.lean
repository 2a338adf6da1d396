/-! ===== GK 1: an abstract machine over handles: frames, heaps, weakest preconditions ===== -/
abbrev gH : Type := Nat → Option va_E
abbrev gL : Type := List (Option Value)
abbrev gQ : Type := Option Value → gH → Prop
abbrev gX : Type := String → gH → Prop
abbrev gK : Type := Nat → gL → List Value → gH → Prop
abbrev gI : Type := gK → gQ → gX → gL → List Value → gH → Prop
abbrev gS : Type := List Value → gH → gQ → gX → Prop
-- locals
def gl : gL → Nat → Option Value
  | [], _ => none
  | a :: _, 0 => a
  | _ :: l, n + 1 => gl l n
def gls : gL → Nat → Option Value → gL
  | [], _, _ => []
  | _ :: l, 0, v => v :: l
  | a :: l, n + 1, v => a :: gls l n v
def gkill (L : gL) : Nat → gL
  | 0 => L
  | j + 1 => match gl L j with
    | some (.long _) => gls L j none
    | some (.double _) => gls L j none
    | _ => L
def gst1 (L : gL) (i : Nat) (v : Value) : gL := gls (gkill L i) i (some v)
def gst2 (L : gL) (i : Nat) (v : Value) : gL := gls (gls (gkill L i) i (some v)) (i + 1) none
theorem gl_gls : ∀ (L : gL) (i j : Nat) (v : Option Value) (w : Value), gl (gls L i v) j = some w → (j = i ∧ v = some w) ∨ (j ≠ i ∧ gl L j = some w)
  | [], i, j, v, w, h => by simp [gls, gl] at h
  | a :: l, 0, 0, v, w, h => Or.inl ⟨rfl, h⟩
  | a :: l, 0, j + 1, v, w, h => Or.inr ⟨by omega, h⟩
  | a :: l, i + 1, 0, v, w, h => Or.inr ⟨by omega, h⟩
  | a :: l, i + 1, j + 1, v, w, h => by
    rcases gl_gls l i j v w h with ⟨h1, h2⟩ | ⟨h1, h2⟩
    · exact Or.inl ⟨by omega, h2⟩
    · exact Or.inr ⟨by omega, h2⟩
theorem gl_gkill {L : gL} {i j : Nat} {w : Value} (h : gl (gkill L i) j = some w) : gl L j = some w ∧ ¬ (j + 1 = i ∧ w.category = 2) := by
  cases i with
  | zero => exact ⟨h, fun q => by omega⟩
  | succ i =>
    rcases hv : gl L i with _ | v
    · simp only [gkill, hv] at h
      refine ⟨h, fun q => ?_⟩
      have e : j = i := by omega
      rw [e, hv] at h
      cases h
    · have key : (v.category = 2 → gl (gls L i none) j = some w) → (¬ v.category = 2 → gl L j = some w) → gl L j = some w ∧ ¬ (j + 1 = i + 1 ∧ w.category = 2) := by
        intro h1 h2
        by_cases c2 : v.category = 2
        · rcases gl_gls L i j none w (h1 c2) with ⟨_, q⟩ | ⟨q1, q2⟩
          · cases q
          · exact ⟨q2, fun q => q1 (by omega)⟩
        · refine ⟨h2 c2, fun q => ?_⟩
          have e : j = i := by omega
          have h3 := h2 c2
          rw [e, hv] at h3
          cases h3
          exact c2 q.2
      cases v <;> simp only [gkill, hv] at h <;> refine key ?_ ?_ <;> intro q <;> first | exact h | (exfalso; revert q; simp [Value.category]; done) | exact absurd rfl q
/-- the same locals, some of them forgotten -/
def gLe (L L' : gL) : Prop := L.length = L'.length ∧ ∀ (i : Nat) (v : Value), gl L i = some v → gl L' i = some v
theorem gLe_r (L : gL) : gLe L L := ⟨rfl, fun _ _ h => h⟩
theorem gLe_n : gLe [] [] := gLe_r []
theorem gLe_c {a : Option Value} {L L' : gL} (h : gLe L L') : gLe (a :: L) (a :: L') := by
  refine ⟨by simp [h.1], fun i v q => ?_⟩
  cases i with
  | zero => exact q
  | succ i => exact h.2 i v q
theorem gLe_d {a : Option Value} {L L' : gL} (h : gLe L L') : gLe (none :: L) (a :: L') := by
  refine ⟨by simp [h.1], fun i v q => ?_⟩
  cases i with
  | zero => cases q
  | succ i => exact h.2 i v q
theorem gls_len : ∀ (L : gL) (i : Nat) (v : Option Value), (gls L i v).length = L.length
  | [], _, _ => rfl
  | _ :: _, 0, _ => rfl
  | _ :: l, i + 1, v => by simp [gls, gls_len l i v]
theorem gl_gls_s : ∀ (L : gL) (i : Nat) (v : Option Value), i < L.length → gl (gls L i v) i = v
  | [], i, v, h => by simp at h
  | _ :: _, 0, _, _ => rfl
  | _ :: l, i + 1, v, h => gl_gls_s l i v (by simpa using h)
theorem gl_gls_n : ∀ (L : gL) (i j : Nat) (v : Option Value), j ≠ i → gl (gls L i v) j = gl L j
  | [], _, _, _, _ => rfl
  | _ :: _, 0, 0, _, h => absurd rfl h
  | _ :: _, 0, _ + 1, _, _ => rfl
  | _ :: _, _ + 1, 0, _, _ => rfl
  | _ :: l, i + 1, j + 1, v, h => gl_gls_n l i j v (by omega)
theorem gl_lt : ∀ (L : gL) (i : Nat) (v : Value), gl L i = some v → i < L.length
  | [], _, _, h => by cases h
  | _ :: _, 0, _, _ => by simp
  | _ :: l, i + 1, v, h => by have := gl_lt l i v h; simp; omega
theorem gLe_gls {L L' : gL} (h : gLe L L') (i : Nat) (v : Option Value) : gLe (gls L i v) (gls L' i v) := by
  refine ⟨by rw [gls_len, gls_len]; exact h.1, fun j w q => ?_⟩
  by_cases hj : j = i
  · subst hj
    have hl := gl_lt _ _ _ q
    rw [gls_len] at hl
    rw [gl_gls_s _ _ _ hl] at q
    rw [gl_gls_s _ _ _ (by rw [← h.1]; exact hl)]
    exact q
  · rw [gl_gls_n _ _ _ _ hj] at q ⊢
    exact h.2 j w q
theorem gkill_n (L : gL) (i : Nat) : gkill L i = L ∨ ∃ j, i = j + 1 ∧ gkill L i = gls L j none := by
  cases i with
  | zero => exact Or.inl rfl
  | succ j =>
    rcases hv : gl L j with _ | v
    · exact Or.inl (by simp only [gkill, hv])
    · cases v <;> first | (refine Or.inl ?_; simp only [gkill, hv]; done) | (refine Or.inr ⟨j, rfl, ?_⟩; simp only [gkill, hv]; done)
theorem gkill_len (L : gL) (i : Nat) : (gkill L i).length = L.length := by
  rcases gkill_n L i with h | ⟨j, -, h⟩ <;> rw [h]
  exact gls_len _ _ _
/-- behind the killing the place ahead is forgotten, or no long stands there -/
theorem gkill_at {L : gL} {i j : Nat} {w : Value} (h : gl L j = some w) (hc : ¬ (j + 1 = i ∧ w.category = 2)) : gl (gkill L i) j = some w := by
  cases i with
  | zero => exact h
  | succ i =>
    by_cases hj : j = i
    · subst hj
      cases w <;> simp only [gkill, h] <;> first | done | (exfalso; exact hc ⟨rfl, rfl⟩)
    · rcases gkill_n L (i + 1) with e | ⟨k, e1, e⟩
      · rw [e]; exact h
      · rw [e, gl_gls_n _ _ _ _ (by omega)]; exact h
theorem gLe_kill {L L' : gL} (h : gLe L L') (i : Nat) : gLe (gkill L i) (gkill L' i) := by
  refine ⟨by rw [gkill_len, gkill_len]; exact h.1, fun j w q => ?_⟩
  obtain ⟨q1, q2⟩ := gl_gkill q
  exact gkill_at (h.2 j w q1) q2
theorem gLe_st1 {L L' : gL} (h : gLe L L') (i : Nat) (v : Value) : gLe (gst1 L i v) (gst1 L' i v) := gLe_gls (gLe_kill h i) i (some v)
theorem gLe_st2 {L L' : gL} (h : gLe L L') (i : Nat) (v : Value) : gLe (gst2 L i v) (gst2 L' i v) := gLe_gls (gLe_gls (gLe_kill h i) i (some v)) (i + 1) none
def gMono (i : gI) : Prop := ∀ (K K' : gK) (Q Q' : gQ) (X X' : gX) (L L' : gL) (st : List Value) (H : gH), (∀ k L L' st H, gLe L L' → K k L st H → K' k L' st H) → (∀ r H, Q r H → Q' r H) → (∀ e H, X e H → X' e H) → gLe L L' → i K Q X L st H → i K' Q' X' L' st H
def gUp (P : gK) : Prop := ∀ k L L' st H, gLe L L' → P k L st H → P k L' st H
/-- the least predicate that the table's instructions lead back to, and that bears more locals -/
def gWp (T : Nat → gI) (Q : gQ) (X : gX) (k : Nat) (L : gL) (st : List Value) (H : gH) : Prop :=
  ∀ P : gK, gUp P → (∀ (k : Nat) (L : gL) (st : List Value) (H : gH), T k P Q X L st H → P k L st H) → P k L st H
theorem gWp_up {T : Nat → gI} {Q : gQ} {X : gX} : gUp (gWp T Q X) := fun k L L' st H hl h P hu hP => hu k L L' st H hl (h P hu hP)
theorem gWp_in {T : Nat → gI} (hm : ∀ k, gMono (T k)) {Q : gQ} {X : gX} {k : Nat} {L : gL} {st : List Value} {H : gH} (h : T k (gWp T Q X) Q X L st H) : gWp T Q X k L st H := by
  intro P hu hP
  exact hP k L st H (hm k (gWp T Q X) P Q Q X X L L st H (fun k L L' st H hl h => hu k L L' st H hl (h P hu hP)) (fun _ _ h => h) (fun _ _ h => h) (gLe_r L) h)
theorem gWp_mono {T : Nat → gI} (hm : ∀ k, gMono (T k)) {Q Q' : gQ} {X X' : gX} (hQ : ∀ r H, Q r H → Q' r H) (hX : ∀ e H, X e H → X' e H) {k : Nat} {L : gL} {st : List Value} {H : gH} (h : gWp T Q X k L st H) : gWp T Q' X' k L st H :=
  h (fun k L st H => gWp T Q' X' k L st H) gWp_up (fun k L st H h2 => gWp_in hm (hm k _ _ Q Q' X X' L L st H (fun k L L' st H hl h => gWp_up k L L' st H hl h) hQ hX (gLe_r L) h2))
-- object fields
def gn : List Value → Nat → Option Value
  | [], _ => none
  | a :: _, 0 => some a
  | _ :: l, n + 1 => gn l n
def gns : List Value → Nat → Value → List Value
  | [], _, _ => []
  | _ :: l, 0, v => v :: l
  | a :: l, n + 1, v => a :: gns l n v
theorem gn_eq : ∀ (l : List Value) (i : Nat), gn l i = l[i]?
  | [], _ => by simp [gn]
  | a :: l, 0 => by simp [gn]
  | a :: l, i + 1 => by simp [gn, gn_eq l i]
theorem gns_eq : ∀ (l : List Value) (i : Nat) (v : Value), gns l i v = l.set i v
  | [], _, _ => by simp [gns]
  | a :: l, 0, v => by simp [gns]
  | a :: l, i + 1, v => by simp [gns, gns_eq l i v]
-- the heap
def gu (H : gH) (h : Nat) (e : va_E) : gH := fun j => if j = h then some e else H j
theorem gu_s {H : gH} {h : Nat} {e : va_E} : gu H h e h = some e := by simp [gu]
theorem gu_n {H : gH} {h j : Nat} {e : va_E} (hj : j ≠ h) : gu H h e j = H j := by simp [gu, hj]
-- instructions
def gi_bad : gI := fun _ _ _ _ _ _ => False
def gi_goto (k : Nat) : gI := fun K _ _ L st H => K k L st H
def gi_st (k : Nat) (f : List Value → Option (List Value)) : gI := fun K _ _ L st H => match f st with
  | some st' => K k L st' H
  | none => False
def gi_iload (k i : Nat) : gI := fun K _ _ L st H => match gl L i with
  | some (.int x) => K k L (.int x :: st) H
  | _ => False
def gi_lload (k i : Nat) : gI := fun K _ _ L st H => match gl L i with
  | some (.long x) => K k L (.long x :: st) H
  | _ => False
def gi_aload (k i : Nat) : gI := fun K _ _ L st H => match gl L i with
  | some (.ref x) => K k L (.ref x :: st) H
  | _ => False
def gi_istore (k i : Nat) : gI := fun K _ _ L st H => match st with
  | .int x :: st => K k (gst1 L i (.int x)) st H
  | _ => False
def gi_lstore (k i : Nat) : gI := fun K _ _ L st H => match st with
  | .long x :: st => K k (gst2 L i (.long x)) st H
  | _ => False
def gi_astore (k i : Nat) : gI := fun K _ _ L st H => match st with
  | .ref x :: st => K k (gst1 L i (.ref x)) st H
  | _ => False
def gi_iinc (k i : Nat) (d : Int32) : gI := fun K _ _ L st H => match gl L i with
  | some (.int x) => K k (gst1 L i (.int (x + d))) st H
  | _ => False
def gi_if (k t : Nat) (c : Int32 → Prop) : gI := fun K _ _ L st H => match st with
  | .int x :: st => (c x → K t L st H) ∧ (¬ c x → K k L st H)
  | _ => False
def gi_icmp (k t : Nat) (c : Int32 → Int32 → Prop) : gI := fun K _ _ L st H => match st with
  | .int y :: .int x :: st => (c x y → K t L st H) ∧ (¬ c x y → K k L st H)
  | _ => False
def gfld (H : gH) (h ci f : Nat) : Option Value := match H h with
  | some (.inr (c, fs)) => if c = ci then gn fs f else none
  | _ => none
def gi_get (k ci f : Nat) : gI := fun K _ _ L st H => match st with
  | .ref h :: st => (match gfld H h ci f with
    | some v => K k L (v :: st) H
    | none => False)
  | _ => False
def gput (H : gH) (h ci f : Nat) (v : Value) : Option gH := match H h with
  | some (.inr (c, fs)) => if c = ci then (match gn fs f with
    | some _ => some (gu H h (.inr (c, gns fs f v)))
    | none => none) else none
  | _ => none
def gi_puti (k ci f : Nat) : gI := fun K _ _ L st H => match st with
  | .int x :: .ref h :: st => (match gput H h ci f (.int x) with
    | some H' => K k L st H'
    | none => False)
  | _ => False
def gi_putr (k ci f : Nat) : gI := fun K _ _ L st H => match st with
  | .ref x :: .ref h :: st => (match gput H h ci f (.ref x) with
    | some H' => K k L st H'
    | none => False)
  | _ => False
def gai (H : gH) (h : Nat) : Option (Nat × (Nat → Int32)) := match H h with
  | some (.inl (0, (n, .inl f))) => some (n, f)
  | _ => none
def gal (H : gH) (h : Nat) : Option (Nat × (Nat → Int64)) := match H h with
  | some (.inl (1, (n, .inr (.inl f)))) => some (n, f)
  | _ => none
def gi_iald (k : Nat) : gI := fun K _ _ L st H => match st with
  | .int i :: .ref h :: st => (match gai H h with
    | some (n, f) => vp_in i n ∧ K k L (.int (f i.toNatClampNeg) :: st) H
    | none => False)
  | _ => False
def gi_iast (k : Nat) : gI := fun K _ _ L st H => match st with
  | .int x :: .int i :: .ref h :: st => (match gai H h with
    | some (n, f) => vp_in i n ∧ K k L st (gu H h (.inl (0, (n, .inl (upd f i.toNatClampNeg x)))))
    | none => False)
  | _ => False
def gi_lald (k : Nat) : gI := fun K _ _ L st H => match st with
  | .int i :: .ref h :: st => (match gal H h with
    | some (n, f) => vp_in i n ∧ K k L (.long (f i.toNatClampNeg) :: st) H
    | none => False)
  | _ => False
def gi_last (k : Nat) : gI := fun K _ _ L st H => match st with
  | .long x :: .int i :: .ref h :: st => (match gal H h with
    | some (n, f) => vp_in i n ∧ K k L st (gu H h (.inl (1, (n, .inr (.inl (vp_updL f i.toNatClampNeg x))))))
    | none => False)
  | _ => False
def gi_alen (k : Nat) : gI := fun K _ _ L st H => match st with
  | .ref h :: st => (match gai H h with
    | some (n, _) => K k L (.int (Int32.ofNat n) :: st) H
    | none => False)
  | _ => False
def gi_tsw (lo : Int) (ts : List Nat) (d : Nat) : gI := fun K _ _ L st H => match st with
  | .int x :: st => K (if x.toInt < lo ∨ lo + (ts.length : Int) ≤ x.toInt then d else ts.getD (x.toInt - lo).toNat d) L st H
  | _ => False
def gi_vret : gI := fun _ Q _ _ st H => match st with
  | [] => Q none H
  | _ => False
def gi_iret : gI := fun _ Q _ _ st H => match st with
  | [.int x] => Q (some (.int x)) H
  | _ => False
def gi_zret (ty : FieldType) : gI := fun _ Q _ _ st H => match st with
  | [.int x] => narrow ty (.int x) = .int x ∧ Q (some (.int x)) H
  | _ => False
def gi_lret : gI := fun _ Q _ _ st H => match st with
  | [.long x] => Q (some (.long x)) H
  | _ => False
def gi_throw (E : String) : gI := fun _ _ X _ st H => st = [] ∧ X E H
/-- the receiver is an object of the class ci -/
def grecv (H : gH) (ci : Nat) : List Value → Prop
  | .ref h :: _ => (match H h with
    | some (.inr (c, _)) => c = ci
    | _ => False)
  | _ => False
def gcat (st : List Value) : Nat := (st.map fun v => v.category).sum
/-- a call of na arguments; X: what is thrown goes on to the caller -/
def gi_calls (S : gS) (k na : Nat) : gI := fun K _ X L st H =>
  na ≤ st.length ∧ gcat (st.drop na) ≤ 8 ∧ S (st.take na).reverse H (fun r H' => K k L (r.toList ++ st.drop na) H') X
def gi_callv (S : gS) (ci k na : Nat) : gI := fun K _ X L st H =>
  na ≤ st.length ∧ gcat (st.drop na) ≤ 8 ∧ grecv H ci (st.take na).reverse ∧ S (st.take na).reverse H (fun r H' => K k L (r.toList ++ st.drop na) H') X
def gSmono (S : gS) : Prop := ∀ (a : List Value) (H : gH) (Q Q' : gQ) (X X' : gX), (∀ r H, Q r H → Q' r H) → (∀ e H, X e H → X' e H) → S a H Q X → S a H Q' X'
-- all of them are monotone
theorem gm_bad : gMono gi_bad := fun _ _ _ _ _ _ _ _ _ _ _ _ _ _ h => h
theorem gm_goto {k : Nat} : gMono (gi_goto k) := fun _ _ _ _ _ _ _ _ _ _ hK _ _ hL h => hK _ _ _ _ _ hL h
theorem gm_st {k : Nat} {f : List Value → Option (List Value)} : gMono (gi_st k f) := by
  intro K K' Q Q' X X' L L' st H hK hQ hX hL
  unfold gi_st
  cases f st with
  | none => exact fun h => h
  | some st' => exact hK _ _ _ _ _ hL
theorem gm_iload {k i : Nat} : gMono (gi_iload k i) := by
  intro K K' Q Q' X X' L L' st H hK hQ hX hL
  unfold gi_iload
  rcases hv : gl L i with _ | v
  · exact fun h => h.elim
  · rw [hL.2 i v hv]
    cases v <;> first | exact hK _ _ _ _ _ hL | exact fun h => h
theorem gm_lload {k i : Nat} : gMono (gi_lload k i) := by
  intro K K' Q Q' X X' L L' st H hK hQ hX hL
  unfold gi_lload
  rcases hv : gl L i with _ | v
  · exact fun h => h.elim
  · rw [hL.2 i v hv]
    cases v <;> first | exact hK _ _ _ _ _ hL | exact fun h => h
theorem gm_aload {k i : Nat} : gMono (gi_aload k i) := by
  intro K K' Q Q' X X' L L' st H hK hQ hX hL
  unfold gi_aload
  rcases hv : gl L i with _ | v
  · exact fun h => h.elim
  · rw [hL.2 i v hv]
    cases v <;> first | exact hK _ _ _ _ _ hL | exact fun h => h
theorem gm_iinc {k i : Nat} {d : Int32} : gMono (gi_iinc k i d) := by
  intro K K' Q Q' X X' L L' st H hK hQ hX hL
  unfold gi_iinc
  rcases hv : gl L i with _ | v
  · exact fun h => h.elim
  · rw [hL.2 i v hv]
    cases v <;> first | exact hK _ _ _ _ _ (gLe_st1 hL i _) | exact fun h => h
theorem gm_istore {k i : Nat} : gMono (gi_istore k i) := by
  intro K K' Q Q' X X' L L' st H hK hQ hX hL
  unfold gi_istore
  rcases st with _ | ⟨v, st⟩
  · exact fun h => h
  · cases v <;> first | exact hK _ _ _ _ _ (gLe_st1 hL i _) | exact fun h => h
theorem gm_lstore {k i : Nat} : gMono (gi_lstore k i) := by
  intro K K' Q Q' X X' L L' st H hK hQ hX hL
  unfold gi_lstore
  rcases st with _ | ⟨v, st⟩
  · exact fun h => h
  · cases v <;> first | exact hK _ _ _ _ _ (gLe_st2 hL i _) | exact fun h => h
theorem gm_astore {k i : Nat} : gMono (gi_astore k i) := by
  intro K K' Q Q' X X' L L' st H hK hQ hX hL
  unfold gi_astore
  rcases st with _ | ⟨v, st⟩
  · exact fun h => h
  · cases v <;> first | exact hK _ _ _ _ _ (gLe_st1 hL i _) | exact fun h => h
theorem gm_if {k t : Nat} {c : Int32 → Prop} : gMono (gi_if k t c) := by
  intro K K' Q Q' X X' L L' st H hK hQ hX hL
  unfold gi_if
  rcases st with _ | ⟨v, st⟩
  · exact fun h => h
  · cases v <;> first | exact fun h => ⟨fun q => hK _ _ _ _ _ hL (h.1 q), fun q => hK _ _ _ _ _ hL (h.2 q)⟩ | exact fun h => h
theorem gm_tsw {lo : Int} {ts : List Nat} {d : Nat} : gMono (gi_tsw lo ts d) := by
  intro K K' Q Q' X X' L L' st H hK hQ hX hL
  unfold gi_tsw
  rcases st with _ | ⟨v, st⟩
  · exact fun h => h
  · cases v <;> first | exact hK _ _ _ _ _ hL | exact fun h => h
theorem gm_icmp {k t : Nat} {c : Int32 → Int32 → Prop} : gMono (gi_icmp k t c) := by
  intro K K' Q Q' X X' L L' st H hK hQ hX hL
  unfold gi_icmp
  rcases st with _ | ⟨v, _ | ⟨w, st⟩⟩
  · exact fun h => h
  · cases v <;> exact fun h => h
  · cases v <;> cases w <;> first | exact fun h => ⟨fun q => hK _ _ _ _ _ hL (h.1 q), fun q => hK _ _ _ _ _ hL (h.2 q)⟩ | exact fun h => h
theorem gm_get {k ci f : Nat} : gMono (gi_get k ci f) := by
  intro K K' Q Q' X X' L L' st H hK hQ hX hL
  unfold gi_get
  rcases st with _ | ⟨v, st⟩
  · exact fun h => h
  · cases v <;> try exact fun h => h
    dsimp only
    cases gfld H _ ci f with
    | none => exact fun h => h
    | some v => exact hK _ _ _ _ _ hL
theorem gm_puti {k ci f : Nat} : gMono (gi_puti k ci f) := by
  intro K K' Q Q' X X' L L' st H hK hQ hX hL
  unfold gi_puti
  rcases st with _ | ⟨v, _ | ⟨w, st⟩⟩
  · exact fun h => h
  · cases v <;> exact fun h => h
  · cases v <;> cases w <;> try exact fun h => h
    dsimp only
    cases gput H _ ci f _ with
    | none => exact fun h => h
    | some v => exact hK _ _ _ _ _ hL
theorem gm_putr {k ci f : Nat} : gMono (gi_putr k ci f) := by
  intro K K' Q Q' X X' L L' st H hK hQ hX hL
  unfold gi_putr
  rcases st with _ | ⟨v, _ | ⟨w, st⟩⟩
  · exact fun h => h
  · cases v <;> exact fun h => h
  · cases v <;> cases w <;> try exact fun h => h
    dsimp only
    cases gput H _ ci f _ with
    | none => exact fun h => h
    | some v => exact hK _ _ _ _ _ hL
theorem gm_iald {k : Nat} : gMono (gi_iald k) := by
  intro K K' Q Q' X X' L L' st H hK hQ hX hL
  unfold gi_iald
  rcases st with _ | ⟨v, _ | ⟨w, st⟩⟩
  · exact fun h => h
  · cases v <;> exact fun h => h
  · cases v <;> cases w <;> try exact fun h => h
    dsimp only
    rcases gai H _ with _ | ⟨n, f⟩
    · exact fun h => h
    · exact fun h => ⟨h.1, hK _ _ _ _ _ hL h.2⟩
theorem gm_lald {k : Nat} : gMono (gi_lald k) := by
  intro K K' Q Q' X X' L L' st H hK hQ hX hL
  unfold gi_lald
  rcases st with _ | ⟨v, _ | ⟨w, st⟩⟩
  · exact fun h => h
  · cases v <;> exact fun h => h
  · cases v <;> cases w <;> try exact fun h => h
    dsimp only
    rcases gal H _ with _ | ⟨n, f⟩
    · exact fun h => h
    · exact fun h => ⟨h.1, hK _ _ _ _ _ hL h.2⟩
theorem gm_alen {k : Nat} : gMono (gi_alen k) := by
  intro K K' Q Q' X X' L L' st H hK hQ hX hL
  unfold gi_alen
  rcases st with _ | ⟨v, st⟩
  · exact fun h => h
  · cases v <;> try exact fun h => h
    dsimp only
    rcases gai H _ with _ | ⟨n, f⟩
    · exact fun h => h
    · exact hK _ _ _ _ _ hL
theorem gm_iast {k : Nat} : gMono (gi_iast k) := by
  intro K K' Q Q' X X' L L' st H hK hQ hX hL
  unfold gi_iast
  rcases st with _ | ⟨v, _ | ⟨w, _ | ⟨u, st⟩⟩⟩
  · exact fun h => h
  · cases v <;> exact fun h => h
  · cases v <;> cases w <;> exact fun h => h
  · cases v <;> cases w <;> cases u <;> try exact fun h => h
    dsimp only
    rcases gai H _ with _ | ⟨n, f⟩
    · exact fun h => h
    · exact fun h => ⟨h.1, hK _ _ _ _ _ hL h.2⟩
theorem gm_last {k : Nat} : gMono (gi_last k) := by
  intro K K' Q Q' X X' L L' st H hK hQ hX hL
  unfold gi_last
  rcases st with _ | ⟨v, _ | ⟨w, _ | ⟨u, st⟩⟩⟩
  · exact fun h => h
  · cases v <;> exact fun h => h
  · cases v <;> cases w <;> exact fun h => h
  · cases v <;> cases w <;> cases u <;> try exact fun h => h
    dsimp only
    rcases gal H _ with _ | ⟨n, f⟩
    · exact fun h => h
    · exact fun h => ⟨h.1, hK _ _ _ _ _ hL h.2⟩
theorem gm_vret : gMono gi_vret := by
  intro K K' Q Q' X X' L L' st H hK hQ hX hL
  unfold gi_vret
  rcases st with _ | ⟨v, st⟩
  · exact hQ _ _
  · exact fun h => h
theorem gm_iret : gMono gi_iret := by
  intro K K' Q Q' X X' L L' st H hK hQ hX hL
  unfold gi_iret
  rcases st with _ | ⟨v, _ | ⟨w, st⟩⟩
  · exact fun h => h
  · cases v <;> first | exact hQ _ _ | exact fun h => h
  · cases v <;> exact fun h => h
theorem gm_zret {ty : FieldType} : gMono (gi_zret ty) := by
  intro K K' Q Q' X X' L L' st H hK hQ hX hL
  unfold gi_zret
  rcases st with _ | ⟨v, _ | ⟨w, st⟩⟩
  · exact fun h => h
  · cases v <;> first | exact fun h => ⟨h.1, hQ _ _ h.2⟩ | exact fun h => h
  · cases v <;> exact fun h => h
theorem gm_lret : gMono gi_lret := by
  intro K K' Q Q' X X' L L' st H hK hQ hX hL
  unfold gi_lret
  rcases st with _ | ⟨v, _ | ⟨w, st⟩⟩
  · exact fun h => h
  · cases v <;> first | exact hQ _ _ | exact fun h => h
  · cases v <;> exact fun h => h
theorem gm_throw {E : String} : gMono (gi_throw E) := fun _ _ _ _ _ _ _ _ _ _ _ _ hX _ h => ⟨h.1, hX _ _ h.2⟩
theorem gm_calls {S : gS} (hS : gSmono S) {k na : Nat} : gMono (gi_calls S k na) := fun _ _ _ _ _ _ _ _ _ _ hK _ hX hL h => ⟨h.1, h.2.1, hS _ _ _ _ _ _ (fun _ _ q => hK _ _ _ _ _ hL q) hX h.2.2⟩
theorem gm_callv {S : gS} (hS : gSmono S) {ci k na : Nat} : gMono (gi_callv S ci k na) := fun _ _ _ _ _ _ _ _ _ _ hK _ hX hL h => ⟨h.1, h.2.1, h.2.2.1, hS _ _ _ _ _ _ (fun _ _ q => hK _ _ _ _ _ hL q) hX h.2.2.2⟩
