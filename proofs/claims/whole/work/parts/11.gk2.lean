/-! ===== GK 2: what an abstract frame is on the machine ===== -/
def gv (ad : Nat → Nat) : Value → Value
  | .ref h => .ref (ad h)
  | v => v
theorem gv_cat (ad : Nat → Nat) (v : Value) : (gv ad v).category = v.category := by cases v <;> rfl
def gc (ad : Nat → Nat) (cA : Nat → ClassId) : va_E → va_E
  | .inl a => .inl (cA a.1, a.2)
  | .inr o => .inr (o.1, o.2.map (gv ad))
def gws (ad : Nat → Nat) (cA : Nat → ClassId) (n : Nat) (H : gH) : va_W := (List.range n).map (fun h => (ad h, gc ad cA ((H h).getD (.inr (0, [])))))
theorem gws_get {ad : Nat → Nat} {cA : Nat → ClassId} {n : Nat} {H : gH} {h : Nat} {e : va_E} (hn : h < n) (he : H h = some e) : (gws ad cA n H)[h]? = some (ad h, gc ad cA e) := by
  unfold gws
  rw [List.getElem?_map, List.getElem?_range hn, Option.map_some, he]
  rfl
theorem gws_len {ad : Nat → Nat} {cA : Nat → ClassId} {n : Nat} {H : gH} : (gws ad cA n H).length = n := by simp [gws]
theorem gws_set {ad : Nat → Nat} {cA : Nat → ClassId} {n : Nat} {H : gH} {h : Nat} {e : va_E} (hn : h < n) : (gws ad cA n H).set h (ad h, gc ad cA e) = gws ad cA n (gu H h e) := by
  apply List.ext_getElem?
  intro i
  by_cases hi : i = h
  · subst hi
    rw [List.getElem?_set_self (by rw [gws_len]; exact hn), gws_get hn gu_s]
  · rw [List.getElem?_set_ne (Ne.symm hi)]
    unfold gws
    rw [List.getElem?_map, List.getElem?_map]
    by_cases hin : i < n
    · rw [List.getElem?_range hin, Option.map_some, Option.map_some, gu_n hi]
    · rw [List.getElem?_eq_none (by simp; omega)]
      rfl
def gDom (n : Nat) (H : gH) : Prop := ∀ h : Nat, (H h).isSome = true ↔ h < n
theorem gDom.lt {n : Nat} {H : gH} (h : gDom n H) {x : Nat} {e : va_E} (hx : H x = some e) : x < n := (h x).mp (by rw [hx]; rfl)
theorem gDom.put {n : Nat} {H : gH} (h : gDom n H) {x : Nat} {e0 e : va_E} (hx : H x = some e0) : gDom n (gu H x e) := by
  intro j
  by_cases hj : j = x
  · subst hj
    rw [gu_s]
    exact ⟨fun _ => h.lt hx, fun _ => rfl⟩
  · rw [gu_n hj]
    exact h j
/-- the heap of a frame: the world's cells are as H says, apart, in A; nothing else of the start has changed -/
def gRel (D : va_G) (cl : List vw_C) (cA : Nat → ClassId) (ad : Nat → Nat) (n : Nat) (A : Nat → Prop) (H0 : Heap) (H : gH) (Hc : Heap) (locs : List Loc) : Prop :=
  gDom n H ∧ va_P D cl (gws ad cA n H) Hc ∧ va_D A (gws ad cA n H) ∧ va_S A H0 Hc locs
theorem gRel.put {D : va_G} {cl : List vw_C} {cA : Nat → ClassId} {ad : Nat → Nat} {n : Nat} {A : Nat → Prop} {H0 Hc H1 : Heap} {H : gH} {locs locs1 : List Loc} (h : gRel D cl cA ad n A H0 H Hc locs) {x : Nat} {e0 e : va_E} (hx : H x = some e0)
    (hP : va_P D cl ((gws ad cA n H).set x (ad x, gc ad cA e)) H1) (hD : va_D A ((gws ad cA n H).set x (ad x, gc ad cA e))) (hS : va_S A H0 H1 locs1) : gRel D cl cA ad n A H0 (gu H x e) H1 locs1 := by
  rw [gws_set (h.1.lt hx)] at hP hD
  exact ⟨h.1.put hx, hP, hD, hS⟩
-- locals
def glv (ad : Nat → Nat) (ls : Array Slot) (nL : Nat) (L : gL) : Prop := ls.size = nL ∧ lv_wf ls ∧ ∀ (i : Nat) (v : Value), gl L i = some v → ls[i]? = some (.val (gv ad v))
def gll (ad : Nat → Nat) (nL : Nat) (L : gL) : List (Nat × Value) := (List.range nL).filterMap (fun j => (gl L j).map (fun v => (j, gv ad v)))
theorem gll_mem {ad : Nat → Nat} {nL : Nat} {L : gL} {j : Nat} {v : Value} (hj : j < nL) (h : gl L j = some v) : (j, gv ad v) ∈ gll ad nL L := List.mem_filterMap.mpr ⟨j, List.mem_range.mpr hj, by rw [h]; rfl⟩
theorem glv.lt {ad : Nat → Nat} {ls : Array Slot} {nL : Nat} {L : gL} (h : glv ad ls nL L) {j : Nat} {v : Value} (hj : gl L j = some v) : j < nL := by
  have := lv_lt (h.2.2 j v hj)
  rw [h.1] at this
  exact this
theorem glv.list {ad : Nat → Nat} {ls : Array Slot} {nL : Nat} {L : gL} (h : glv ad ls nL L) : lv_has ls nL (gll ad nL L) := by
  refine ⟨h.1, h.2.1, fun q hq => ?_⟩
  obtain ⟨j, -, hj⟩ := List.mem_filterMap.mp hq
  cases hv : gl L j with
  | none => rw [hv] at hj; cases hj
  | some v =>
    rw [hv] at hj
    cases hj
    exact h.2.2 j v hv
theorem glv.st1 {ad : Nat → Nat} {ls ls' : Array Slot} {nL : Nat} {L : gL} (h : glv ad ls nL L) {i : Nat} {v : Value} (h' : lv_has ls' nL ((i, gv ad v) :: (gll ad nL L).filter (fun q => !(q.1 == i) && !(q.1 + 1 == i && q.2.category == 2)))) : glv ad ls' nL (gst1 L i v) := by
  refine ⟨h'.1, h'.2.1, fun j w hj => ?_⟩
  rcases gl_gls _ _ _ _ _ hj with ⟨q1, q2⟩ | ⟨q1, q2⟩
  · cases q2
    rw [q1]
    exact h'.2.2 _ List.mem_cons_self
  · obtain ⟨q3, q4⟩ := gl_gkill q2
    refine h'.2.2 (j, gv ad w) (List.mem_cons_of_mem _ (List.mem_filter.mpr ⟨gll_mem (h.lt q3) q3, ?_⟩))
    simp only [gv_cat, Bool.and_eq_true, Bool.not_eq_true', beq_eq_false_iff_ne, ne_eq, Bool.and_eq_false_iff]
    refine ⟨q1, ?_⟩
    by_cases c : j + 1 = i
    · exact Or.inr (fun q => q4 ⟨c, q⟩)
    · exact Or.inl c
theorem glv.st2 {ad : Nat → Nat} {ls ls' : Array Slot} {nL : Nat} {L : gL} (h : glv ad ls nL L) {i : Nat} {v : Value} (h' : lv_has ls' nL ((i, gv ad v) :: (gll ad nL L).filter (fun q => !(q.1 == i) && (!(q.1 == i + 1) && !(q.1 + 1 == i && q.2.category == 2))))) : glv ad ls' nL (gst2 L i v) := by
  refine ⟨h'.1, h'.2.1, fun j w hj => ?_⟩
  rcases gl_gls _ _ _ _ _ hj with ⟨q1, q2⟩ | ⟨q0, hj⟩
  · cases q2
  · rcases gl_gls _ _ _ _ _ hj with ⟨q1, q2⟩ | ⟨q1, q2⟩
    · cases q2
      rw [q1]
      exact h'.2.2 _ List.mem_cons_self
    · obtain ⟨q3, q4⟩ := gl_gkill q2
      refine h'.2.2 (j, gv ad w) (List.mem_cons_of_mem _ (List.mem_filter.mpr ⟨gll_mem (h.lt q3) q3, ?_⟩))
      simp only [gv_cat, Bool.and_eq_true, Bool.not_eq_true', beq_eq_false_iff_ne, ne_eq, Bool.and_eq_false_iff]
      refine ⟨q1, q0, ?_⟩
      by_cases c : j + 1 = i
      · exact Or.inr (fun q => q4 ⟨c, q⟩)
      · exact Or.inl c
/-- a method: its name, code, locals, what it returns, how many cells it may make, its handlers -/
abbrev gInf : Type := MethodName × ByteArray × Nat × Option FieldType × Nat × List (Nat × Nat × Nat × Nat)
def gHead (i : gInf) : Cond := match i.2.2.2.2.2 with
  | [] => Cond.code i.1 i.2.1 i.2.2.1 i.2.2.2.1
  | h :: hh => Cond.codeWith i.1 i.2.1 i.2.2.1 i.2.2.2.1 (h :: hh)
def gWs (i : gInf) (U : List Cond) : List Cond := gHead i :: U
def gRm (d z : Nat) : Room := { frames := d + 6, cells := z, slots := 6 * z, locals := 64 * d + 400 }
abbrev gEX : Type := (Nat → Nat) → (Nat → Prop) → State → Heap → Prop
def gPre (EX : gEX) (D : va_G) (cl : List vw_C) (cA : Nat → ClassId) (ad : Nat → Nat) (n : Nat) (H : gH) (sz : Nat) (T : State) : Prop :=
  T.heap.size = sz ∧ gDom n H ∧ va_P D cl (gws ad cA n H) T.heap ∧ va_K D cl [(cA 0, .int), (cA 1, .long)] T ∧ va_D (fun _ => True) (gws ad cA n H) ∧ EX ad (va_A (gws ad cA n H) sz) T T.heap
def gQc (D : va_G) (cl : List vw_C) (cA : Nat → ClassId) (ad : Nat → Nat) (n : Nat) (A : Nat → Prop) (Q : gQ) : Array Value → State → Outcome → State → Prop := fun _ st oc t =>
  ∃ (r : Option Value) (H : gH), oc = .returned (r.map (gv ad)) ∧ Q r H ∧ (gDom n H ∧ va_P D cl (gws ad cA n H) t.heap ∧ va_D A (gws ad cA n H)) ∧ va_F A st t
def gXc (D : va_G) (cl : List vw_C) (cA : Nat → ClassId) (ad : Nat → Nat) (n : Nat) (A : Nat → Prop) (X : gX) : String → State → State → Prop := fun E st t =>
  ∃ H : gH, X E H ∧ (gDom n H ∧ va_P D cl (gws ad cA n H) t.heap ∧ va_D A (gws ad cA n H)) ∧ va_F A st t
/-- a method's contract: from every heap that holds H at handles -/
def gMet (EX : gEX) (l : Launch) (inf : Nat → gInf) (cl : List vw_C) (U : List Cond) (d M : Nat) (as : List Value) (H : gH) (Q : gQ) (X : gX) : Prop :=
  ∀ (D : va_G) (cA : Nat → ClassId) (ad : Nat → Nat) (n sz : Nat), vx_Met l (inf M).1 (gWs (inf M) U) (gRm d (inf M).2.2.2.2.1) (va_Pc (as.map (gv ad)) (gPre EX D cl cA ad n H sz)) (gQc D cl cA ad n (va_A (gws ad cA n H) sz) Q) (gXc D cl cA ad n (va_A (gws ad cA n H) sz) X) (inf M).2.2.2.2.1 (6 * (inf M).2.2.2.2.1) (va_A (gws ad cA n H) sz)
def gExOk (EX : gEX) : Prop := ∀ (ad : Nat → Nat) (A B : Nat → Prop) (s T : State), s.WarmedH T.vm → EX ad A s s.heap → (∀ q : Nat, q < s.heap.size → ¬ A q → T.heap[q]? = s.heap[q]?) → (∀ q, B q → A q) → EX ad B T T.heap
def gCx (p : Program) (s : State) (m : MethodId) (args : Array Value) (meth : Method) (c : Code) (cc : ByteArray) (nL : Nat) (own : String) (rt : Option FieldType) (D : va_G) (cl : List vw_C) (cA : Nat → ClassId) (A : Nat → Prop) (U : List Cond) : Prop :=
  p.tables.exec = Jvm.exec ∧ c.code = cc ∧ c.maxLocals = nL ∧ s.vm.findClass own = some m.cls ∧ (∀ w ∈ U, w.before args s = true) ∧ va_K D cl [(cA 0, .int), (cA 1, .long)] s ∧ (∀ q : Nat, s.heap.size ≤ q → A q) ∧ meth.sig.returnType = rt ∧ meth.locks = false
def gEnv (EX : gEX) (l : Launch) (inf : Nat → gInf) (cl : List vw_C) (U : List Cond) (SS : Nat → gS) (d : Nat) (R : Room) (s : State) (ad : Nat → Nat) (A : Nat → Prop) (z : Nat → Nat) (mc : Nat) : Prop :=
  gExOk EX ∧ EX ad A s s.heap ∧ (∀ (M : Nat) (as : List Value) (H : gH) (Q : gQ) (X : gX), SS M as H Q X → gMet EX l inf cl U d M as H Q X) ∧ (d + 7 ≤ R.frames ∧ 64 * d + 464 ≤ R.locals) ∧ (∀ k, z k ≤ mc) ∧ mc ≤ R.cells ∧ 6 * mc ≤ R.slots
/-- what a frame at pc owes -/
def gAt (p : Program) (l : Launch) (e : Env) (R : Room) (s : State) (m : MethodId) (args : Array Value) (below : List Frame) (meth : Method) (c : Code) (nL : Nat) (D : va_G) (cl : List vw_C) (cA : Nat → ClassId) (ad : Nat → Nat) (n : Nat) (A : Nat → Prop) (z : Nat → Nat) (Qf : State → Prop) : gK := fun k L st H =>
  ∀ (Hc : Heap) (locs : List Loc) (ls : Array Slot), gRel D cl cA ad n A s.heap H Hc locs → glv ad ls nL L → W p l e R s m args below meth c Hc locs (z k) (6 * z k) Qf (F0 m k ls (st.map (gv ad)))
/-- a return instruction of r at k -/
def gRetAt (cc : ByteArray) (rt : Option FieldType) (k : Nat) : Option Value → Prop
  | none => rt = none ∧ decode cc k = .ok (.return_, 1)
  | some (.int x) => (∃ ty, rt = some ty ∧ narrow ty (.int x) = .int x) ∧ decode cc k = .ok (.ireturn, 1)
  | some (.long _) => rt = some .long ∧ decode cc k = .ok (.lreturn, 1)
  | _ => False
def gEnd (p : Program) (l : Launch) (e : Env) (R : Room) (s : State) (m : MethodId) (args : Array Value) (below : List Frame) (meth : Method) (c : Code) (cc : ByteArray) (nL : Nat) (rt : Option FieldType) (TH : Nat → String → Prop) (D : va_G) (cl : List vw_C) (cA : Nat → ClassId) (ad : Nat → Nat) (n : Nat) (A : Nat → Prop) (z : Nat → Nat) (mc : Nat) (Q : gQ) (X : gX) (Qf : State → Prop) : Prop :=
  (∀ (k : Nat) (ls : Array Slot) (Hc : Heap) (locs : List Loc) (r : Option Value) (H : gH), Q r H → gRel D cl cA ad n A s.heap H Hc locs → gRetAt cc rt k r → W p l e R s m args below meth c Hc locs mc (6 * mc) Qf (F0 m k ls (r.toList.map (gv ad)))) ∧
  (∀ (k : Nat) (ls : Array Slot) (rest : List Value) (Hc : Heap) (locs : List Loc) (E : String) (H : gH) (q : Nat) (ce : Cell), X E H → gRel D cl cA ad n A s.heap H Hc locs → Hc[q]? = some ce → ce.vm = .none → s.vm.findClass E = some ce.cls → vx_W p l e R s m args below meth c Hc locs mc (6 * mc) Qf (F0 m k ls rest) q) ∧
  (∀ (k : Nat) (ls : Array Slot) (Hc : Heap) (locs : List Loc) (E : String) (H : gH), TH k E → X E H → gRel D cl cA ad n A s.heap H Hc locs → ls.size = nL → z k + 1 ≤ mc → W p l e R s m args below meth c Hc locs (z k) (6 * z k) Qf (F0 m k ls []))
/-- an instruction at k is the machine's -/
def gOk (EX : gEX) (inf : Nat → gInf) (cl : List vw_C) (U : List Cond) (SS : Nat → gS) (d : Nat) (TH : Nat → String → Prop) (cc : ByteArray) (nL : Nat) (own : String) (rt : Option FieldType) (z : Nat → Nat) (mc : Nat) (k : Nat) (i : gI) : Prop :=
  gMono i ∧ ∀ (p : Program) (l : Launch) (e : Env) (R : Room) (s : State) (m : MethodId) (args : Array Value) (below : List Frame) (meth : Method) (c : Code) (D : va_G) (cA : Nat → ClassId) (ad : Nat → Nat) (n : Nat) (A : Nat → Prop) (Q : gQ) (X : gX) (Qf : State → Prop),
    gCx p s m args meth c cc nL own rt D cl cA A U → gEnv EX l inf cl U SS d R s ad A z mc → gEnd p l e R s m args below meth c cc nL rt TH D cl cA ad n A z mc Q X Qf →
    ∀ (L : gL) (st : List Value) (H : gH), i (gAt p l e R s m args below meth c nL D cl cA ad n A z Qf) Q X L st H → gAt p l e R s m args below meth c nL D cl cA ad n A z Qf k L st H
