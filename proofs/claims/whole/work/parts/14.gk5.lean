/-! ===== GK 5: calls, and a method's contract out of its table ===== -/
theorem gv_tail (ad : Nat → Nat) (r : Option Value) (v : Option Value) (h : v = r.map (gv ad)) : v.toList = r.toList.map (gv ad) := by
  subst h
  cases r <;> rfl
theorem gcat_map (ad : Nat → Nat) (st : List Value) : ((st.map (gv ad)).map fun v => v.category).sum = gcat st := by
  unfold gcat
  rw [List.map_map]
  congr 1
  apply List.map_congr_left
  intro v _
  exact gv_cat ad v
section GKC
variable {p : Program} {l : Launch} {e : Env} {R : Room} {s : State} {m : MethodId} {args : Array Value} {below : List Frame} {meth : Method} {c : Code} {D : va_G} {cl : List vw_C} {cA : Nat → ClassId} {ad : Nat → Nat} {n : Nat} {A A1 : Nat → Prop} {Qf : State → Prop}
theorem gx_call {Hc : Heap} {locs : List Loc} {cells slots zc k : Nat} {ls : Array Slot} {st0 rest : List Value} {Q' : gQ} {X' : gX} {a : Array Value}
    (hr : vx_Run p l e R s m args below meth c Hc locs cells slots zc (6 * zc) (F0 m k ls st0) rest (gQc D cl cA ad n A1 Q' a) (gXc D cl cA ad n A1 X') A1) (hS : va_S A s.heap Hc locs) (hA : ∀ q, A1 q → A q)
    (kx : ∀ (E : String) (H' : gH) (q : Nat) (ce : Cell) (H1 : Heap) (locs1 : List Loc), X' E H' → gRel D cl cA ad n A s.heap H' H1 locs1 → H1[q]? = some ce → ce.vm = .none → s.vm.findClass E = some ce.cls → vx_W p l e R s m args below meth c H1 locs1 (cells + zc) (slots + 6 * zc) Qf (F0 m k ls rest) q)
    (kk : ∀ (r : Option Value) (H' : gH) (H1 : Heap) (locs1 : List Loc), Q' r H' → gRel D cl cA ad n A s.heap H' H1 locs1 → W p l e R s m args below meth c H1 locs1 (cells + zc) (slots + 6 * zc) Qf (F0 m (k + 3) ls (r.toList.map (gv ad) ++ rest))) :
    W p l e R s m args below meth c Hc locs cells slots Qf (F0 m k ls st0) := by
  intro T hT X
  rcases hr T hT X with ⟨v, st₀, t, T', L, h0, X', hL, e1, e2, ⟨r, H', hv, hq, ⟨w1, w2, w3⟩, hF⟩, st⟩ | ⟨q, st₀, t, T', L, E, ce, h0, X', hL, e1, e2, ⟨H', hq, ⟨w1, w2, w3⟩, hF⟩, hce, hcv, hcl, st⟩
  · have hv' : v = r.map (gv ad) := by injection hv
    obtain ⟨k1, k2, k3⟩ := vx_keep h0 e1 hS (fun q _ h => hA q h) hA hL hF
    obtain ⟨t2, a1, b1⟩ := kk r H' T'.heap (locs ++ L) hq ⟨w1, by rw [e1]; exact w2, w3.weaken (fun _ _ _ h => hA _ h), k3⟩ T' rfl X'
    rw [gv_tail ad r v hv'] at st
    exact ⟨t2, st t2 a1, b1⟩
  · obtain ⟨k1, k2, k3⟩ := vx_keep h0 e1 hS (fun q _ h => hA q h) hA hL hF
    obtain ⟨t2, a1, b1⟩ := kx E H' q ce T'.heap (locs ++ L) hq ⟨w1, by rw [e1]; exact w2, w3.weaken (fun _ _ _ h => hA _ h), k3⟩ (by rw [e1]; exact hce) hcv hcl T' rfl X'
    exact ⟨t2, st.trans a1, b1⟩
theorem gRel.free {H : gH} {Hc : Heap} {locs : List Loc} (hA : ∀ q : Nat, s.heap.size ≤ q → A q) (h : gRel D cl cA ad n A s.heap H Hc locs) : ∀ q, va_A (gws ad cA n H) Hc.size q → A q := by
  intro q hq
  rcases hq with ⟨j, e, hj⟩ | hq
  · exact h.2.2.1.2 j (q, e) hj
  · exact hA q (Nat.le_trans h.2.2.2.1 hq)
theorem gPre_blind {EX : gEX} (hX : gExOk EX) {as : List Value} {H : gH} {sz : Nat} : FrameBlind (va_Pc (as.map (gv ad)) (gPre EX D cl cA ad n H sz)) := by
  intro a T g mk q
  obtain ⟨q0, q1, q2, q3, q4, q5, q6⟩ := q
  exact ⟨q0, q1, q2, q3, va_K.moved (u := T) (U := T.calling g mk a) (Vm.Alike.refl T.vm) q4, q5, hX ad _ _ T (T.calling g mk a) (State.WarmedH.refl T) q6 (fun _ _ _ => rfl) (fun _ h => h)⟩
theorem gPre_at {EX : gEX} (hX : gExOk EX) {as : List Value} {H : gH} {Hc : Heap} {locs : List Loc} (hA : ∀ q : Nat, s.heap.size ≤ q → A q) (hK : va_K D cl [(cA 0, .int), (cA 1, .long)] s) (hE : EX ad A s s.heap) (h : gRel D cl cA ad n A s.heap H Hc locs) (T : State) (hT : T.heap = Hc) (hW : s.WarmedH T.vm) :
    va_Pc (as.map (gv ad)) (gPre EX D cl cA ad n H Hc.size) (as.map (gv ad)).toArray T :=
  ⟨rfl, by rw [hT], h.1, by rw [hT]; exact h.2.1, va_K.moved hW.alike hK, h.2.2.1.weaken (fun _ _ _ _ => trivial), hX ad A _ s T hW hE (fun q h1 h2 => by rw [hT]; exact h.2.2.2.2.1 q h1 h2) (gRel.free hA h)⟩
end GKC
theorem gWs_good {U : List Cond} (hU : ∀ w ∈ U, goodWord w = true) {i : gInf} (h : gHead i ∈ U) : GoodIn U (gWs i U) := by
  intro w hw
  rcases List.mem_cons.mp hw with rfl | hw
  · exact ⟨h, good_of_word (hU _ h)⟩
  · exact ⟨hw, good_of_word (hU _ hw)⟩
theorem gWs_code {U : List Cond} {i : gInf} (h : i.2.2.2.2.2 = []) : gWs i U = Cond.code i.1 i.2.1 i.2.2.1 i.2.2.2.1 :: U := by
  unfold gWs gHead
  rw [h]
section GKD
variable {EX : gEX} {inf : Nat → gInf} {cl : List vw_C} {U : List Cond} {SS : Nat → gS} {d : Nat} {TH : Nat → String → Prop} {cc : ByteArray} {nL : Nat} {own : String} {rt : Option FieldType} {z : Nat → Nat} {mc k : Nat}
theorem gs_calls {M idx na : Nat} (hU : ∀ w ∈ U, goodWord w = true) (hm : gSmono (SS M)) (hh : (inf M).2.2.2.2.2 = []) (hlink : Cond.methodLink own idx (inf M).1 ∈ U) (hst : Cond.static (inf M).1 ∈ U) (hini : Cond.initialized (inf M).1.cls ∈ U) (hcode : gHead (inf M) ∈ U)
    (hd : (inf M).1.cls ≠ "java/lang/invoke/MethodHandle" ∧ (inf M).1.cls ≠ "java/lang/invoke/VarHandle" ∧ (parseMethodDescriptor (inf M).1.desc).map (fun d => d.parameters.length) = some na) (hnL : (inf M).2.2.1 ≤ 45) (hdec : decode cc k = .ok (.invokestatic idx, 3)) (hz : z k + (inf M).2.2.2.2.1 ≤ z (k + 3)) :
    gOk EX inf cl U SS d TH cc nL own rt z mc k (gi_calls (SS M) (k + 3) na) := by
  refine ⟨gm_calls hm, ?_⟩
  intro p l e R s m args below meth c D cA ad n A Q X Qf hC hE hN L st H h Hc locs ls hR hlv
  obtain ⟨hx, hb, hml, hown, hts, hK, hA, hrt, hlk⟩ := hC
  obtain ⟨hX, hEX, hSS, hRm, hzs, hRc, hRs⟩ := hE
  obtain ⟨h1, h2, h3⟩ := h
  have hM := hSS M _ H _ X h3 D cA ad n Hc.size
  have hzk := hzs (k + 3)
  have cb : CallB R s args own idx (inf M).1 (inf M).2.1 (inf M).2.2.1 (inf M).2.2.2.1 (gWs (inf M) U) (gRm d (inf M).2.2.2.2.1) (inf M).2.2.2.2.1 (6 * (inf M).2.2.2.2.1) na :=
    callB_of na hts (gWs_good hU hcode) (gWs_code hh) rfl rfl (hts _ hini) (hts _ hlink) hd ⟨hRm.1, by show 8 + ((inf M).2.2.1 + 11) + (64 * d + 400) ≤ R.locals; omega⟩
  refine gx_call (vx_runS (As := ((st.take na).reverse).map (gv ad)) (rest := (st.drop na).map (gv ad)) ⟨hx, hb, hml, hown, hts⟩ hM ⟨cb, hts _ hst⟩ ⟨gPre_blind hX, fun T hT hW => gPre_at hX hA hK hEX hR T hT hW⟩ rfl ?_ hlv.1 ?_ (lv_room (by rw [gcat_map]; exact h2)) hdec ⟨by omega, by omega⟩) hR.2.2.2 (gRel.free hA hR) ?_ ?_
  · rw [List.length_map, List.length_reverse, List.length_take]
    exact Nat.min_eq_left h1
  · show st.map (gv ad) = _
    rw [← List.map_reverse, List.reverse_reverse, ← List.map_append, List.take_append_drop]
  · intro E H' q ce H1 locs1 hx' hrel hce hcv hcl
    exact vx_widen (by omega) (by omega) (hN.2.1 k ls _ H1 locs1 E H' q ce hx' hrel hce hcv hcl)
  · intro r H' H1 locs1 hq hrel
    have hw := hq H1 locs1 ls hrel hlv
    rw [List.map_append] at hw
    exact W.widen hz (by omega) hw
theorem gs_callv {M idx ci np N : Nat} {T0 : u_T} (hU : ∀ w ∈ U, goodWord w = true) (hm : gSmono (SS M)) (hh : (inf M).2.2.2.2.2 = []) (hc : cl[ci]? = some ((inf M).1.cls, T0, N)) (hlink : Cond.methodLink own idx (inf M).1 ∈ U) (hst : Cond.instanceMethod (inf M).1 ∈ U) (hsel : Cond.selects (inf M).1.cls (inf M).1 (inf M).1 ∈ U) (hini : Cond.initialized (inf M).1.cls ∈ U) (hcode : gHead (inf M) ∈ U)
    (hd : (inf M).1.cls ≠ "java/lang/invoke/MethodHandle" ∧ (inf M).1.cls ≠ "java/lang/invoke/VarHandle" ∧ (parseMethodDescriptor (inf M).1.desc).map (fun d => d.parameters.length) = some np) (hnL : (inf M).2.2.1 ≤ 45) (hdec : decode cc k = .ok (.invokevirtual idx, 3)) (hz : z k + (inf M).2.2.2.2.1 ≤ z (k + 3)) :
    gOk EX inf cl U SS d TH cc nL own rt z mc k (gi_callv (SS M) ci (k + 3) (np + 1)) := by
  refine ⟨gm_callv hm, ?_⟩
  intro p l e R s m args below meth c D cA ad n A Q X Qf hC hE hN L st H h Hc locs ls hR hlv
  obtain ⟨hx, hb, hml, hown, hts, hK, hA, hrt, hlk⟩ := hC
  obtain ⟨hX, hEX, hSS, hRm, hzs, hRc, hRs⟩ := hE
  obtain ⟨h1, h2, h4, h3⟩ := h
  have hM := hSS M _ H _ X h3 D cA ad n Hc.size
  have hzk := hzs (k + 3)
  have cb : CallB R s args own idx (inf M).1 (inf M).2.1 (inf M).2.2.1 (inf M).2.2.2.1 (gWs (inf M) U) (gRm d (inf M).2.2.2.2.1) (inf M).2.2.2.2.1 (6 * (inf M).2.2.2.2.1) np :=
    callB_of np hts (gWs_good hU hcode) (gWs_code hh) rfl rfl (hts _ hini) (hts _ hlink) hd ⟨hRm.1, by show 8 + ((inf M).2.2.1 + 11) + (64 * d + 400) ≤ R.locals; omega⟩
  have hlen : ((st.take (np + 1)).reverse).length = np + 1 := by
    rw [List.length_reverse, List.length_take]
    exact Nat.min_eq_left h1
  rcases hta : (st.take (np + 1)).reverse with _ | ⟨v, as⟩
  · rw [hta] at hlen; cases hlen
  · rw [hta] at hlen h4 hM
    cases v <;> try exact h4.elim
    rename_i b
    have h4 : (match H b with | some (.inr (c, _)) => c = ci | _ => False) := h4
    rcases hb2 : H b with _ | e0
    · rw [hb2] at h4; exact h4.elim
    · rw [hb2] at h4
      rcases e0 with a0 | ⟨c0, fs⟩
      · exact h4.elim
      · have h4 : c0 = ci := h4
        subst h4
        have hrec := va_recv hK hR.2.1 hc (gws_get (hR.1.lt hb2) hb2)
        refine gx_call (vx_runV (C := (inf M).1.cls) (b := ad b) (As := as.map (gv ad)) (rest := (st.drop (np + 1)).map (gv ad)) ⟨hx, hb, hml, hown, hts⟩ hM ⟨cb, hts _ hst, hts _ hsel⟩ ⟨gPre_blind hX, hrec, fun T hT hW => gPre_at (as := .ref b :: as) hX hA hK hEX hR T hT hW⟩ rfl ?_ hlv.1 ?_ (lv_room (by rw [gcat_map]; exact h2)) hdec ⟨by omega, by omega⟩) hR.2.2.2 (gRel.free hA hR) ?_ ?_
        · rw [List.length_map]
          simpa using hlen
        · show st.map (gv ad) = _
          have e1 : st = as.reverse ++ .ref b :: st.drop (np + 1) := by
            have e2 : st.take (np + 1) = as.reverse ++ [.ref b] := by
              rw [← List.reverse_reverse (st.take (np + 1)), hta, List.reverse_cons]
            rw [← List.singleton_append, ← List.append_assoc, ← e2, List.take_append_drop]
          rw [← List.map_reverse]
          show st.map (gv ad) = as.reverse.map (gv ad) ++ (gv ad (.ref b) :: (st.drop (np + 1)).map (gv ad))
          rw [← List.map_cons, ← List.map_append, ← e1]
        · intro E H' q ce H1 locs1 hx' hrel hce hcv hcl
          exact vx_widen (by omega) (by omega) (hN.2.1 k ls _ H1 locs1 E H' q ce hx' hrel hce hcv hcl)
        · intro r H' H1 locs1 hq hrel
          have hw := hq H1 locs1 ls hrel hlv
          rw [List.map_append] at hw
          exact W.widen hz (by omega) hw
end GKD
-- a method's locals at its start
def gsl : List Value → gL
  | [] => []
  | .long x :: vs => some (.long x) :: none :: gsl vs
  | .double x :: vs => some (.double x) :: none :: gsl vs
  | v :: vs => some v :: gsl vs
def gpad : Nat → gL → gL
  | 0, l => l
  | n + 1, [] => none :: gpad n []
  | n + 1, a :: l => a :: gpad n l
def gargs (nL : Nat) (as : List Value) : gL := gpad nL (gsl as)
theorem gl_gpad : ∀ (n : Nat) (l : gL) (i : Nat) (v : Value), gl (gpad n l) i = some v → gl l i = some v
  | 0, l, i, v, h => h
  | n + 1, [], 0, v, h => by cases h
  | n + 1, [], i + 1, v, h => by
    have := gl_gpad n [] i v h
    cases this
  | n + 1, a :: l, 0, v, h => h
  | n + 1, a :: l, i + 1, v, h => gl_gpad n l i v h
theorem gl_gsl (ad : Nat → Nat) : ∀ (as : List Value) (j i : Nat) (v : Value), gl (gsl as) i = some v → (j + i, gv ad v) ∈ lv_args j (as.map (gv ad)) := by
  intro as
  induction as with
  | nil => intro j i v h; cases h
  | cons a as ih =>
    intro j i v h
    have one : ∀ w : Value, w.category = 1 → gl (some w :: gsl as) i = some v → (j + i, gv ad v) ∈ lv_args j ((w :: as).map (gv ad)) := by
      intro w hw h
      cases i with
      | zero =>
        cases h
        exact List.mem_cons_self
      | succ i =>
        refine List.mem_cons_of_mem _ ?_
        rw [gv_cat, if_neg (by omega)]
        have := ih (j + 1) i v h
        rw [show j + 1 + i = j + (i + 1) by omega] at this
        exact this
    have two : ∀ w : Value, w.category = 2 → gl (some w :: none :: gsl as) i = some v → (j + i, gv ad v) ∈ lv_args j ((w :: as).map (gv ad)) := by
      intro w hw h
      match i, h with
      | 0, h =>
        cases h
        exact List.mem_cons_self
      | 1, h => cases h
      | i + 2, h =>
        refine List.mem_cons_of_mem _ ?_
        rw [gv_cat, if_pos hw]
        have := ih (j + 2) i v h
        rw [show j + 2 + i = j + (i + 2) by omega] at this
        exact this
    cases a <;> first | exact one _ rfl h | exact two _ rfl h
theorem gsl_len (ad : Nat → Nat) (as : List Value) : (lg_sl (as.map (gv ad))).length = (gsl as).length := by
  induction as with
  | nil => rfl
  | cons a as ih => cases a <;> simp [lg_sl, gsl, gv, Value.category] at ih ⊢ <;> omega
/-- throws of their own: the machine's -/
def gThOk (EX : gEX) (U : List Cond) (cl : List vw_C) (cc : ByteArray) (nL : Nat) (own : String) (rt : Option FieldType) (TH : Nat → String → Prop) (z : Nat → Nat) (mc : Nat) (l : Launch) (R : Room) : Prop :=
  ∀ (p : Program) (e : Env) (s : State) (m : MethodId) (args : Array Value) (below : List Frame) (meth : Method) (c : Code) (D : va_G) (cA : Nat → ClassId) (ad : Nat → Nat) (n : Nat) (A : Nat → Prop) (Q : gQ) (X : gX),
    gCx p s m args meth c cc nL own rt D cl cA A U → EX ad A s s.heap → (∀ x ∈ c.exceptionTable.toList, False) →
    ∀ (k : Nat) (ls : Array Slot) (Hc : Heap) (locs : List Loc) (E : String) (H : gH), TH k E → X E H → gRel D cl cA ad n A s.heap H Hc locs → ls.size = nL → z k + 1 ≤ mc → W p l e R s m args below meth c Hc locs (z k) (6 * z k) (vx_MQ below (gQc D cl cA ad n A Q) (gXc D cl cA ad n A X) args s mc (6 * mc) A) (F0 m k ls [])
theorem gThOk_no {EX : gEX} {U : List Cond} {cl : List vw_C} {cc : ByteArray} {nL : Nat} {own : String} {rt : Option FieldType} {z : Nat → Nat} {mc : Nat} {l : Launch} {R : Room} : gThOk EX U cl cc nL own rt (fun _ _ => False) z mc l R := by
  intro p e s m args below meth c D cA ad n A Q X hC hE ht k ls Hc locs E H h
  exact h.elim
theorem gMet_of {EX : gEX} {l : Launch} {inf : Nat → gInf} {cl : List vw_C} {U : List Cond} {SS : Nat → gS} {d M : Nat} {TH : Nat → String → Prop} {z : Nat → Nat} {T : Nat → gI} (hX : gExOk EX) (hp : plainName (inf M).1.cls = true) (hh : (inf M).2.2.2.2.2 = [])
    (hT : ∀ k, gOk EX inf cl U SS d TH (inf M).2.1 (inf M).2.2.1 (inf M).1.cls (inf M).2.2.2.1 z (inf M).2.2.2.2.1 k (T k)) (hz : ∀ k, z k ≤ (inf M).2.2.2.2.1) (hSS : ∀ (M : Nat) (as : List Value) (H : gH) (Q : gQ) (X : gX), SS M as H Q X → gMet EX l inf cl U d M as H Q X)
    (hTH : gThOk EX U cl (inf M).2.1 (inf M).2.2.1 (inf M).1.cls (inf M).2.2.2.1 TH z (inf M).2.2.2.2.1 l (gRm (d + 1) (inf M).2.2.2.2.1)) {as : List Value} {H : gH} {Q : gQ} {X : gX} (has : (gsl as).length ≤ (inf M).2.2.1) (h : gWp T Q X 0 (gargs (inf M).2.2.1 as) [] H) : gMet EX l inf cl U (d + 1) M as H Q X := by
  intro D cA ad n sz
  refine vx_ofW (cc := (inf M).2.1) (maxL := (inf M).2.2.1) (ret := (inf M).2.2.2.1) hp (gWs_code hh) ?_
  intro p e s m args below meth c s₁ B hml htab hv
  obtain ⟨rfl, rfl, hdom, hP, hK, hD0, hEX⟩ := hv
  have hts := atoms_spec (ws := gWs (inf M) U) B.pre
  have hown : s.vm.findClass (inf M).1.cls = some m.cls := findClass_of_methodNamed B.named
  have hD := hD0.self (sz := s.heap.size)
  generalize hAe : va_A (gws ad cA n H) s.heap.size = A at hD hEX ⊢
  have hA : ∀ q : Nat, s.heap.size ≤ q → A q := fun q h => by rw [← hAe]; exact Or.inr h
  have hC : gCx p s m ((as.map (gv ad)).toArray) meth c (inf M).2.1 (inf M).2.2.1 (inf M).1.cls (inf M).2.2.2.1 D cl cA A U := ⟨B.exec, B.bytes, hml, hown, fun w hw => hts w (List.mem_cons_of_mem _ hw), hK, hA, B.returns, B.notSynchronized⟩
  have hEv : gEnv EX l inf cl U SS d (gRm (d + 1) (inf M).2.2.2.2.1) s ad A z (inf M).2.2.2.2.1 := ⟨hX, hEX, hSS, ⟨by show d + 7 ≤ d + 1 + 6; omega, by show 64 * d + 464 ≤ 64 * (d + 1) + 400; omega⟩, hz, Nat.le_refl _, Nat.le_refl _⟩
  have hEn : gEnd p l e (gRm (d + 1) (inf M).2.2.2.2.1) s m ((as.map (gv ad)).toArray) below meth c (inf M).2.1 (inf M).2.2.1 (inf M).2.2.2.1 TH D cl cA ad n A z (inf M).2.2.2.2.1 Q X (vx_MQ below (gQc D cl cA ad n A Q) (gXc D cl cA ad n A X) ((as.map (gv ad)).toArray) s (inf M).2.2.2.2.1 (6 * (inf M).2.2.2.2.1) A) := by
    refine ⟨?_, ?_, hTH p e s m _ below meth c D cA ad n A Q X hC hEX htab⟩
    · intro k ls Hc locs r H hq hR hret
      have hlocks := B.notSynchronized
      rcases r with _ | v
      · exact vx_ret (W.vret B.exec B.bytes (B.returns.trans hret.1) (fun t ht hW => ⟨none, H, rfl, hq, ⟨hR.1, by rw [ht]; exact hR.2.1, hR.2.2.1⟩, hR.2.2.2.F ht⟩) hR.2.2.2.2.2 hret.2)
      · cases v <;> try exact hret.elim
        · obtain ⟨⟨ty, h1, h2⟩, h3⟩ := hret
          exact vx_ret (W.zret B.exec B.bytes (B.returns.trans h1) h2 (fun t ht hW => ⟨some (.int _), H, rfl, hq, ⟨hR.1, by rw [ht]; exact hR.2.1, hR.2.2.1⟩, hR.2.2.2.F ht⟩) hR.2.2.2.2.2 h3)
        · exact vx_ret (W.lret B.exec B.bytes (B.returns.trans hret.1) (fun t ht hW => ⟨some (.long _), H, rfl, hq, ⟨hR.1, by rw [ht]; exact hR.2.1, hR.2.2.1⟩, hR.2.2.2.F ht⟩) hR.2.2.2.2.2 hret.2)
    · intro k ls rest Hc locs E H q ce hx hR hce hcv hcl
      exact vx_out (fun x hx => (htab x hx).elim) B.notSynchronized hce hcv hcl (fun t ht hW => ⟨H, hx, ⟨hR.1, by rw [ht]; exact hR.2.1, hR.2.2.1⟩, hR.2.2.2.F ht⟩) hR.2.2.2.2.2 (Nat.le_refl _) (Nat.le_refl _)
  have key := h (gAt p l e (gRm (d + 1) (inf M).2.2.2.2.1) s m ((as.map (gv ad)).toArray) below meth c (inf M).2.2.1 D cl cA ad n A z _) (fun k L L' st H hl h Hc locs ls hR hv => h Hc locs ls hR ⟨hv.1, hv.2.1, fun i v hi => hv.2.2 i v (hl.2 i v hi)⟩) (fun k L st H hi => (hT k).2 p l e _ s m _ below meth c D cA ad n A Q X _ hC hEv hEn L st H hi)
  have hl := lv_entry (as.map (gv ad)) (n := (inf M).2.2.1) (by rw [gsl_len]; exact has)
  rw [lg_entry_eq]
  refine W.widen (Nat.zero_le _) (Nat.zero_le _) (key s.heap [] _ ⟨hdom, hP, hD, va_S.rf⟩ ⟨hl.1, hl.2.1, fun i v hi => ?_⟩)
  have := hl.2.2 _ (gl_gsl ad as 0 i v (gl_gpad _ _ _ _ hi))
  rw [Nat.zero_add] at this
  exact this
