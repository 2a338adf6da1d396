/-! ===== constructors: a world that grows, each new cell at the heap's end ===== -/
def gwl (ad : Nat → Nat) (cA : Nat → ClassId) (cs : List va_E) : va_W := (List.range cs.length).map (fun h => (ad h, gc ad cA (cs.getD h (.inr (0, [])))))
def gLst (cs : List va_E) : gH := fun h => cs[h]?
theorem gLst_dom (cs : List va_E) : gDom cs.length (gLst cs) := by
  intro h
  simp [gLst]
theorem gwl_eq (ad : Nat → Nat) (cA : Nat → ClassId) (cs : List va_E) : gws ad cA cs.length (gLst cs) = gwl ad cA cs := by
  unfold gws gwl gLst
  apply List.map_congr_left
  intro h _
  rw [List.getD_eq_getElem?_getD]
theorem gwl_len {ad : Nat → Nat} {cA : Nat → ClassId} {cs : List va_E} : (gwl ad cA cs).length = cs.length := by simp [gwl]
theorem gwl_get {ad : Nat → Nat} {cA : Nat → ClassId} {cs : List va_E} {h : Nat} {e : va_E} (he : cs[h]? = some e) : (gwl ad cA cs)[h]? = some (ad h, gc ad cA e) := by
  have hn : h < cs.length := (List.getElem?_eq_some_iff.mp he).1
  unfold gwl
  rw [List.getElem?_map, List.getElem?_range hn, Option.map_some, List.getD_eq_getElem?_getD, he]
  rfl
theorem gwl_app {ad : Nat → Nat} {cA : Nat → ClassId} {cs : List va_E} {e : va_E} : gwl ad cA (cs ++ [e]) = gwl ad cA cs ++ [(ad cs.length, gc ad cA e)] := by
  unfold gwl
  rw [List.length_append, List.length_singleton, List.range_succ, List.map_append]
  congr 1
  · apply List.map_congr_left
    intro h hh
    have hn := List.mem_range.mp hh
    rw [List.getD_eq_getElem?_getD, List.getD_eq_getElem?_getD, List.getElem?_append_left hn]
  · simp
theorem gwl_set {ad : Nat → Nat} {cA : Nat → ClassId} {cs : List va_E} {h : Nat} {e : va_E} (hn : h < cs.length) : (gwl ad cA cs).set h (ad h, gc ad cA e) = gwl ad cA (cs.set h e) := by
  apply List.ext_getElem?
  intro i
  by_cases hi : i = h
  · subst hi
    rw [List.getElem?_set_self (by rw [gwl_len]; exact hn), gwl_get (List.getElem?_set_self hn)]
  · rw [List.getElem?_set_ne (Ne.symm hi)]
    unfold gwl
    rw [List.getElem?_map, List.getElem?_map, List.length_set]
    by_cases hin : i < cs.length
    · rw [List.getElem?_range hin, Option.map_some, Option.map_some, List.getD_eq_getElem?_getD, List.getD_eq_getElem?_getD, List.getElem?_set_ne (Ne.symm hi)]
    · rw [List.getElem?_eq_none (by simp; omega)]
      rfl
theorem gset_ap {cs0 l : List va_E} {o e : va_E} {j : Nat} : (cs0 ++ l).set (cs0.length + j) e = cs0 ++ l.set j e := by
  rw [List.set_append_right _ _ (by omega), Nat.add_sub_cancel_left]
theorem gget_ap {cs0 l : List va_E} {j : Nat} : (cs0 ++ l)[cs0.length + j]? = l[j]? := by
  rw [List.getElem?_append_right (by omega), Nat.add_sub_cancel_left]
def gRelL (D : va_G) (cl : List vw_C) (cA : Nat → ClassId) (ad : Nat → Nat) (b0 : Nat) (A : Nat → Prop) (H0 : Heap) (cs : List va_E) (Hc : Heap) (locs : List Loc) : Prop :=
  va_P D cl (gwl ad cA cs) Hc ∧ va_D A (gwl ad cA cs) ∧ va_S A H0 Hc locs ∧ Hc.size = b0 + cs.length
section GCT
variable {p : Program} {l : Launch} {e : Env} {R : Room} {s : State} {m : MethodId} {args : Array Value} {below : List Frame} {meth : Method} {c : Code} {Hc : Heap} {locs : List Loc} {cells slots : Nat} {Q : State → Prop}
variable {cc : ByteArray} {pc : Nat} {ls : Array Slot} {rest : List Value} {D : va_G} {cl : List vw_C} {A : Nat → Prop} {cA : Nat → ClassId} {ad : Nat → Nat} {b0 : Nat} {cs0 lc lc' : List va_E} {tys : List (ClassId × FieldType)}
theorem gn_newa (hexec : p.tables.exec = Jvm.exec) (hb : c.code = cc) {atype : ArrayType} {ty : FieldType} {t : Nat} (hty : newarray.typeOf atype = ty) (harr : (Cond.arrayClass ty).before args s = true) (hnm : s.vm.findClass ("[" ++ ty.toString) = some (cA t)) (hA : ∀ q, s.heap.size ≤ q → A q)
    (hR : gRelL D cl cA ad b0 A s.heap (cs0 ++ lc) Hc locs) {n : Int32} {N k : Nat} {a0 : vp_A} (hk : lc.length = k) (had : ad (cs0.length + k) = b0 + (cs0.length + k)) (ha : ∀ cA : ClassId, vp_cell cA a0 = arrV cA N (fun _ => defaultValue ty)) (hl : lc ++ [.inl (t, a0)] = lc') (hn : ¬ n < 0) (hN : n.toNatClampNeg = N) (hbytes : N * componentBytes ty ≤ 536870912) (hcells : cells + 1 ≤ R.cells) (hslots : slots + N ≤ R.slots) (hdg : decode cc pc = .ok (.newarray atype, 2))
    (kk : ∀ H1 : Heap, gRelL D cl cA ad b0 A s.heap (cs0 ++ lc') H1 locs → W p l e R s m args below meth c H1 locs (cells + 1) (slots + N) Q (F0 m (pc + 2) ls (.ref (ad (cs0.length + k)) :: rest))) : W p l e R s m args below meth c Hc locs cells slots Q (F0 m pc ls (.int n :: rest)) := by
  subst hty
  subst hl
  subst hk
  obtain ⟨hP, hD, hS, hz⟩ := hR
  refine va_newaK hexec hb harr rfl hdg rfl hn hN hbytes hcells hslots rfl fun H1 cB e1 z1 o1 hAr hNm => ?_
  cases Option.some.inj (hNm.symm.trans hnm)
  have hla : (cs0 ++ lc).length = cs0.length + lc.length := List.length_append
  have hsz : ad (cs0.length + lc.length) = Hc.size := by rw [had, hz, hla]
  have hkp : ∀ (k : Nat) (x : Nat × va_E), (gwl ad cA (cs0 ++ lc))[k]? = some x → H1[x.1]? = Hc[x.1]? := fun k x hx => o1 x.1 ((hP k x hx).lt)
  have hD2 := hD.push (a := Hc.size) (e := .inl (cA t, a0)) hP rfl (hA _ hS.1)
  have hg : gwl ad cA (cs0 ++ (lc ++ [.inl (t, a0)])) = gwl ad cA (cs0 ++ lc) ++ [(Hc.size, .inl (cA t, a0))] := by
    rw [← List.append_assoc, gwl_app, hla, hsz]
    rfl
  have hfin := kk H1 ⟨by
    rw [hg]
    refine (hP.kept hkp).app (fun k x hx => ?_)
    have hz : k < 1 := (List.getElem?_eq_some_iff.mp hx).1
    rw [show k = 0 by omega] at hx
    cases hx
    show H1[Hc.size]? = some (vp_cell _ _)
    rw [ha]
    exact e1, by rw [hg]; exact hD2, ⟨Nat.le_trans hS.1 (by omega), fun x h1 h2 => (o1 x (Nat.lt_of_lt_of_le h1 hS.1)).trans (hS.2.1 x h1 h2), hS.2.2⟩, by rw [z1, hz, ← List.append_assoc, List.length_append (bs := [_]), List.length_singleton]; omega⟩
  rw [hsz] at hfin
  exact hfin
theorem gn_new (hexec : p.tables.exec = Jvm.exec) (hb : c.code = cc) {own C : String} {T : u_T} {N ci index : Nat} {Ts : List Cond} (hts : ∀ w ∈ Ts, w.before args s = true) (hin : ∀ w ∈ u_ws C T N, w ∈ Ts) (ty : Nat → FieldType) (hty : ∀ k, k < N → parseFieldDescriptor (T k).2.2.1 = some (ty k)) (hown : s.vm.findClass own = some m.cls) (hcl : (Cond.classLink own index C).before args s = true) (hinst : (Cond.instantiable C N).before args s = true) (hini : (Cond.initialized C).before args s = true)
    (hK : va_K D cl tys s) (hA : ∀ q, s.heap.size ≤ q → A q) (hR : gRelL D cl cA ad b0 A s.heap (cs0 ++ lc) Hc locs) (hc : cl[ci]? = some (C, T, N)) {k : Nat} (hk : lc.length = k) (had : ad (cs0.length + k) = b0 + (cs0.length + k)) {fs : List Value} (hfs : ∀ j, j < N → defaultValue (ty j) = vp_V (fs.map (gv ad)) j) (hl : lc ++ [.inr (ci, fs)] = lc') (hcells : cells + 1 ≤ R.cells) (hslots : slots + N ≤ R.slots) (hdg : decode cc pc = .ok (.new index, 3))
    (kk : ∀ H1 : Heap, gRelL D cl cA ad b0 A s.heap (cs0 ++ lc') H1 locs → W p l e R s m args below meth c H1 locs (cells + 1) (slots + N) Q (F0 m (pc + 3) ls (.ref (ad (cs0.length + k)) :: rest))) : W p l e R s m args below meth c Hc locs cells slots Q (F0 m pc ls rest) := by
  subst hl
  subst hk
  obtain ⟨hP, hD, hS, hz⟩ := hR
  have hKn := hK.1 ci _ hc
  refine W.newcK hexec hb hown hcl hinst hini rfl hdg hcells hslots hKn.2.1 rfl fun H1 kC hkC e1 z1 o1 => ?_
  have hla : (cs0 ++ lc).length = cs0.length + lc.length := List.length_append
  have hsz : ad (cs0.length + lc.length) = Hc.size := by rw [had, hz, hla]
  have hkp : ∀ (k : Nat) (x : Nat × va_E), (gwl ad cA (cs0 ++ lc))[k]? = some x → H1[x.1]? = Hc[x.1]? := fun k x hx => o1 x.1 ((hP k x hx).lt)
  have hD2 := hD.push (a := Hc.size) (e := .inr (ci, fs.map (gv ad))) hP rfl (hA _ hS.1)
  have hg : gwl ad cA (cs0 ++ (lc ++ [.inr (ci, fs)])) = gwl ad cA (cs0 ++ lc) ++ [(Hc.size, .inr (ci, fs.map (gv ad)))] := by
    rw [← List.append_assoc, gwl_app, hla, hsz]
    rfl
  have hfin := kk H1 ⟨by
    rw [hg]
    refine (hP.kept hkp).app (fun k x hx => ?_)
    have hz : k < 1 := (List.getElem?_eq_some_iff.mp hx).1
    rw [show k = 0 by omega] at hx
    cases hx
    exact ⟨_, hc, (u_born ty hts hin hKn hkC e1 hty).to hfs⟩, by rw [hg]; exact hD2, ⟨Nat.le_trans hS.1 (by omega), fun x h1 h2 => (o1 x (Nat.lt_of_lt_of_le h1 hS.1)).trans (hS.2.1 x h1 h2), hS.2.2⟩, by rw [z1, hz, ← List.append_assoc, List.length_append (bs := [_]), List.length_singleton]; omega⟩
  rw [hsz] at hfin
  exact hfin
theorem gn_put {own C : String} {T : u_T} {N ci index : Nat} {Ts : List Cond} (hexec : p.tables.exec = Jvm.exec) (hb : c.code = cc) (hts : ∀ w ∈ Ts, w.before args s = true) (hin : ∀ w ∈ u_ws C T N, w ∈ Ts) (ty0 : Nat → FieldType) (hty : ∀ k, k < N → parseFieldDescriptor (T k).2.2.1 = some (ty0 k)) (hnm : ∀ a, a < N → ∀ b, b < N → a ≠ b → (T a).2.1 ≠ (T b).2.1) (hown : s.vm.findClass own = some m.cls) (hK : va_K D cl tys s) (hR : gRelL D cl cA ad b0 A s.heap (cs0 ++ lc) Hc locs) {fs fs' : List Value} (j : Nat) (he : lc[j]? = some (.inr (ci, fs))) (hc : cl[ci]? = some (C, T, N)) (k : Nat) (hk : k < N) (hown1 : (T k).1 = own) (hlink : (Cond.fieldLink own index own (T k).2.1 (T k).2.2.1).before args s = true) (hin2 : meth.name = "<init>") {ty : FieldType} {v : Value} (hd : parseFieldDescriptor (T k).2.2.1 = some ty) (hn : narrow ty (gv ad v) = gv ad v) (hfit : fits ty (gv ad v) = true) (hl : k < fs.length) (hfs : fs.set k v = fs') (hl' : lc.set j (.inr (ci, fs')) = lc') {h : Nat} (hh : cs0.length + j = h)
    (hdg : decode cc pc = .ok (.putfield index, 3)) (kk : ∀ (H1 : Heap) (locs1 : List Loc), gRelL D cl cA ad b0 A s.heap (cs0 ++ lc') H1 locs1 → W p l e R s m args below meth c H1 locs1 cells slots Q (F0 m (pc + 3) ls rest)) : W p l e R s m args below meth c Hc locs cells slots Q (F0 m pc ls (gv ad v :: .ref (ad h) :: rest)) := by
  subst hh
  subst hfs
  subst hl'
  obtain ⟨hP, hD, hS0, hz⟩ := hR
  have he0 : (cs0 ++ lc)[cs0.length + j]? = some (.inr (ci, fs)) := by rw [gget_ap]; exact he
  have he2 := gwl_get (ad := ad) (cA := cA) he0
  have hlt : cs0.length + j < (cs0 ++ lc).length := (List.getElem?_eq_some_iff.mp he0).1
  have hap := va_apart (own := own) hts hin ty0 hty hnm hK hc
  obtain ⟨r, h1, cell, q1, q2, q3, q4⟩ := hP _ _ he2
  have hr : r = (C, T, N) := Option.some.inj (h1.symm.trans hc)
  subst hr
  obtain ⟨hS, hfc, kC, hkC, hkind⟩ := hK.1 ci _ hc
  obtain ⟨cf, kf, fi, f, hi, hsl⟩ := hS k hk
  have hlay := hts _ (hin _ (u_in_lay hk))
  have hst := (u_facts hfc hkC (u_lays hts hin hk) hi).1
  have hset : gwl ad cA (cs0 ++ lc.set j (.inr (ci, fs.set k v))) = (gwl ad cA (cs0 ++ lc)).set (cs0.length + j) (ad (cs0.length + j), .inr (ci, (fs.map (gv ad)).set k (gv ad v))) := by
    rw [← gset_ap (o := .inr (ci, fs)), ← gwl_set hlt]
    show _ = (gwl ad cA (cs0 ++ lc)).set (cs0.length + j) (ad (cs0.length + j), .inr (ci, (fs.map (gv ad)).set k (gv ad v)))
    rw [← List.map_set]
    rfl
  have hlen : (cs0 ++ lc.set j (.inr (ci, fs.set k v))).length = (cs0 ++ lc).length := by rw [List.length_append, List.length_append, List.length_set]
  have hlm : k < (fs.map (gv ad)).length := by rw [List.length_map]; exact hl
  have hi' : s.fieldFound? own (T k).2.1 (T k).2.2.1 = some (cf, kf, fi, f) := by rw [← hown1]; exact hi
  cases hfin : (T k).2.2.2 with
  | false =>
    unfold u_lay at hlay
    rw [if_neg (by rw [hfin]; decide)] at hlay
    have h6 := u_store hfc hkC hkind hlay hi hd hn hfit
    refine W.putK hexec hb (f := f) ⟨hown, hlink, ⟨_, _, _, hi'⟩, hst⟩ (by rw [q2]; exact h6) q1 q3 (by rw [hsl]; exact k2_hasslot (q4 k hk)) rfl rfl hdg fun H' e1 e2 e3 => ?_
    rw [hsl] at e1 ⊢
    refine kk H' _ ⟨?_, ?_, hS0.put e2 e3 (hD.2 _ _ he2), by rw [e2, hlen]; exact hz⟩
    · rw [hset]
      exact hP.set hD he2 ⟨_, hc, t_OB.to (V := updV (vp_V (fs.map (gv ad))) k (gv ad v)) ⟨_, e1, q2, q3, t_set q4 hap hk (gv ad v)⟩ (fun j _ => vp_updV_set hlm (gv ad v) j)⟩ e3
    · rw [hset]
      exact hD.set he2
  | true =>
    unfold u_lay at hlay
    rw [if_pos hfin] at hlay
    have hcf : m.cls = cf := by
      obtain ⟨_, _, c', _, _, _, -, -, hf', -, -, -, hown2, -⟩ := Cond.laysFinal_spec hlay
      have e1 : c' = cf := by have := hi.symm.trans hf'; simp at this; exact this.1.symm
      rw [hown1] at hown2
      rw [← e1]; exact Option.some.inj (hown.symm.trans hown2)
    have h6 := u_fits hfc hkC hkind (Or.inr hlay) hi hd hn hfit
    refine W.putFinK hexec hb hown hlink hi' hst hcf hin2 (by rw [q2]; exact h6) q1 q3 (by rw [hsl]; exact k2_hasslot (q4 k hk)) rfl rfl hdg fun H' e1 e2 e3 => ?_
    rw [hsl] at e1 ⊢
    refine kk H' _ ⟨?_, ?_, hS0.put e2 e3 (hD.2 _ _ he2), by rw [e2, hlen]; exact hz⟩
    · rw [hset]
      exact hP.set hD he2 ⟨_, hc, t_OB.to (V := updV (vp_V (fs.map (gv ad))) k (gv ad v)) ⟨_, e1, q2, q3, t_set q4 hap hk (gv ad v)⟩ (fun j _ => vp_updV_set hlm (gv ad v) j)⟩ e3
    · rw [hset]
      exact hD.set he2
end GCT
/-- links of nest mates: no good words, so they go along as they are -/
def gNestL : List Cond := [Cond.methodLinkNest RX9 9 yX7_init RX9, Cond.methodLinkNest RX9 18 yX3_init RX9, Cond.methodLinkNest RX9 28 yX8_init RX9, Cond.methodLinkNest RX9 48 yX0_init RX9, Cond.methodLinkNest RX9 58 yX1_init RX9, Cond.methodLinkNest RX9 65 yX5_init RX9, Cond.methodLinkNest RX9 72 yX6_init RX9, Cond.methodLinkNest RX9 79 yX2_init RX9, Cond.methodLinkNest RX2 11 yX8_init RX9]
def gNest (U : State) : Prop := ∀ w ∈ gNestL, va_Nw w U
theorem gNest.warm {s U : State} (hW : s.WarmedH U.vm) (h : gNest s) : gNest U := by
  intro w hw
  have h0 := h w hw
  simp only [gNestL, List.mem_cons, List.not_mem_nil, or_false] at hw
  rcases hw with rfl | rfl | rfl | rfl | rfl | rfl | rfl | rfl | rfl <;> exact va_Nw.warmM hW h0
def ctPre (EX : gEX) (D : va_G) (cl : List vw_C) (cA : Nat → ClassId) (ad : Nat → Nat) (b0 : Nat) (cs : List va_E) (T : State) : Prop :=
  T.heap.size = b0 + cs.length ∧ va_P D cl (gwl ad cA cs) T.heap ∧ va_K D cl [(cA 0, .int), (cA 1, .long)] T ∧ va_D (fun _ => True) (gwl ad cA cs) ∧ EX ad (va_A (gwl ad cA cs) (b0 + cs.length)) T T.heap ∧ gNest T
def ctPost (D : va_G) (cl : List vw_C) (cA : Nat → ClassId) (ad : Nat → Nat) (b0 : Nat) (A : Nat → Prop) (cs : List va_E) : Array Value → State → Outcome → State → Prop := fun _ st oc t =>
  oc = .returned none ∧ (va_P D cl (gwl ad cA cs) t.heap ∧ va_D A (gwl ad cA cs)) ∧ va_F A st t ∧ t.heap.size = b0 + cs.length
/-- a constructor's contract: of the object at the end of cs it makes cs' -/
def gCt (EX : gEX) (l : Launch) (y : MethodName) (cc : ByteArray) (rm : Room) (mc ms : Nat) (cs0 : List va_E) (o : va_E) (lc : List va_E) : Prop :=
  ∀ (D : va_G) (cA : Nat → ClassId) (ad : Nat → Nat) (b0 : Nat), (∀ h, h < 82 → ad h = b0 + h) → Met l y (Cond.code y cc 1 none :: gU) rm (va_Pc [.ref (ad cs0.length)] (ctPre EX D gCl cA ad b0 (cs0 ++ [o]))) (ctPost D gCl cA ad b0 (va_A (gwl ad cA (cs0 ++ [o])) (b0 + (cs0 ++ [o]).length)) (cs0 ++ lc)) mc ms (va_A (gwl ad cA (cs0 ++ [o])) (b0 + (cs0 ++ [o]).length))
theorem ctPre_blind {EX : gEX} (hX : gExOk EX) {D : va_G} {cl : List vw_C} {cA : Nat → ClassId} {ad : Nat → Nat} {b0 : Nat} {cs : List va_E} {as : List Value} : FrameBlind (va_Pc as (ctPre EX D cl cA ad b0 cs)) := by
  intro a T g mk q
  obtain ⟨q0, q1, q2, q3, q4, q5, q6⟩ := q
  exact ⟨q0, q1, q2, va_K.moved (u := T) (U := T.calling g mk a) (Vm.Alike.refl T.vm) q3, q4, hX ad _ _ T (T.calling g mk a) (State.WarmedH.refl T) q5 (fun _ _ _ => rfl) (fun _ h => h), q6.warm (U := T.calling g mk a) (State.WarmedH.refl T)⟩
abbrev gMth : Nat → Nat → gS := meth
section GCU
variable {p : Program} {l : Launch} {e : Env} {R : Room} {s : State} {m : MethodId} {args : Array Value} {below : List Frame} {meth : Method} {c : Code} {Hc : Heap} {locs : List Loc} {cells slots : Nat} {Q : State → Prop}
variable {cc : ByteArray} {pc : Nat} {ls : Array Slot} {rest : List Value} {D : va_G} {A A1 : Nat → Prop} {cA : Nat → ClassId} {ad : Nat → Nat} {b0 : Nat} {cs0 lc lc' : List va_E}
theorem gRelL.free {cl : List vw_C} {cs : List va_E} (hA : ∀ q : Nat, s.heap.size ≤ q → A q) (h : gRelL D cl cA ad b0 A s.heap cs Hc locs) : ∀ q, va_A (gwl ad cA cs) (b0 + cs.length) q → A q := by
  intro q hq
  rcases hq with ⟨j, e, hj⟩ | hq
  · exact h.2.1.2 j (q, e) hj
  · exact hA q (Nat.le_trans h.2.2.1.1 (by rw [h.2.2.2]; exact hq))
theorem gn_call {cs1 cs2 : List va_E} {mc ms : Nat} {a : Array Value} {st0 : List Value} (hr : va_Run p l e R s m args below meth c Hc locs cells slots mc ms (F0 m pc ls st0) rest (ctPost D gCl cA ad b0 (va_A (gwl ad cA cs1) (b0 + cs1.length)) cs2 a) (va_A (gwl ad cA cs1) (b0 + cs1.length))) (hA : ∀ q : Nat, s.heap.size ≤ q → A q) (hR : gRelL D gCl cA ad b0 A s.heap cs1 Hc locs)
    (kk : ∀ (H1 : Heap) (locs1 : List Loc), gRelL D gCl cA ad b0 A s.heap cs2 H1 locs1 → W p l e R s m args below meth c H1 locs1 (cells + mc) (slots + ms) Q (F0 m (pc + 3) ls rest)) : W p l e R s m args below meth c Hc locs cells slots Q (F0 m pc ls st0) := by
  intro T hT X
  obtain ⟨v, st₀, t, T', L, h0, X', hL, e1, e2, ⟨hv, ⟨w2, w3⟩, hF, hz⟩, st⟩ := hr T hT X
  have hv' : v = none := by injection hv
  subst hv'
  have hf := hR.free hA
  obtain ⟨k1, k2, k3⟩ := vx_keep h0 e1 hR.2.2.1 (fun q _ h => hf q h) hf hL hF
  obtain ⟨t2, a1, b1⟩ := kk T'.heap (locs ++ L) ⟨by rw [e1]; exact w2, w3.weaken (fun _ _ _ h => hf _ h), k3, by rw [e1]; exact hz⟩ T' rfl X'
  exact ⟨t2, st t2 a1, b1⟩
theorem ctPre_at {EX : gEX} (hX : gExOk EX) {cs : List va_E} {as : List Value} (hA : ∀ q : Nat, s.heap.size ≤ q → A q) (hK : va_K D gCl [(cA 0, .int), (cA 1, .long)] s) (hE : EX ad A s s.heap) (hNe : gNest s) (h : gRelL D gCl cA ad b0 A s.heap cs Hc locs) (T : State) (hT : T.heap = Hc) (hW : s.WarmedH T.vm) :
    va_Pc as (ctPre EX D gCl cA ad b0 cs) as.toArray T :=
  ⟨rfl, by rw [hT]; exact h.2.2.2, by rw [hT]; exact h.1, va_K.moved hW.alike hK, h.2.1.weaken (fun _ _ _ _ => trivial), hX ad A _ s T hW hE (fun q h1 h2 => by rw [hT]; exact h.2.2.1.2.1 q h1 h2) (h.free hA), hNe.warm hW⟩
/-- a call of a nest mate's constructor -/
theorem gn_ctN {EX : gEX} (hX : gExOk EX) {nL index mc ms : Nat} {own host : String} {y : MethodName} {yc : ByteArray} {rm : Room} {o : va_E} {lo lc2 : List va_E} {k : Nat} (hml : c.maxLocals = nL) (hexec : p.tables.exec = Jvm.exec) (hb : c.code = cc) (hown : s.vm.findClass own = some m.cls) (hts : ∀ w ∈ gU, w.before args s = true) (hA : ∀ q : Nat, s.heap.size ≤ q → A q) (hK : va_K D gCl [(cA 0, .int), (cA 1, .long)] s) (hE : EX ad A s s.heap) (hNe : gNest s) (had : ∀ h, h < 82 → ad h = b0 + h)
    (hc : gCt EX l y yc rm mc ms (cs0 ++ lc) o lo) (hw : Cond.methodLinkNest own index y host ∈ gNestL) (hini : Cond.initialized y.cls ∈ gU) (hins : Cond.instanceMethod y ∈ gU) (hcode : Cond.code y yc 1 none ∈ gU) (hyn : y.name = "<init>") (hrm : rm.cells = mc ∧ rm.slots = ms) (hd : y.cls ≠ "java/lang/invoke/MethodHandle" ∧ y.cls ≠ "java/lang/invoke/VarHandle" ∧ (parseMethodDescriptor y.desc).map (fun d => d.parameters.length) = some 0) (hRm : rm.frames + 1 ≤ R.frames ∧ 8 + (1 + 11) + rm.locals ≤ R.locals)
    (hl : lc ++ [o] = lc') (hl2 : lc ++ lo = lc2) (hk : lc.length = k) (hR : gRelL D gCl cA ad b0 A s.heap (cs0 ++ lc') Hc locs) (hsz : ls.size = nL) (hcat : (rest.map fun v => v.category).sum ≤ 8) (hdg : decode cc pc = .ok (.invokespecial index, 3)) (hf : cells + mc ≤ R.cells ∧ slots + ms ≤ R.slots)
    (kk : ∀ (H1 : Heap) (locs1 : List Loc), gRelL D gCl cA ad b0 A s.heap (cs0 ++ lc2) H1 locs1 → W p l e R s m args below meth c H1 locs1 (cells + mc) (slots + ms) Q (F0 m (pc + 3) ls rest)) : W p l e R s m args below meth c Hc locs cells slots Q (F0 m pc ls (.ref (ad (cs0.length + k)) :: rest)) := by
  subst hl
  subst hl2
  subst hk
  rw [← List.append_assoc] at hR
  have hM := hc D cA ad b0 had
  rw [List.append_assoc (as := cs0) (bs := lc) (cs := lo)] at hM
  have hla : (cs0 ++ lc).length = cs0.length + lc.length := List.length_append
  rw [hla] at hM
  refine gn_call (va_runIN (As := []) (rest := rest) (n := 0) (host := host) ⟨hexec, hb, hml, hown, hts⟩ hM ⟨va_cnB 0 hts (fun w hw2 => ?_) rfl hrm.1 hrm.2 (hNe _ hw) (hts _ hini) hd hRm, hyn, hts _ hins⟩ ⟨ctPre_blind hX, fun T hT hW => ctPre_at hX hA hK hE hNe hR T hT hW⟩ rfl rfl hsz rfl (lv_room hcat) hdg hf) hA hR kk
  rcases List.mem_cons.mp hw2 with rfl | h
  · exact ⟨hcode, good_of_word (gU_good _ hcode)⟩
  · exact ⟨h, good_of_word (gU_good _ h)⟩
/-- a call of a method of the tables, from a constructor -/
theorem gn_cv {EX : gEX} (hX : gExOk EX) {d M idx ci nL : Nat} {own : String} {y : MethodName} (hSS : ∀ (M : Nat) (as : List Value) (H : gH) (Q : gQ) (X : gX), gMth d M as H Q X → gMet EX l gInfT gCl gU d M as H Q X) (hml : c.maxLocals = nL) (hexec : p.tables.exec = Jvm.exec) (hb : c.code = cc) (hown : s.vm.findClass own = some m.cls) (hts : ∀ w ∈ gU, w.before args s = true) (hA : ∀ q : Nat, s.heap.size ≤ q → A q) (hK : va_K D gCl [(cA 0, .int), (cA 1, .long)] s) (hE : EX ad A s s.heap)
    (h : gCeeV gInfT gCl gU M y ci 0 0) (hlink : Cond.methodLink own idx y ∈ gU) (hRm : d + 7 ≤ R.frames ∧ 64 * d + 464 ≤ R.locals) (hcl : cells ≤ R.cells ∧ slots ≤ R.slots) (hex : Hc.size = s.heap.size + cells) {cs cs2 : List va_E} {b : Nat} {fs : List Value} (hbo : cs[b]? = some (.inr (ci, fs))) (hcall : gMth d M [.ref b] (gLst cs) (fun r H' => r = none ∧ H' = gLst cs2 ∧ cs2.length = cs.length) (fun _ _ => False))
    (hR : gRelL D gCl cA ad b0 A s.heap cs Hc locs) (hsz : ls.size = nL) (hcat : (rest.map fun v => v.category).sum ≤ 8) (hdg : decode cc pc = .ok (.invokevirtual idx, 3))
    (kk : ∀ (H1 : Heap) (locs1 : List Loc), gRelL D gCl cA ad b0 A s.heap cs2 H1 locs1 → W p l e R s m args below meth c H1 locs1 cells slots Q (F0 m (pc + 3) ls rest)) : W p l e R s m args below meth c Hc locs cells slots Q (F0 m pc ls (.ref (ad b) :: rest)) := by
  obtain ⟨cM, nM, rM, T0, N, hi, h1, h2, h3, h4, h5, h6, h7⟩ := h
  have hM := hSS M _ _ _ _ hcall D cA ad cs.length Hc.size
  rw [hi] at hM
  have hws : gWs (y, cM, nM, rM, 0, []) gU = Cond.code y cM nM rM :: gU := rfl
  have cb : CallB R s args own idx y cM nM rM (gWs (y, cM, nM, rM, 0, []) gU) (gRm d 0) 0 (6 * 0) 0 :=
    callB_of 0 hts (gWs_good gU_good h5) hws rfl rfl (hts _ h4) (hts _ hlink) h6 ⟨hRm.1, by show 8 + (nM + 11) + (64 * d + 400) ≤ R.locals; omega⟩
  have hrel : gRel D gCl cA ad cs.length A s.heap (gLst cs) Hc locs := ⟨gLst_dom cs, by rw [gwl_eq]; exact hR.1, by rw [gwl_eq]; exact hR.2.1, hR.2.2.1⟩
  have hrec := va_recv hK hR.1 h1 (gwl_get (ad := ad) (cA := cA) hbo)
  intro T hT X
  have hrun := vx_runV (C := y.cls) (b := ad b) (As := []) (rest := rest) (g := F0 m pc ls (.ref (ad b) :: rest)) (locs := locs) (cells := cells) (slots := slots) (e := e) (below := below) (meth := meth) ⟨hexec, hb, hml, hown, hts⟩ hM ⟨cb, hts _ h2, hts _ h3⟩ ⟨gPre_blind hX, hrec, fun T hT hW => gPre_at (as := [.ref b]) hX hA hK hE hrel T hT hW⟩ rfl rfl hsz rfl (lv_room hcat) hdg ⟨hcl.1, hcl.2⟩
  rcases hrun T hT X with ⟨v, st₀, t, T', L, h0, X', hL, e1, e2, ⟨r, H', hv, ⟨hr1, hr2, hr3⟩, ⟨w1, w2, w3⟩, hF⟩, st⟩ | ⟨q, st₀, t, T', L, E, ce, h0, X', hL, e1, e2, ⟨H', hq, -⟩, -⟩
  · subst hr1
    subst hr2
    have hv' : v = none := by injection hv
    subst hv'
    have hf := hrel.free hA
    obtain ⟨k1, k2, k3⟩ := vx_keep h0 e1 hR.2.2.1 (fun q _ h => hf q h) hf hL hF
    have e5 : gws ad cA cs.length (gLst cs2) = gwl ad cA cs2 := by rw [← hr3, gwl_eq]
    rw [e5] at w2 w3
    have hsame : t.heap.size = b0 + cs2.length := by
      have u1 : T'.heap.size ≤ s.heap.size + (cells + 0) := X'.same.2.2.1
      have u2 := hF.1
      rw [h0] at u2
      rw [hr3, ← hR.2.2.2]
      rw [e1] at u1
      omega
    obtain ⟨t2, a1, b1⟩ := kk T'.heap (locs ++ L) ⟨by rw [e1]; exact w2, w3.weaken (fun _ _ _ h => hf _ h), k3, by rw [e1]; exact hsame⟩ T' rfl X'
    exact ⟨t2, st t2 a1, b1⟩
  · exact hq.elim
end GCU
