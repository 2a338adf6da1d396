/-! ===== wrappers: calls whose throws are caught here ===== -/
/-- a call whose throw E is caught, and answered with n -/
def gi_callvH (S : gS) (ci k na : Nat) (hs : List (String × Int32)) : gI := fun K Q _ L st H =>
  na ≤ st.length ∧ gcat (st.drop na) ≤ 8 ∧ grecv H ci (st.take na).reverse ∧ S (st.take na).reverse H (fun r H' => K k L (r.toList ++ st.drop na) H') (fun E H' => ∃ n, (E, n) ∈ hs ∧ Q (some (.int n)) H')
theorem gm_callvH {S : gS} {ci k na : Nat} {hs : List (String × Int32)} (hm : gSmono S) : gMono (gi_callvH S ci k na hs) := by
  intro K K' Q Q' X X' L L' st H hK hQ hX hL h
  obtain ⟨h1, h2, h3, h4⟩ := h
  exact ⟨h1, h2, h3, hm _ _ _ _ _ _ (fun r H' h => hK _ _ _ _ _ hL h) (fun E H' h => h.elim fun n hn => ⟨n, hn.1, hQ _ _ hn.2⟩) h4⟩
def gOkW (hh : List (Nat × Nat × Nat × Nat)) (EX : gEX) (inf : Nat → gInf) (cl : List vw_C) (U : List Cond) (SS : Nat → gS) (d : Nat) (TH : Nat → String → Prop) (cc : ByteArray) (nL : Nat) (own : String) (rt : Option FieldType) (z : Nat → Nat) (mc : Nat) (k : Nat) (i : gI) : Prop :=
  gMono i ∧ ∀ (p : Program) (l : Launch) (e : Env) (R : Room) (s : State) (m : MethodId) (args : Array Value) (below : List Frame) (meth : Method) (c : Code) (D : va_G) (cA : Nat → ClassId) (ad : Nat → Nat) (n : Nat) (A : Nat → Prop) (Q : gQ) (X : gX) (Qf : State → Prop),
    gCx p s m args meth c cc nL own rt D cl cA A U → gEnv EX l inf cl U SS d R s ad A z mc → gEnd p l e R s m args below meth c cc nL rt TH D cl cA ad n A z mc Q X Qf → c.exceptionTable.toList = tableOf hh →
    ∀ (L : gL) (st : List Value) (H : gH), i (gAt p l e R s m args below meth c nL D cl cA ad n A z Qf) Q X L st H → gAt p l e R s m args below meth c nL D cl cA ad n A z Qf k L st H
theorem gOkW_of {hh : List (Nat × Nat × Nat × Nat)} {EX : gEX} {inf : Nat → gInf} {cl : List vw_C} {U : List Cond} {SS : Nat → gS} {d : Nat} {TH : Nat → String → Prop} {cc : ByteArray} {nL : Nat} {own : String} {rt : Option FieldType} {z : Nat → Nat} {mc k : Nat} {i : gI} (h : gOk EX inf cl U SS d TH cc nL own rt z mc k i) : gOkW hh EX inf cl U SS d TH cc nL own rt z mc k i :=
  ⟨h.1, fun p l e R s m args below meth c D cA ad n A Q X Qf hC hE hN _ L st H hi => h.2 p l e R s m args below meth c D cA ad n A Q X Qf hC hE hN L st H hi⟩
/-- what a caught throw goes to: at hp the store (w bytes long), the number n, the return -/
def gCatch (U : List Cond) (cc : ByteArray) (nL : Nat) (own : String) (hh : List (Nat × Nat × Nat × Nat)) (k : Nat) (E : String) (n : Int32) : Prop :=
  ∃ (pre : List ExceptionTableEntry) (x : ExceptionTableEntry) (suf : List ExceptionTableEntry), tableOf hh = pre ++ x :: suf ∧ (∀ z ∈ pre, z.catchType ≠ 0 ∧ E = eIA ∧ Cond.classLink own z.catchType eNS ∈ U) ∧ covers x k = true ∧ x.catchType ≠ 0 ∧ Cond.classLink own x.catchType E ∈ U ∧ Cond.castable E E ∈ gCastL ∧
    ∃ (w : Nat) (n0 : Int), ((∃ i : Fin 4, w = 1 ∧ (i : Nat) < nL ∧ decode cc x.handlerPc = .ok (.astore_n i, 1)) ∨ (∃ i : Nat, w = 2 ∧ i < nL ∧ decode cc x.handlerPc = .ok (.astore i, 2))) ∧ decode cc (x.handlerPc + w) = .ok (.iconst n0, 1) ∧ Int32.ofInt n0 = n ∧ decode cc (x.handlerPc + w + 1) = .ok (.ireturn, 1)
section GKW
variable {Ls : Nat} {xs : Nat → Int32} {inf : Nat → gInf} {cl : List vw_C} {U : List Cond} {SS : Nat → gS} {d : Nat} {TH : Nat → String → Prop} {cc : ByteArray} {nL : Nat} {own : String} {z : Nat → Nat} {mc k : Nat} {hh : List (Nat × Nat × Nat × Nat)} {hs : List (String × Int32)}
theorem gs_callvH {M idx ci np N : Nat} {T0 : u_T} (hU : ∀ w ∈ U, goodWord w = true) (hm : gSmono (SS M)) (hnh : (inf M).2.2.2.2.2 = []) (hc : cl[ci]? = some ((inf M).1.cls, T0, N)) (hlink : Cond.methodLink own idx (inf M).1 ∈ U) (hst : Cond.instanceMethod (inf M).1 ∈ U) (hsel : Cond.selects (inf M).1.cls (inf M).1 (inf M).1 ∈ U) (hini : Cond.initialized (inf M).1.cls ∈ U) (hcode : gHead (inf M) ∈ U)
    (hd : (inf M).1.cls ≠ "java/lang/invoke/MethodHandle" ∧ (inf M).1.cls ≠ "java/lang/invoke/VarHandle" ∧ (parseMethodDescriptor (inf M).1.desc).map (fun d => d.parameters.length) = some np) (hnL : (inf M).2.2.1 ≤ 45) (hdec : decode cc k = .ok (.invokevirtual idx, 3)) (hz : z k + (inf M).2.2.2.2.1 ≤ z (k + 3))
    (hcat : ∀ E n, (E, n) ∈ hs → gCatch U cc nL own hh k E n) :
    gOkW hh (gEXv Ls xs) inf cl U SS d TH cc nL own (some .int) z mc k (gi_callvH (SS M) ci (k + 3) (np + 1) hs) := by
  refine ⟨gm_callvH hm, ?_⟩
  intro p l e R s m args below meth c D cA ad n A Q X Qf hC hE hN htab L st H h Hc locs ls hR hlv
  obtain ⟨hx, hb, hml, hown, hts, hK, hA, hrt, hlk⟩ := hC
  obtain ⟨hX, hEX, hSS, hRm, hzs, hRc, hRs⟩ := hE
  obtain ⟨h1, h2, h4, h3⟩ := h
  have hM := hSS M _ H _ _ h3 D cA ad n Hc.size
  have hzk := hzs (k + 3)
  have cb : CallB R s args own idx (inf M).1 (inf M).2.1 (inf M).2.2.1 (inf M).2.2.2.1 (gWs (inf M) U) (gRm d (inf M).2.2.2.2.1) (inf M).2.2.2.2.1 (6 * (inf M).2.2.2.2.1) np :=
    callB_of np hts (gWs_good hU hcode) (gWs_code hnh) rfl rfl (hts _ hini) (hts _ hlink) hd ⟨hRm.1, by show 8 + ((inf M).2.2.1 + 11) + (64 * d + 400) ≤ R.locals; omega⟩
  have hlen : ((st.take (np + 1)).reverse).length = np + 1 := by
    rw [List.length_reverse, List.length_take]
    exact Nat.min_eq_left h1
  rcases hta : (st.take (np + 1)).reverse with _ | ⟨v, as⟩
  · rw [hta] at hlen; cases hlen
  · rw [hta] at hlen h4 hM
    cases v <;> try exact h4.elim
    rename_i b
    have h4 : (match H b with | some (.inr (c, _)) => c = ci | _ => False) := h4
    rcases hb2 : H b with _ | e0
    · rw [hb2] at h4; exact h4.elim
    · rw [hb2] at h4
      rcases e0 with a0 | ⟨c0, fs⟩
      · exact h4.elim
      · have h4 : c0 = ci := h4
        subst h4
        have hrec := va_recv hK hR.2.1 hc (gws_get (hR.1.lt hb2) hb2)
        refine gx_call (vx_runV (C := (inf M).1.cls) (b := ad b) (As := as.map (gv ad)) (rest := (st.drop (np + 1)).map (gv ad)) ⟨hx, hb, hml, hown, hts⟩ hM ⟨cb, hts _ hst, hts _ hsel⟩ ⟨gPre_blind hX, hrec, fun T hT hW => gPre_at (as := .ref b :: as) hX hA hK hEX hR T hT hW⟩ rfl ?_ hlv.1 ?_ (lv_room (by rw [gcat_map]; exact h2)) hdec ⟨by omega, by omega⟩) hR.2.2.2 (gRel.free hA hR) ?_ ?_
        · rw [List.length_map]
          simpa using hlen
        · show st.map (gv ad) = _
          have e1 : st = as.reverse ++ .ref b :: st.drop (np + 1) := by
            have e2 : st.take (np + 1) = as.reverse ++ [.ref b] := by
              rw [← List.reverse_reverse (st.take (np + 1)), hta, List.reverse_cons]
            rw [← List.singleton_append, ← List.append_assoc, ← e2, List.take_append_drop]
          rw [← List.map_reverse]
          show st.map (gv ad) = as.reverse.map (gv ad) ++ (gv ad (.ref b) :: (st.drop (np + 1)).map (gv ad))
          rw [← List.map_cons, ← List.map_append, ← e1]
        · intro E H' q ce H1 locs1 hx' hrel hce hcv hcl
          obtain ⟨n1, hmem, hQ⟩ := hx'
          obtain ⟨pre, xe, suf, hsp, hpass, hcov, hne, hcl1, hcs, w, n0, hstore, hic, hn0, hir⟩ := hcat E n1 hmem
          obtain ⟨-, -, ⟨-, hca⟩, hnc, -⟩ := hEX
          have hend : ∀ ls' : Array Slot, W p l e R s m args below meth c H1 locs1 (z k + (inf M).2.2.2.2.1) (6 * z k + 6 * (inf M).2.2.2.2.1) Qf (F0 m (xe.handlerPc + w) ls' []) := by
            intro ls'
            refine lv_iconst hx hb hic hn0 (W.widen (by omega) (by omega) (hN.1 _ ls' H1 locs1 (some (.int n1)) H' hQ hrel ⟨⟨.int, rfl, rfl⟩, hir⟩))
          refine vx_catch (own := own) (name := E) hown pre xe suf (htab.trans hsp) (fun zz hz2 => Or.inr ?_) hcov hne (hts _ hcl1) (hca args _ hcs) hce hcv hcl ?_
          · obtain ⟨hz0, hE1, hz3⟩ := hpass zz hz2
            exact ⟨hz0, eNS, hts _ hz3, by rw [hE1]; exact hnc⟩
          · rcases hstore with ⟨i, rfl, hi, hds⟩ | ⟨i, rfl, hi, hds⟩
            · exact lv_astore_n hx hb hds rfl hlv.list hi rfl (fun ls' _ => hend ls')
            · exact lv_astore hx hb hds hlv.list hi rfl (fun ls' _ => hend ls')
        · intro r H' H1 locs1 hq hrel
          have hw := hq H1 locs1 ls hrel hlv
          rw [List.map_append] at hw
          exact W.widen hz (by omega) hw
end GKW
theorem gMetW_of {EX : gEX} {l : Launch} {inf : Nat → gInf} {cl : List vw_C} {U : List Cond} {SS : Nat → gS} {d M : Nat} {z : Nat → Nat} {T : Nat → gI} {h0 : Nat × Nat × Nat × Nat} {h1 : List (Nat × Nat × Nat × Nat)} (hX : gExOk EX) (hp : plainName (inf M).1.cls = true) (hh : (inf M).2.2.2.2.2 = h0 :: h1)
    (hT : ∀ k, gOkW (h0 :: h1) EX inf cl U SS d (fun _ _ => False) (inf M).2.1 (inf M).2.2.1 (inf M).1.cls (inf M).2.2.2.1 z (inf M).2.2.2.2.1 k (T k)) (hz : ∀ k, z k ≤ (inf M).2.2.2.2.1) (hSS : ∀ (M : Nat) (as : List Value) (H : gH) (Q : gQ) (X : gX), SS M as H Q X → gMet EX l inf cl U d M as H Q X)
    {as : List Value} {H : gH} {Q : gQ} (has : (gsl as).length ≤ (inf M).2.2.1) (h : gWp T Q (fun _ _ => False) 0 (gargs (inf M).2.2.1 as) [] H) : gMet EX l inf cl U (d + 1) M as H Q (fun _ _ => False) := by
  intro D cA ad n sz
  have hws : gWs (inf M) U = Cond.codeWith (inf M).1 (inf M).2.1 (inf M).2.2.1 (inf M).2.2.2.1 (h0 :: h1) :: U := by
    unfold gWs gHead
    rw [hh]
  refine vx_ofWH (cc := (inf M).2.1) (maxL := (inf M).2.2.1) (ret := (inf M).2.2.2.1) hp hws ?_
  intro p e s m args below meth c s₁ B hml hv
  obtain ⟨rfl, rfl, hdom, hP, hK, hD0, hEX⟩ := hv
  have hts := atoms_spec (ws := gWs (inf M) U) B.pre
  have htab : c.exceptionTable.toList = tableOf (h0 :: h1) := vx_table (x := (inf M).1) B (hts _ (by rw [hws]; exact List.mem_cons_self))
  have hown : s.vm.findClass (inf M).1.cls = some m.cls := findClass_of_methodNamed B.named
  have hD := hD0.self (sz := s.heap.size)
  generalize hAe : va_A (gws ad cA n H) s.heap.size = A at hD hEX ⊢
  have hA : ∀ q : Nat, s.heap.size ≤ q → A q := fun q h => by rw [← hAe]; exact Or.inr h
  have hC : gCx p s m ((as.map (gv ad)).toArray) meth c (inf M).2.1 (inf M).2.2.1 (inf M).1.cls (inf M).2.2.2.1 D cl cA A U := ⟨B.exec, B.bytes, hml, hown, fun w hw => hts w (List.mem_cons_of_mem _ hw), hK, hA, B.returns, B.notSynchronized⟩
  have hEv : gEnv EX l inf cl U SS d (gRm (d + 1) (inf M).2.2.2.2.1) s ad A z (inf M).2.2.2.2.1 := ⟨hX, hEX, hSS, ⟨by show d + 7 ≤ d + 1 + 6; omega, by show 64 * d + 464 ≤ 64 * (d + 1) + 400; omega⟩, hz, Nat.le_refl _, Nat.le_refl _⟩
  have hEn : gEnd p l e (gRm (d + 1) (inf M).2.2.2.2.1) s m ((as.map (gv ad)).toArray) below meth c (inf M).2.1 (inf M).2.2.1 (inf M).2.2.2.1 (fun _ _ => False) D cl cA ad n A z (inf M).2.2.2.2.1 Q (fun _ _ => False) (vx_MQ below (gQc D cl cA ad n A Q) (gXc D cl cA ad n A (fun _ _ => False)) ((as.map (gv ad)).toArray) s (inf M).2.2.2.2.1 (6 * (inf M).2.2.2.2.1) A) := by
    refine ⟨?_, fun k ls rest Hc locs E H q ce hx => hx.elim, fun k ls Hc locs E H hx => hx.elim⟩
    intro k ls Hc locs r H hq hR hret
    have hlocks := B.notSynchronized
    rcases r with _ | v
    · exact vx_ret (W.vret B.exec B.bytes (B.returns.trans hret.1) (fun t ht hW => ⟨none, H, rfl, hq, ⟨hR.1, by rw [ht]; exact hR.2.1, hR.2.2.1⟩, hR.2.2.2.F ht⟩) hR.2.2.2.2.2 hret.2)
    · cases v <;> try exact hret.elim
      · obtain ⟨⟨ty, h1, h2⟩, h3⟩ := hret
        exact vx_ret (W.zret B.exec B.bytes (B.returns.trans h1) h2 (fun t ht hW => ⟨some (.int _), H, rfl, hq, ⟨hR.1, by rw [ht]; exact hR.2.1, hR.2.2.1⟩, hR.2.2.2.F ht⟩) hR.2.2.2.2.2 h3)
      · exact vx_ret (W.lret B.exec B.bytes (B.returns.trans hret.1) (fun t ht hW => ⟨some (.long _), H, rfl, hq, ⟨hR.1, by rw [ht]; exact hR.2.1, hR.2.2.1⟩, hR.2.2.2.F ht⟩) hR.2.2.2.2.2 hret.2)
  have key := h (gAt p l e (gRm (d + 1) (inf M).2.2.2.2.1) s m ((as.map (gv ad)).toArray) below meth c (inf M).2.2.1 D cl cA ad n A z _) (fun k L L' st H hl h Hc locs ls hR hv => h Hc locs ls hR ⟨hv.1, hv.2.1, fun i v hi => hv.2.2 i v (hl.2 i v hi)⟩) (fun k L st H hi => (hT k).2 p l e _ s m _ below meth c D cA ad n A Q _ _ hC hEv hEn htab L st H hi)
  have hl := lv_entry (as.map (gv ad)) (n := (inf M).2.2.1) (by rw [gsl_len]; exact has)
  rw [lg_entry_eq]
  refine W.widen (Nat.zero_le _) (Nat.zero_le _) (key s.heap [] _ ⟨hdom, hP, hD, va_S.rf⟩ ⟨hl.1, hl.2.1, fun i v hi => ?_⟩)
  have := hl.2.2 _ (gl_gsl ad as 0 i v (gl_gpad _ _ _ _ hi))
  rw [Nat.zero_add] at this
  exact this
/-- a call of a wrapper -/
theorem gs_callsX {EX : gEX} {inf : Nat → gInf} {cl : List vw_C} {U : List Cond} {SS : Nat → gS} {d : Nat} {TH : Nat → String → Prop} {cc : ByteArray} {nL : Nat} {own : String} {rt : Option FieldType} {z : Nat → Nat} {mc k : Nat} {M idx na : Nat} {h0 : Nat × Nat × Nat × Nat} {h1 : List (Nat × Nat × Nat × Nat)} (hU : ∀ w ∈ U, goodWord w = true) (hm : gSmono (SS M)) (hh : (inf M).2.2.2.2.2 = h0 :: h1) (hlink : Cond.methodLink own idx (inf M).1 ∈ U) (hst : Cond.static (inf M).1 ∈ U) (hini : Cond.initialized (inf M).1.cls ∈ U) (hcode : gHead (inf M) ∈ U)
    (hd : (inf M).1.cls ≠ "java/lang/invoke/MethodHandle" ∧ (inf M).1.cls ≠ "java/lang/invoke/VarHandle" ∧ (parseMethodDescriptor (inf M).1.desc).map (fun d => d.parameters.length) = some na) (hnL : (inf M).2.2.1 ≤ 45) (hdec : decode cc k = .ok (.invokestatic idx, 3)) (hz : z k + (inf M).2.2.2.2.1 ≤ z (k + 3)) :
    gOk EX inf cl U SS d TH cc nL own rt z mc k (gi_calls (SS M) (k + 3) na) := by
  refine ⟨gm_calls hm, ?_⟩
  intro p l e R s m args below meth c D cA ad n A Q X Qf hC hE hN L st H h Hc locs ls hR hlv
  obtain ⟨hx, hb, hml, hown, hts, hK, hA, hrt, hlk⟩ := hC
  obtain ⟨hX, hEX, hSS, hRm, hzs, hRc, hRs⟩ := hE
  obtain ⟨h1', h2, h3⟩ := h
  have hM := hSS M _ H _ X h3 D cA ad n Hc.size
  have hzk := hzs (k + 3)
  have hws : gWs (inf M) U = Cond.codeWith (inf M).1 (inf M).2.1 (inf M).2.2.1 (inf M).2.2.2.1 (h0 :: h1) :: U := by
    unfold gWs gHead
    rw [hh]
  have hhead : gHead (inf M) = Cond.codeWith (inf M).1 (inf M).2.1 (inf M).2.2.1 (inf M).2.2.2.1 (h0 :: h1) := by
    unfold gHead
    rw [hh]
  have cb : vx_CSW R s args own idx (inf M).1 (inf M).2.1 (inf M).2.2.1 (inf M).2.2.2.1 (h0 :: h1) (gWs (inf M) U) (gRm d (inf M).2.2.2.2.1) (inf M).2.2.2.2.1 (6 * (inf M).2.2.2.2.1) na := by
    refine ⟨⟨rfl, rfl, hRm.1, by show 8 + ((inf M).2.2.1 + 11) + (64 * d + 400) ≤ R.locals; omega, pay_in hts (gWs_good hU hcode), by rw [hws]; exact List.mem_cons_self⟩, by rw [← hhead]; exact hts _ hcode, hts _ hini, ⟨hd.1, hd.2.1⟩, fun sig h => ?_, hts _ hlink, hts _ hst⟩
    have h2 := hd.2.2
    rw [h] at h2
    exact (Option.some.inj h2).symm
  refine gx_call (vx_runSX (As := ((st.take na).reverse).map (gv ad)) (rest := (st.drop na).map (gv ad)) ⟨hx, hb, hml, hown, hts⟩ hM cb ⟨gPre_blind hX, fun T hT hW => gPre_at hX hA hK hEX hR T hT hW⟩ rfl ?_ hlv.1 ?_ (lv_room (by rw [gcat_map]; exact h2)) hdec ⟨by omega, by omega⟩) hR.2.2.2 (gRel.free hA hR) ?_ ?_
  · rw [List.length_map, List.length_reverse, List.length_take]
    exact Nat.min_eq_left h1'
  · show st.map (gv ad) = _
    rw [← List.map_reverse, List.reverse_reverse, ← List.map_append, List.take_append_drop]
  · intro E H' q ce H1 locs1 hx' hrel hce hcv hcl
    exact vx_widen (by omega) (by omega) (hN.2.1 k ls _ H1 locs1 E H' q ce hx' hrel hce hcv hcl)
  · intro r H' H1 locs1 hq hrel
    have hw := hq H1 locs1 ls hrel hlv
    rw [List.map_append] at hw
    exact W.widen hz (by omega) hw
