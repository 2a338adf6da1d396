/-! ===== the law's own constructor: a region of four cells ===== -/
def lckL : List (Nat × Nat) := [(6, 0), (1, 150), (1, 10), (1, 32)]
def lck (o : Nat) : Nat × Nat := lckL.getD o (0, 0)
theorem lck_all {p : Nat → Prop} (h : ∀ o, o < 4 → p o) (hb : ∀ o, lck o = (0, 0) → p o) (o : Nat) : p o := by
  by_cases ho : o < 4
  · exact h o ho
  · refine hb o ?_
    unfold lck
    rw [List.getD_eq_getElem?_getD, List.getElem?_eq_none (by show 4 ≤ o; omega)]
    rfl
theorem la_4_1 {o : Nat} (h : lck o = (4 + 2, 0)) : lck (o + 1) = (1, 150) := lck_all (p := fun o => lck o = (4 + 2, 0) → lck (o + 1) = (1, 150)) (by decide +kernel) (fun o h q => by rw [h] at q; cases q) o h
set_option maxRecDepth 20000 in
theorem wq_Law_setPlain_0 {S : Nat → gS} (hm : ∀ k, gMono (gTab (tb_Law_setPlain S) k)) {Q : gQ} {X : gX} {H : gH} {x : Nat} {P : Nat → Nat} {I A : Nat → Nat → Int32} {o0 : Nat} (ho0 : lck o0 = (4 + 2, 0))
    (h : S 33 [.ref (x + o0), .int 1003] (gset H x lck P (upI I o0 3 0) A) (fun r H' => gWp (gTab (tb_Law_setPlain S)) Q X 12 [some (.ref (x + o0))] (r.toList ++ []) H') X) :
    gWp (gTab (tb_Law_setPlain S)) Q X 0 [some (.ref (x + o0))] [] (gset H x lck P I A) :=
  x_aload hm (show gTab (tb_Law_setPlain S) 0 = gi_aload 1 0 from rfl) rfl (x_st hm (show gTab (tb_Law_setPlain S) 1 = gi_st 2 (gf_push (.int 0)) from rfl) rfl (x_puti hm (show gTab (tb_Law_setPlain S) 2 = gi_puti 5 4 3 from rfl) (o := o0) ho0 rfl cp_4_3 (x_aload hm (show gTab (tb_Law_setPlain S) 5 = gi_aload 6 0 from rfl) rfl (x_st hm (show gTab (tb_Law_setPlain S) 6 = gi_st 9 (gf_push (.int 1003)) from rfl) rfl (x_callv hm (show gTab (tb_Law_setPlain S) 9 = gi_callv (S 33) 4 12 2 from rfl) (o := o0) (as := [.int 1003]) (rest := []) rfl rfl (Nat.le_of_ble_eq_true rfl) (Nat.le_of_ble_eq_true rfl) ho0 h)))))
set_option maxRecDepth 20000 in
theorem wq_Law_setPlain_12 {S : Nat → gS} (hm : ∀ k, gMono (gTab (tb_Law_setPlain S) k)) {Q : gQ} {X : gX} {H : gH} {x : Nat} {P : Nat → Nat} {I A : Nat → Nat → Int32} {o0 : Nat} (ho0 : lck o0 = (4 + 2, 0))
    (h : S 33 [.ref (x + o0), .int 2] (gset H x lck P I A) (fun r H' => gWp (gTab (tb_Law_setPlain S)) Q X 17 [some (.ref (x + o0))] (r.toList ++ []) H') X) :
    gWp (gTab (tb_Law_setPlain S)) Q X 12 [some (.ref (x + o0))] [] (gset H x lck P I A) :=
  x_aload hm (show gTab (tb_Law_setPlain S) 12 = gi_aload 13 0 from rfl) rfl (x_st hm (show gTab (tb_Law_setPlain S) 13 = gi_st 14 (gf_push (.int 2)) from rfl) rfl (x_callv hm (show gTab (tb_Law_setPlain S) 14 = gi_callv (S 33) 4 17 2 from rfl) (o := o0) (as := [.int 2]) (rest := []) rfl rfl (Nat.le_of_ble_eq_true rfl) (Nat.le_of_ble_eq_true rfl) ho0 h))
set_option maxRecDepth 20000 in
theorem wq_Law_setPlain_17 {S : Nat → gS} (hm : ∀ k, gMono (gTab (tb_Law_setPlain S) k)) {Q : gQ} {X : gX} {H : gH} {x : Nat} {P : Nat → Nat} {I A : Nat → Nat → Int32} {o0 : Nat} (ho0 : lck o0 = (4 + 2, 0))
    (h : S 33 [.ref (x + o0), .int 2042] (gset H x lck P I A) (fun r H' => gWp (gTab (tb_Law_setPlain S)) Q X 24 [some (.ref (x + o0))] (r.toList ++ []) H') X) :
    gWp (gTab (tb_Law_setPlain S)) Q X 17 [some (.ref (x + o0))] [] (gset H x lck P I A) :=
  x_aload hm (show gTab (tb_Law_setPlain S) 17 = gi_aload 18 0 from rfl) rfl (x_st hm (show gTab (tb_Law_setPlain S) 18 = gi_st 21 (gf_push (.int 2042)) from rfl) rfl (x_callv hm (show gTab (tb_Law_setPlain S) 21 = gi_callv (S 33) 4 24 2 from rfl) (o := o0) (as := [.int 2042]) (rest := []) rfl rfl (Nat.le_of_ble_eq_true rfl) (Nat.le_of_ble_eq_true rfl) ho0 h))
set_option maxRecDepth 20000 in
theorem wq_Law_setPlain_24 {S : Nat → gS} (hm : ∀ k, gMono (gTab (tb_Law_setPlain S) k)) {Q : gQ} {X : gX} {H : gH} {x : Nat} {P : Nat → Nat} {I A : Nat → Nat → Int32} {o0 : Nat} (ho0 : lck o0 = (4 + 2, 0))
    (h : S 33 [.ref (x + o0), .int 1] (gset H x lck P I A) (fun r H' => gWp (gTab (tb_Law_setPlain S)) Q X 29 [some (.ref (x + o0))] (r.toList ++ []) H') X) :
    gWp (gTab (tb_Law_setPlain S)) Q X 24 [some (.ref (x + o0))] [] (gset H x lck P I A) :=
  x_aload hm (show gTab (tb_Law_setPlain S) 24 = gi_aload 25 0 from rfl) rfl (x_st hm (show gTab (tb_Law_setPlain S) 25 = gi_st 26 (gf_push (.int 1)) from rfl) rfl (x_callv hm (show gTab (tb_Law_setPlain S) 26 = gi_callv (S 33) 4 29 2 from rfl) (o := o0) (as := [.int 1]) (rest := []) rfl rfl (Nat.le_of_ble_eq_true rfl) (Nat.le_of_ble_eq_true rfl) ho0 h))
set_option maxRecDepth 20000 in
theorem wq_Law_setPlain_29 {S : Nat → gS} (hm : ∀ k, gMono (gTab (tb_Law_setPlain S) k)) {Q : gQ} {X : gX} {H : gH} {x : Nat} {P : Nat → Nat} {I A : Nat → Nat → Int32} {o0 : Nat} (ho0 : lck o0 = (4 + 2, 0))
    (h : S 33 [.ref (x + o0), .int 2045] (gset H x lck P I A) (fun r H' => gWp (gTab (tb_Law_setPlain S)) Q X 36 [some (.ref (x + o0))] (r.toList ++ []) H') X) :
    gWp (gTab (tb_Law_setPlain S)) Q X 29 [some (.ref (x + o0))] [] (gset H x lck P I A) :=
  x_aload hm (show gTab (tb_Law_setPlain S) 29 = gi_aload 30 0 from rfl) rfl (x_st hm (show gTab (tb_Law_setPlain S) 30 = gi_st 33 (gf_push (.int 2045)) from rfl) rfl (x_callv hm (show gTab (tb_Law_setPlain S) 33 = gi_callv (S 33) 4 36 2 from rfl) (o := o0) (as := [.int 2045]) (rest := []) rfl rfl (Nat.le_of_ble_eq_true rfl) (Nat.le_of_ble_eq_true rfl) ho0 h))
set_option maxRecDepth 20000 in
theorem wq_Law_setPlain_36 {S : Nat → gS} (hm : ∀ k, gMono (gTab (tb_Law_setPlain S) k)) {Q : gQ} {X : gX} {H : gH} {x : Nat} {P : Nat → Nat} {I A : Nat → Nat → Int32} {o0 : Nat}
    (h : Q none (gset H x lck P I A)) :
    gWp (gTab (tb_Law_setPlain S)) Q X 36 [some (.ref (x + o0))] [] (gset H x lck P I A) :=
  x_vret hm (show gTab (tb_Law_setPlain S) 36 = gi_vret from rfl) h
set_option maxRecDepth 20000 in
theorem wq_Law_emit_0 {S : Nat → gS} (hm : ∀ k, gMono (gTab (tb_Law_emit S) k)) {Q : gQ} {X : gX} {H : gH} {x : Nat} {P : Nat → Nat} {I A : Nat → Nat → Int32} {o0 : Nat} {v1 : Int32} (ho0 : lck o0 = (4 + 2, 0))
    (h : ((150 ≤ (I o0 3) → gWp (gTab (tb_Law_emit S)) Q X 30 [some (.ref (x + o0)), some (.int v1)] [] (gset H x lck P I A)) ∧ (¬ (150 ≤ (I o0 3)) → (vp_in (I o0 3) 150 ∧ gWp (gTab (tb_Law_emit S)) Q X 30 [some (.ref (x + o0)), some (.int v1)] [] (gset H x lck P (upI I o0 3 ((I o0 3) + 1)) (upA A (o0 + 1) (I o0 3).toNatClampNeg v1)))))) :
    gWp (gTab (tb_Law_emit S)) Q X 0 [some (.ref (x + o0)), some (.int v1)] [] (gset H x lck P I A) :=
  x_aload hm (show gTab (tb_Law_emit S) 0 = gi_aload 1 0 from rfl) rfl (x_get hm (show gTab (tb_Law_emit S) 1 = gi_get 4 4 3 from rfl) (o := o0) ho0 rfl (x_st hm (show gTab (tb_Law_emit S) 4 = gi_st 7 (gf_push (.int 150)) from rfl) rfl (x_icmp hm (show gTab (tb_Law_emit S) 7 = gi_icmp 10 30 (fun x y => y ≤ x) from rfl) (fun c0 => (h.1 c0)) (fun c0 => x_aload hm (show gTab (tb_Law_emit S) 10 = gi_aload 11 0 from rfl) rfl (x_get hm (show gTab (tb_Law_emit S) 11 = gi_get 14 4 0 from rfl) (o := o0) ho0 rfl (x_aload hm (show gTab (tb_Law_emit S) 14 = gi_aload 15 0 from rfl) rfl (x_get hm (show gTab (tb_Law_emit S) 15 = gi_get 18 4 3 from rfl) (o := o0) ho0 rfl (x_iload hm (show gTab (tb_Law_emit S) 18 = gi_iload 19 1 from rfl) rfl (x_iast hm (show gTab (tb_Law_emit S) 19 = gi_iast 20 from rfl) (o := (o0 + 1)) (la_4_1 ho0) (h.2 c0).1 (x_aload hm (show gTab (tb_Law_emit S) 20 = gi_aload 21 0 from rfl) rfl (x_st hm (show gTab (tb_Law_emit S) 21 = gi_st 22 gf_dup from rfl) rfl (x_get hm (show gTab (tb_Law_emit S) 22 = gi_get 25 4 3 from rfl) (o := o0) ho0 rfl (x_st hm (show gTab (tb_Law_emit S) 25 = gi_st 26 (gf_push (.int 1)) from rfl) rfl (x_st hm (show gTab (tb_Law_emit S) 26 = gi_st 27 (gf_i2 (fun x y => x + y)) from rfl) rfl (x_puti hm (show gTab (tb_Law_emit S) 27 = gi_puti 30 4 3 from rfl) (o := o0) ho0 rfl cp_4_3 ((h.2 c0).2))))))))))))))))
set_option maxRecDepth 20000 in
theorem wq_Law_emit_30 {S : Nat → gS} (hm : ∀ k, gMono (gTab (tb_Law_emit S) k)) {Q : gQ} {X : gX} {H : gH} {x : Nat} {P : Nat → Nat} {I A : Nat → Nat → Int32} {o0 : Nat} {v1 : Int32}
    (h : Q none (gset H x lck P I A)) :
    gWp (gTab (tb_Law_emit S)) Q X 30 [some (.ref (x + o0)), some (.int v1)] [] (gset H x lck P I A) :=
  x_vret hm (show gTab (tb_Law_emit S) 30 = gi_vret from rfl) h
theorem upI_I {I : Nat → Nat → Int32} {o f : Nat} {a b : Int32} : upI (upI I o f a) o f b = upI I o f b := by
  funext j
  unfold upI
  by_cases h : j = o
  · subst h
    rw [if_pos rfl, if_pos rfl, if_pos rfl]
    funext k
    unfold upd
    by_cases hk : k = f
    · rw [if_pos hk, if_pos hk]
    · rw [if_neg hk, if_neg hk, if_neg hk]
  · rw [if_neg h, if_neg h, if_neg h]
theorem upI_s {I : Nat → Nat → Int32} {o f : Nat} {a : Int32} : upI I o f a o f = a := by simp [upI, upd]
def plainA (A : Nat → Nat → Int32) (o : Nat) : Nat → Nat → Int32 := upA (upA (upA (upA (upA A (o + 1) 0 1003) (o + 1) 1 2) (o + 1) 2 2042) (o + 1) 3 1) (o + 1) 4 2045
section L2P
variable {d : Nat} {Q : gQ} {X : gX} {H : gH} {x : Nat} {P : Nat → Nat} {I A : Nat → Nat → Int32}
theorem sq_Law_emit {o n : Nat} {v : Int32} (ho : lck o = (4 + 2, 0)) (hs : I o 3 = nI n) (hn : n < 150) (h : Q none (gset H x lck P (upI I o 3 (nI (n + 1))) (upA A (o + 1) n v))) : meth (d + 1) m_Law_emit [.ref (x + o), .int v] (gset H x lck P I A) Q X := by
  have hm := @mo_Law_emit (meth d) (meth_smono d)
  refine me_Law_emit (wq_Law_emit_0 hm ho ⟨fun c => absurd c (by rw [hs]; exact nI_ge (b := 150) hn (by omega)), fun _ => ⟨by rw [hs]; exact vp_in_nI hn (by omega), wq_Law_emit_30 hm ?_⟩⟩)
  rw [hs, nI_clamp (by omega), ← nI_succ]
  exact h
theorem sq_Law_setPlain {o : Nat} (ho : lck o = (4 + 2, 0)) (h : Q none (gset H x lck P (upI I o 3 (nI 5)) (plainA A o))) : meth (d + 2) m_Law_setPlain [.ref (x + o)] (gset H x lck P I A) Q X := by
  have hm := @mo_Law_setPlain (meth (d + 1)) (meth_smono (d + 1))
  refine me_Law_setPlain (wq_Law_setPlain_0 hm ho (sq_Law_emit (n := 0) ho upI_s (by omega) (wq_Law_setPlain_12 hm ho ?_)))
  rw [upI_I]
  refine sq_Law_emit (n := 1) ho upI_s (by omega) (wq_Law_setPlain_17 hm ho ?_)
  rw [upI_I]
  refine sq_Law_emit (n := 2) ho upI_s (by omega) (wq_Law_setPlain_24 hm ho ?_)
  rw [upI_I]
  refine sq_Law_emit (n := 3) ho upI_s (by omega) (wq_Law_setPlain_29 hm ho ?_)
  rw [upI_I]
  refine sq_Law_emit (n := 4) ho upI_s (by omega) (wq_Law_setPlain_36 hm ?_)
  rw [upI_I]
  exact h
theorem sp_Law_emit {o n : Nat} {v : Int32} (ho : cck o = (4 + 2, 0)) (hs : I o 3 = nI n) (hn : n < 150) (h : Q none (gset H x cck P (upI I o 3 (nI (n + 1))) (upA A (o + 1) n v))) : meth (d + 1) m_Law_emit [.ref (x + o), .int v] (gset H x cck P I A) Q X := by
  have hm := @mo_Law_emit (meth d) (meth_smono d)
  refine me_Law_emit (wb_Law_emit_0 hm ho ⟨fun c => absurd c (by rw [hs]; exact nI_ge (b := 150) hn (by omega)), fun _ => ⟨by rw [hs]; exact vp_in_nI hn (by omega), wb_Law_emit_30 hm ?_⟩⟩)
  rw [hs, nI_clamp (by omega), ← nI_succ]
  exact h
theorem sp_Law_setPlain {o : Nat} (ho : cck o = (4 + 2, 0)) (h : Q none (gset H x cck P (upI I o 3 (nI 5)) (plainA A o))) : meth (d + 2) m_Law_setPlain [.ref (x + o)] (gset H x cck P I A) Q X := by
  have hm := @mo_Law_setPlain (meth (d + 1)) (meth_smono (d + 1))
  refine me_Law_setPlain (wb_Law_setPlain_0 hm ho (sp_Law_emit (n := 0) ho upI_s (by omega) (wb_Law_setPlain_12 hm ho ?_)))
  rw [upI_I]
  refine sp_Law_emit (n := 1) ho upI_s (by omega) (wb_Law_setPlain_17 hm ho ?_)
  rw [upI_I]
  refine sp_Law_emit (n := 2) ho upI_s (by omega) (wb_Law_setPlain_24 hm ho ?_)
  rw [upI_I]
  refine sp_Law_emit (n := 3) ho upI_s (by omega) (wb_Law_setPlain_29 hm ho ?_)
  rw [upI_I]
  refine sp_Law_emit (n := 4) ho upI_s (by omega) (wb_Law_setPlain_36 hm ?_)
  rw [upI_I]
  exact h
end L2P
theorem gLst_reg {cs0 : List va_E} {ck : Nat → Nat × Nat} {n : Nat} (hck : ∀ o, (ck o).1 ≠ 0 ↔ o < n) {P : Nat → Nat} {I A : Nat → Nat → Int32} : gLst (cs0 ++ (List.range n).map (cE ck cs0.length P I A)) = gset (gLst cs0) cs0.length ck P I A := by
  funext h
  unfold gLst gset
  by_cases hx : cs0.length ≤ h
  · rw [List.getElem?_append_right hx, List.getElem?_map]
    by_cases hn : h - cs0.length < n
    · rw [if_pos ⟨hx, (hck _).mpr hn⟩, List.getElem?_range hn]
      rfl
    · rw [if_neg (fun q => hn ((hck _).mp q.2)), List.getElem?_eq_none (by simp; omega)]
      show Option.map _ none = cs0[h]?
      rw [List.getElem?_eq_none (by omega)]
      rfl
  · rw [if_neg (fun q => hx q.1), List.getElem?_append_left (by omega)]
theorem lck_n : ∀ o, (lck o).1 ≠ 0 ↔ o < 4 := fun o => lck_all (p := fun o => (lck o).1 ≠ 0 ↔ o < 4) (by decide +kernel) (fun o h => by
  rw [h]
  refine ⟨fun q => absurd rfl q, fun q => ?_⟩
  exact absurd h ((by decide +kernel : ∀ o, o < 4 → ¬ lck o = (0, 0)) o q)) o
section GCV
variable {p : Program} {l : Launch} {e : Env} {R : Room} {s : State} {m : MethodId} {args : Array Value} {below : List Frame} {meth : Method} {c : Code} {Hc : Heap} {locs : List Loc} {cells slots : Nat} {Q : State → Prop}
variable {cc : ByteArray} {pc : Nat} {ls : Array Slot} {rest : List Value} {D : va_G} {A A1 : Nat → Prop} {cA : Nat → ClassId} {ad : Nat → Nat} {b0 : Nat} {cs0 lc lc' : List va_E}
/-- a call of another class's constructor -/
theorem gn_ctI {EX : gEX} (hX : gExOk EX) {nL index mc ms : Nat} {own : String} {y : MethodName} {yc : ByteArray} {rm : Room} {o : va_E} {lo lc2 : List va_E} {k : Nat} (hml : c.maxLocals = nL) (hexec : p.tables.exec = Jvm.exec) (hb : c.code = cc) (hown : s.vm.findClass own = some m.cls) (hts : ∀ w ∈ gU, w.before args s = true) (hA : ∀ q : Nat, s.heap.size ≤ q → A q) (hK : va_K D gCl [(cA 0, .int), (cA 1, .long)] s) (hE : EX ad A s s.heap) (hNe : gNest s) (had : ∀ h, h < 82 → ad h = b0 + h)
    (hc : gCt EX l y yc rm mc ms (cs0 ++ lc) o lo) (hw : Cond.methodLink own index y ∈ gU) (hini : Cond.initialized y.cls ∈ gU) (hins : Cond.instanceMethod y ∈ gU) (hcode : Cond.code y yc 1 none ∈ gU) (hyn : y.name = "<init>") (hrm : rm.cells = mc ∧ rm.slots = ms) (hd : y.cls ≠ "java/lang/invoke/MethodHandle" ∧ y.cls ≠ "java/lang/invoke/VarHandle" ∧ (parseMethodDescriptor y.desc).map (fun d => d.parameters.length) = some 0) (hRm : rm.frames + 1 ≤ R.frames ∧ 8 + (1 + 11) + rm.locals ≤ R.locals)
    (hl : lc ++ [o] = lc') (hl2 : lc ++ lo = lc2) (hk : lc.length = k) (hR : gRelL D gCl cA ad b0 A s.heap (cs0 ++ lc') Hc locs) (hsz : ls.size = nL) (hcat : (rest.map fun v => v.category).sum ≤ 8) (hdg : decode cc pc = .ok (.invokespecial index, 3)) (hf : cells + mc ≤ R.cells ∧ slots + ms ≤ R.slots)
    (kk : ∀ (H1 : Heap) (locs1 : List Loc), gRelL D gCl cA ad b0 A s.heap (cs0 ++ lc2) H1 locs1 → W p l e R s m args below meth c H1 locs1 (cells + mc) (slots + ms) Q (F0 m (pc + 3) ls rest)) : W p l e R s m args below meth c Hc locs cells slots Q (F0 m pc ls (.ref (ad (cs0.length + k)) :: rest)) := by
  subst hl
  subst hl2
  subst hk
  rw [← List.append_assoc] at hR
  have hM := hc D cA ad b0 had
  rw [List.append_assoc (as := cs0) (bs := lc) (cs := lo)] at hM
  have hla : (cs0 ++ lc).length = cs0.length + lc.length := List.length_append
  rw [hla] at hM
  refine gn_call (va_runI (As := []) (rest := rest) (n := 0) ⟨hexec, hb, hml, hown, hts⟩ hM ⟨callB_of 0 hts (fun w hw2 => ?_) rfl hrm.1 hrm.2 (hts _ hini) (hts _ hw) hd hRm, hyn, hts _ hins⟩ ⟨ctPre_blind hX, fun T hT hW => ctPre_at hX hA hK hE hNe hR T hT hW⟩ rfl rfl hsz rfl (lv_room hcat) hdg hf) hA hR kk
  rcases List.mem_cons.mp hw2 with rfl | h
  · exact ⟨hcode, good_of_word (gU_good _ hcode)⟩
  · exact ⟨h, good_of_word (gU_good _ h)⟩
end GCV
def plain0 : Nat → Int32 := plainA (fun _ _ => 0) 0 1
