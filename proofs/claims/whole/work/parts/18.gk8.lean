/-! ===== GK 8: texts that lie outside: their fields, bytes; the JDK's statics that they ask ===== -/
def gNT : Nat := 22
def gXok (EX : gEX) : Prop := ∀ (ad : Nat → Nat) (A : Nat → Prop) (s : State), EX ad A s s.heap →
  vk_S gNT (gTxtL.map List.length) gTxtL (fun i => ad (1000000 + i)) (fun i => ad (2000000 + i)) A s s.heap ∧ va_Z "java/lang/String" "COMPACT_STRINGS" "Z" (.int 1) A s s.heap ∧
  (va_Z "jdk/internal/util/Preconditions" "SIOOBE_FORMATTER" "Ljava/util/function/BiFunction;" .null A s s.heap ∨ va_Z "jdk/internal/util/Preconditions" "SIOOBE_FORMATTER" "Ljava/util/function/BiFunction;" (.ref (ad 3000000)) A s s.heap)
def gi_xval (k : Nat) : gI := fun K _ _ L st H => match st with
  | .ref h :: st => 1000000 ≤ h ∧ h < 1000000 + gNT ∧ K k L (.ref (1000000 + h) :: st) H
  | _ => False
def gi_xcod (k : Nat) : gI := fun K _ _ L st H => match st with
  | .ref h :: st => 1000000 ≤ h ∧ h < 1000000 + gNT ∧ K k L (.int 0 :: st) H
  | _ => False
def gtx (i : Nat) : List Int32 := gTxtL.getD i []
def gi_xlen (k : Nat) : gI := fun K _ _ L st H => match st with
  | .ref h :: st => 2000000 ≤ h ∧ h < 2000000 + gNT ∧ K k L (.int (Int32.ofNat (gtx (h - 2000000)).length) :: st) H
  | _ => False
def gi_xbald (k : Nat) : gI := fun K _ _ L st H => match st with
  | .int i :: .ref h :: st => 2000000 ≤ h ∧ h < 2000000 + gNT ∧ vp_in i (gtx (h - 2000000)).length ∧ K k L (.int ((gtx (h - 2000000)).getD i.toNatClampNeg 0) :: st) H
  | _ => False
def gi_xcs (k : Nat) : gI := fun K _ _ L st H => K k L (.int 1 :: st) H
def gi_xany (k : Nat) : gI := fun K _ _ L st H => K k L (.null :: st) H ∧ K k L (.ref 3000000 :: st) H
def grecvx : List Value → Prop
  | .ref h :: _ => 1000000 ≤ h ∧ h < 1000000 + gNT
  | _ => False
def gi_callx (S : gS) (k na : Nat) : gI := fun K _ X L st H =>
  na ≤ st.length ∧ gcat (st.drop na) ≤ 8 ∧ grecvx (st.take na).reverse ∧ S (st.take na).reverse H (fun r H' => K k L (r.toList ++ st.drop na) H') X
theorem gm_callx {S : gS} (hS : gSmono S) {k na : Nat} : gMono (gi_callx S k na) := fun _ _ _ _ _ _ _ _ _ _ hK _ hX hL h => ⟨h.1, h.2.1, h.2.2.1, hS _ _ _ _ _ _ (fun _ _ q => hK _ _ _ _ _ hL q) hX h.2.2.2⟩
theorem gm_xval {k : Nat} : gMono (gi_xval k) := by
  intro K K' Q Q' X X' L L' st H hK hQ hX hL
  rcases st with _ | ⟨v, st⟩
  · exact fun h => h
  · cases v <;> first | exact fun h => ⟨h.1, h.2.1, hK _ _ _ _ _ hL h.2.2⟩ | exact fun h => h
theorem gm_xcod {k : Nat} : gMono (gi_xcod k) := by
  intro K K' Q Q' X X' L L' st H hK hQ hX hL
  rcases st with _ | ⟨v, st⟩
  · exact fun h => h
  · cases v <;> first | exact fun h => ⟨h.1, h.2.1, hK _ _ _ _ _ hL h.2.2⟩ | exact fun h => h
theorem gm_xlen {k : Nat} : gMono (gi_xlen k) := by
  intro K K' Q Q' X X' L L' st H hK hQ hX hL
  rcases st with _ | ⟨v, st⟩
  · exact fun h => h
  · cases v <;> first | exact fun h => ⟨h.1, h.2.1, hK _ _ _ _ _ hL h.2.2⟩ | exact fun h => h
theorem gm_xbald {k : Nat} : gMono (gi_xbald k) := by
  intro K K' Q Q' X X' L L' st H hK hQ hX hL
  rcases st with _ | ⟨v, _ | ⟨w, st⟩⟩
  · exact fun h => h
  · cases v <;> exact fun h => h
  · cases v <;> cases w <;> first | exact fun h => ⟨h.1, h.2.1, h.2.2.1, hK _ _ _ _ _ hL h.2.2.2⟩ | exact fun h => h
theorem gr_i2c {cc : ByteArray} {k : Nat} (hd : decode cc k = .ok (.i2c, 1)) : gRow cc k (k + 1) (gf_i1 (fun x => (x.toUInt32 % 65536).toInt32)) := by
  intro p l e R s m args below meth c H locs cells slots Q ls ad hx hb st st' hf kk
  obtain ⟨x, r, rfl, rfl⟩ := gf_i1_inv hf
  exact lv_i2c hx hb hd rfl kk
theorem gtx_len (i : Nat) : (gTxtL.map List.length).getD i 0 = (gtx i).length := by
  unfold gtx
  rw [List.getD_eq_getElem?_getD, List.getD_eq_getElem?_getD, List.getElem?_map]
  cases gTxtL[i]? <;> rfl
section GKX
variable {EX : gEX} {inf : Nat → gInf} {cl : List vw_C} {U : List Cond} {SS : Nat → gS} {d : Nat} {TH : Nat → String → Prop} {cc : ByteArray} {nL : Nat} {own : String} {rt : Option FieldType} {z : Nat → Nat} {mc k : Nat}
theorem gs_xval {idx : Nat} (hX : gXok EX) (hl : Cond.fieldLink own idx "java/lang/String" "value" "[B" ∈ U) (hd : decode cc k = .ok (.getfield idx, 3)) (hz : z k ≤ z (k + 3)) : gOk EX inf cl U SS d TH cc nL own rt z mc k (gi_xval (k + 3)) := by
  refine ⟨gm_xval, ?_⟩
  intro p l e R s m args below meth c D cA ad n A Q X Qf hC hE hN L st H h Hc locs ls hR hlv
  rcases st with _ | ⟨v, st⟩
  · exact h.elim
  · cases v <;> try exact h.elim
    rename_i x
    obtain ⟨h1, h2, h3⟩ := h
    obtain ⟨i, rfl⟩ : ∃ i : Nat, x = 1000000 + i := ⟨x - 1000000, (Nat.add_sub_cancel' h1).symm⟩
    have hi : i < gNT := Nat.lt_of_add_lt_add_left h2
    have hk := ((hX ad A s hE.2.1).1.1 i hi).2.2.1
    refine vk_getf hC.1 hC.2.1 hk hR.2.2.2 hC.2.2.2.1 (hC.2.2.2.2.1 _ hl) (fun _ w => w) hd (W.widen (n := 6 * z (k + 3)) hz (by omega) ?_)
    have := h3 Hc locs ls hR hlv
    rw [show (1000000 : Nat) + (1000000 + i) = 2000000 + i by omega] at this
    exact this
theorem gs_xcod {idx : Nat} (hX : gXok EX) (hl : Cond.fieldLink own idx "java/lang/String" "coder" "B" ∈ U) (hd : decode cc k = .ok (.getfield idx, 3)) (hz : z k ≤ z (k + 3)) : gOk EX inf cl U SS d TH cc nL own rt z mc k (gi_xcod (k + 3)) := by
  refine ⟨gm_xcod, ?_⟩
  intro p l e R s m args below meth c D cA ad n A Q X Qf hC hE hN L st H h Hc locs ls hR hlv
  rcases st with _ | ⟨v, st⟩
  · exact h.elim
  · cases v <;> try exact h.elim
    rename_i x
    obtain ⟨h1, h2, h3⟩ := h
    obtain ⟨i, rfl⟩ : ∃ i : Nat, x = 1000000 + i := ⟨x - 1000000, (Nat.add_sub_cancel' h1).symm⟩
    have hi : i < gNT := Nat.lt_of_add_lt_add_left h2
    exact vk_getf hC.1 hC.2.1 ((hX ad A s hE.2.1).1.1 i hi).2.1 hR.2.2.2 hC.2.2.2.1 (hC.2.2.2.2.1 _ hl) (fun _ w => w) hd (W.widen hz (by omega) (h3 Hc locs ls hR hlv))
theorem gs_xlen (hX : gXok EX) (hd : decode cc k = .ok (.arraylength, 1)) (hz : z k ≤ z (k + 1)) : gOk EX inf cl U SS d TH cc nL own rt z mc k (gi_xlen (k + 1)) := by
  refine ⟨gm_xlen, ?_⟩
  intro p l e R s m args below meth c D cA ad n A Q X Qf hC hE hN L st H h Hc locs ls hR hlv
  rcases st with _ | ⟨v, st⟩
  · exact h.elim
  · cases v <;> try exact h.elim
    rename_i x
    obtain ⟨h1, h2, h3⟩ := h
    obtain ⟨i, rfl⟩ : ∃ i : Nat, x = 2000000 + i := ⟨x - 2000000, (Nat.add_sub_cancel' h1).symm⟩
    have hi : i < gNT := Nat.lt_of_add_lt_add_left h2
    have hT := ((hX ad A s hE.2.1).1.1 i hi).2.2.2
    rw [gtx_len] at hT
    have h4 := h3 Hc locs ls hR hlv
    rw [show (2000000 : Nat) + i - 2000000 = i by omega] at h4
    exact va_tlen hC.1 hC.2.1 hT hR.2.2.2 rfl hd (W.widen hz (by omega) h4)
theorem gs_xbald (hX : gXok EX) (hd : decode cc k = .ok (.baload, 1)) (hz : z k ≤ z (k + 1)) : gOk EX inf cl U SS d TH cc nL own rt z mc k (gi_xbald (k + 1)) := by
  refine ⟨gm_xbald, ?_⟩
  intro p l e R s m args below meth c D cA ad n A Q X Qf hC hE hN L st H h Hc locs ls hR hlv
  rcases st with _ | ⟨v, _ | ⟨w, st⟩⟩
  · exact h.elim
  · cases v <;> exact h.elim
  · cases v <;> cases w <;> try exact h.elim
    rename_i j x
    obtain ⟨h1, h2, h5, h3⟩ := h
    obtain ⟨i, rfl⟩ : ∃ i : Nat, x = 2000000 + i := ⟨x - 2000000, (Nat.add_sub_cancel' h1).symm⟩
    have hi : i < gNT := Nat.lt_of_add_lt_add_left h2
    have hT := ((hX ad A s hE.2.1).1.1 i hi).2.2.2
    rw [gtx_len] at hT
    have h4 := h3 Hc locs ls hR hlv
    rw [show (2000000 : Nat) + i - 2000000 = i by omega] at h4 h5
    exact va_tb hC.1 hC.2.1 hT hR.2.2.2 h5 rfl hd (W.widen hz (by omega) h4)
theorem gs_xcs {idx : Nat} (hX : gXok EX) (hl : Cond.fieldLink own idx "java/lang/String" "COMPACT_STRINGS" "Z" ∈ U) (hd : decode cc k = .ok (.getstatic idx, 3)) (hz : z k ≤ z (k + 3)) : gOk EX inf cl U SS d TH cc nL own rt z mc k (gi_xcs (k + 3)) := by
  refine ⟨fun _ _ _ _ _ _ _ _ _ _ hK _ _ hL h => hK _ _ _ _ _ hL h, ?_⟩
  intro p l e R s m args below meth c D cA ad n A Q X Qf hC hE hN L st H h Hc locs ls hR hlv
  exact va_gets hC.1 hC.2.1 (hX ad A s hE.2.1).2.1 hR.2.2.2 hC.2.2.2.1 (hC.2.2.2.2.1 _ hl) (fun _ w => w) hd (W.widen hz (by omega) (h Hc locs ls hR hlv))
theorem gs_xany {idx : Nat} (hX : gXok EX) (hl : Cond.fieldLink own idx "jdk/internal/util/Preconditions" "SIOOBE_FORMATTER" "Ljava/util/function/BiFunction;" ∈ U) (hd : decode cc k = .ok (.getstatic idx, 3)) (hz : z k ≤ z (k + 3)) : gOk EX inf cl U SS d TH cc nL own rt z mc k (gi_xany (k + 3)) := by
  refine ⟨fun _ _ _ _ _ _ _ _ _ _ hK _ _ hL h => ⟨hK _ _ _ _ _ hL h.1, hK _ _ _ _ _ hL h.2⟩, ?_⟩
  intro p l e R s m args below meth c D cA ad n A Q X Qf hC hE hN L st H h Hc locs ls hR hlv
  rcases (hX ad A s hE.2.1).2.2 with q | q
  · exact va_gets hC.1 hC.2.1 q hR.2.2.2 hC.2.2.2.1 (hC.2.2.2.2.1 _ hl) (fun _ w => w) hd (W.widen hz (by omega) (h.1 Hc locs ls hR hlv))
  · exact va_gets hC.1 hC.2.1 q hR.2.2.2 hC.2.2.2.1 (hC.2.2.2.2.1 _ hl) (fun _ w => w) hd (W.widen hz (by omega) (h.2 Hc locs ls hR hlv))
def gCeeX (inf : Nat → gInf) (U : List Cond) (M : Nat) (y : MethodName) (np : Nat) : Prop :=
  ∃ (cM : ByteArray) (nM : Nat) (rM : Option FieldType), inf M = (y, cM, nM, rM, 0, []) ∧ y.cls = "java/lang/String" ∧ Cond.instanceMethod y ∈ U ∧ Cond.selects y.cls y y ∈ U ∧ Cond.initialized y.cls ∈ U ∧ Cond.code y cM nM rM ∈ U ∧
    (y.cls ≠ "java/lang/invoke/MethodHandle" ∧ y.cls ≠ "java/lang/invoke/VarHandle" ∧ (parseMethodDescriptor y.desc).map (fun d => d.parameters.length) = some np) ∧ nM ≤ 45
theorem gs_cx {M idx np : Nat} {y : MethodName} (hX : gXok EX) (hU : ∀ w ∈ U, goodWord w = true) (hm : ∀ M, gSmono (SS M)) (h : gCeeX inf U M y np) (hlink : Cond.methodLink own idx y ∈ U) (hdec : decode cc k = .ok (.invokevirtual idx, 3)) (hz : z k + 0 ≤ z (k + 3)) : gOk EX inf cl U SS d TH cc nL own rt z mc k (gi_callx (SS M) (k + 3) (np + 1)) := by
  obtain ⟨cM, nM, rM, hi, hyc, hst, hsel, hini, hcode0, hd, hnL⟩ := h
  refine ⟨gm_callx (hm M), ?_⟩
  intro p l e R s m args below meth c D cA ad n A Q X Qf hC hE hN L st H h Hc locs ls hR hlv
  obtain ⟨hx, hb, hml, hown, hts, hK, hA, hrt, hlk⟩ := hC
  obtain ⟨hXo, hEX, hSS, hRm, hzs, hRc, hRs⟩ := hE
  obtain ⟨h1, h2, h4, h3⟩ := h
  have hM := hSS M _ H _ X h3 D cA ad n Hc.size
  have hzk := hzs (k + 3)
  have hcode : gHead (inf M) ∈ U := by rw [hi]; exact hcode0
  have hws : gWs (inf M) U = Cond.code y cM nM rM :: U := by rw [hi]; rfl
  rw [hi] at hM
  dsimp only at hM
  have cb : CallB R s args own idx y cM nM rM (gWs (y, cM, nM, rM, 0, []) U) (gRm d 0) 0 (6 * 0) np :=
    callB_of np hts (by have := gWs_good hU hcode; rw [hi] at this; exact this) rfl rfl rfl (hts _ hini) (hts _ hlink) hd ⟨hRm.1, by show 8 + (nM + 11) + (64 * d + 400) ≤ R.locals; omega⟩
  have hlen : ((st.take (np + 1)).reverse).length = np + 1 := by
    rw [List.length_reverse, List.length_take]
    exact Nat.min_eq_left h1
  rcases hta : (st.take (np + 1)).reverse with _ | ⟨v, as⟩
  · rw [hta] at hlen; cases hlen
  · rw [hta] at hlen h4 hM
    cases v <;> try exact h4.elim
    rename_i b
    obtain ⟨g1, g2⟩ := h4
    obtain ⟨i, rfl⟩ : ∃ i : Nat, b = 1000000 + i := ⟨b - 1000000, (Nat.add_sub_cancel' g1).symm⟩
    have hi9 : i < gNT := Nat.lt_of_add_lt_add_left g2
    have hrec := vk_recv (hX ad A s hEX).1 (i := i) hi9 hR.2.2.2
    rw [← hyc] at hrec
    refine gx_call (vx_runV (C := y.cls) (b := ad (1000000 + i)) (As := as.map (gv ad)) (rest := (st.drop (np + 1)).map (gv ad)) ⟨hx, hb, hml, hown, hts⟩ hM ⟨cb, hts _ hst, hts _ hsel⟩ ⟨gPre_blind hXo, hrec, fun T hT hW => gPre_at (as := .ref (1000000 + i) :: as) hXo hA hK hEX hR T hT hW⟩ rfl ?_ hlv.1 ?_ (lv_room (by rw [gcat_map]; exact h2)) hdec ⟨by omega, by omega⟩) hR.2.2.2 (gRel.free hA hR) ?_ ?_
    · rw [List.length_map]
      simpa using hlen
    · show st.map (gv ad) = _
      have e1 : st = as.reverse ++ .ref (1000000 + i) :: st.drop (np + 1) := by
        have e2 : st.take (np + 1) = as.reverse ++ [.ref (1000000 + i)] := by
          rw [← List.reverse_reverse (st.take (np + 1)), hta, List.reverse_cons]
        rw [← List.singleton_append, ← List.append_assoc, ← e2, List.take_append_drop]
      rw [← List.map_reverse]
      show st.map (gv ad) = as.reverse.map (gv ad) ++ (gv ad (.ref (1000000 + i)) :: (st.drop (np + 1)).map (gv ad))
      rw [← List.map_cons, ← List.map_append, ← e1]
    · intro E H' q ce H1 locs1 hx' hrel hce hcv hcl
      exact vx_widen (by omega) (by omega) (hN.2.1 k ls _ H1 locs1 E H' q ce hx' hrel hce hcv hcl)
    · intro r H' H1 locs1 hq hrel
      have hw := hq H1 locs1 ls hrel hlv
      rw [List.map_append] at hw
      exact W.widen hz (by omega) hw
end GKX
