/-! ===== GK 6: the JDK's small functions, switches, texts ===== -/
def gf_m2 (g : Int32 → Int32 → Int32) : List Value → Option (List Value)
  | .int y :: .int x :: st => if gcat st ≤ 8 then some (.int (g x y) :: st) else none
  | _ => none
def gf_m1 (g : Int32 → Int32) : List Value → Option (List Value)
  | .int x :: st => if gcat st ≤ 8 then some (.int (g x) :: st) else none
  | _ => none
theorem gf_m2_inv {g : Int32 → Int32 → Int32} {st st' : List Value} (h : gf_m2 g st = some st') : ∃ x y r, st = .int y :: .int x :: r ∧ st' = .int (g x y) :: r ∧ gcat r ≤ 8 := by
  rcases st with _ | ⟨v, _ | ⟨w, st⟩⟩
  · cases h
  · cases v <;> cases h
  · cases v <;> cases w <;> try cases h
    rename_i y x
    have h2 : (if gcat st ≤ 8 then some (Value.int (g x y) :: st) else none) = some st' := h
    by_cases hy : gcat st ≤ 8
    · rw [if_pos hy] at h2
      exact ⟨x, y, st, rfl, (Option.some.inj h2).symm, hy⟩
    · rw [if_neg hy] at h2; cases h2
theorem gf_m1_inv {g : Int32 → Int32} {st st' : List Value} (h : gf_m1 g st = some st') : ∃ x r, st = .int x :: r ∧ st' = .int (g x) :: r ∧ gcat r ≤ 8 := by
  rcases st with _ | ⟨v, st⟩
  · cases h
  · cases v <;> try cases h
    rename_i x
    have h2 : (if gcat st ≤ 8 then some (Value.int (g x) :: st) else none) = some st' := h
    by_cases hy : gcat st ≤ 8
    · rw [if_pos hy] at h2
      exact ⟨x, st, rfl, (Option.some.inj h2).symm, hy⟩
    · rw [if_neg hy] at h2; cases h2
def gmax (x y : Int32) : Int32 := if x < y then y else x
def gmin (x y : Int32) : Int32 := if y < x then y else x
def gabs (x : Int32) : Int32 := if 0 ≤ x then x else 0 - x
def glk (x : Int32) (d : Nat) : List (Int32 × Nat) → Nat
  | [] => d
  | q :: r => if x = q.1 then q.2 else glk x d r
def gi_lsw (qs : List (Int32 × Nat)) (d : Nat) : gI := fun K _ _ L st H => match st with
  | .int x :: st => K (glk x d qs) L st H
  | _ => False
theorem gm_lsw {qs : List (Int32 × Nat)} {d : Nat} : gMono (gi_lsw qs d) := by
  intro K K' Q Q' X X' L L' st H hK hQ hX hL
  unfold gi_lsw
  rcases st with _ | ⟨v, st⟩
  · exact fun h => h
  · cases v <;> first | exact hK _ _ _ _ _ hL | exact fun h => h
theorem glk_mem (x : Int32) (d : Nat) : ∀ qs : List (Int32 × Nat), glk x d qs ∈ d :: qs.map (fun q => q.2)
  | [] => List.mem_cons_self
  | q :: r => by
    unfold glk
    split
    · exact List.mem_cons_of_mem _ List.mem_cons_self
    · rcases List.mem_cons.mp (glk_mem x d r) with h | h
      · rw [h]; exact List.mem_cons_self
      · exact List.mem_cons_of_mem _ (List.mem_cons_of_mem _ h)
theorem glk_off (k : Nat) (x : Int32) (d : Nat) (dflt : Int) (hd : (k : Int) + dflt = (d : Int)) : ∀ qs : List (Int32 × Nat), (k : Int) + Op.lookupswitch.offset (qs.map (fun q => (q.1.toInt, (q.2 : Int) - k))) dflt x.toInt = (glk x d qs : Int)
  | [] => hd
  | q :: r => by
    show (k : Int) + Op.lookupswitch.offset ((q.1.toInt, (q.2 : Int) - k) :: r.map (fun q => (q.1.toInt, (q.2 : Int) - k))) dflt x.toInt = _
    rw [Op.lookupswitch.offset_cons]
    unfold glk
    by_cases h : x = q.1
    · rw [if_pos (by rw [h]), if_pos h]
      omega
    · rw [if_neg (fun e => h (Int32.toInt_inj.mp e.symm)), if_neg h]
      exact glk_off k x d dflt hd r
def gi_copy (k : Nat) : gI := fun K _ _ L st H => match st with
  | .int n :: .int dp :: .ref b :: .int sp :: .ref a :: st => (match gai H a, gai H b with
    | some (n0, f), some (n1, g) => ¬ sp < 0 ∧ ¬ dp < 0 ∧ ¬ n < 0 ∧ sp.toNatClampNeg + n.toNatClampNeg ≤ n0 ∧ dp.toNatClampNeg + n.toNatClampNeg ≤ n1 ∧ gcat st ≤ 8 ∧ K k L st (gu H b (.inl (0, (n1, .inl (va_cpy f g sp.toNatClampNeg dp.toNatClampNeg n.toNatClampNeg)))))
    | _, _ => False)
  | _ => False
theorem gi_copy_inv {k : Nat} {K : gK} {Q : gQ} {X : gX} {L : gL} {st : List Value} {H : gH} (h : gi_copy k K Q X L st H) : ∃ n dp b sp a r n0 f n1 g, st = .int n :: .int dp :: .ref b :: .int sp :: .ref a :: r ∧ gai H a = some (n0, f) ∧ gai H b = some (n1, g) ∧ ¬ sp < 0 ∧ ¬ dp < 0 ∧ ¬ n < 0 ∧ sp.toNatClampNeg + n.toNatClampNeg ≤ n0 ∧ dp.toNatClampNeg + n.toNatClampNeg ≤ n1 ∧ gcat r ≤ 8 ∧ K k L r (gu H b (.inl (0, (n1, .inl (va_cpy f g sp.toNatClampNeg dp.toNatClampNeg n.toNatClampNeg))))) := by
  unfold gi_copy at h
  split at h
  · rename_i n dp b sp a r
    split at h
    · rename_i n0 f n1 g e1 e2
      exact ⟨n, dp, b, sp, a, r, n0, f, n1, g, rfl, e1, e2, h⟩
    · exact h.elim
  · exact h.elim
theorem gm_copy {k : Nat} : gMono (gi_copy k) := by
  intro K K' Q Q' X X' L L' st H hK hQ hX hL h
  obtain ⟨n, dp, b, sp, a, r, n0, f, n1, g, rfl, e1, e2, h1, h2, h3, h4, h5, h6, h7⟩ := gi_copy_inv h
  unfold gi_copy
  dsimp only
  rw [e1, e2]
  exact ⟨h1, h2, h3, h4, h5, h6, hK _ _ _ _ _ hL h7⟩
section GKJ
variable {EX : gEX} {inf : Nat → gInf} {cl : List vw_C} {U : List Cond} {SS : Nat → gS} {d : Nat} {TH : Nat → String → Prop} {cc : ByteArray} {nL : Nat} {own : String} {rt : Option FieldType} {z : Nat → Nat} {mc k k' t : Nat}
theorem gs_max {idx : Nat} (hl : Cond.methodLink own idx Lib.Math.max.name ∈ U) (hst : Cond.static Lib.Math.max.name ∈ U) (hini : Cond.initialized "java/lang/Math" ∈ U) (hcode : Cond.code Lib.Math.max.name Lib.Math.max.code 2 (some .int) ∈ U) (hd : decode cc k = .ok (.invokestatic idx, 3)) (hz : z k ≤ z (k + 3)) : gOk EX inf cl U SS d TH cc nL own rt z mc k (gi_st (k + 3) (gf_m2 gmax)) := by
  refine ⟨gm_st, ?_⟩
  intro p l e R s m args below meth c D cA ad n A Q X Qf hC hE hN L st H h Hc locs ls hR hlv
  obtain ⟨hx, hb, hml, hown, hts, -⟩ := hC
  obtain ⟨-, -, -, hRm, hzs, hRc, hRs⟩ := hE
  have hzk := hzs k
  unfold gi_st at h
  cases hf : gf_m2 gmax st with
  | none => rw [hf] at h; exact h.elim
  | some st' =>
    rw [hf] at h
    obtain ⟨x, y, r, rfl, rfl, hr⟩ := gf_m2_inv hf
    exact va_mmax hx hb (by rw [hml, hlv.1]) hown (hts _ hl) (hts _ hst) (hts _ hini) (hts _ hcode) (by omega) (by rw [gcat_map]; omega) (by omega) (by omega) hd (W.widen hz (by omega) (h Hc locs ls hR hlv))
theorem gs_min {idx : Nat} (hl : Cond.methodLink own idx Lib.Math.min.name ∈ U) (hst : Cond.static Lib.Math.min.name ∈ U) (hini : Cond.initialized "java/lang/Math" ∈ U) (hcode : Cond.code Lib.Math.min.name Lib.Math.min.code 2 (some .int) ∈ U) (hd : decode cc k = .ok (.invokestatic idx, 3)) (hz : z k ≤ z (k + 3)) : gOk EX inf cl U SS d TH cc nL own rt z mc k (gi_st (k + 3) (gf_m2 gmin)) := by
  refine ⟨gm_st, ?_⟩
  intro p l e R s m args below meth c D cA ad n A Q X Qf hC hE hN L st H h Hc locs ls hR hlv
  obtain ⟨hx, hb, hml, hown, hts, -⟩ := hC
  obtain ⟨-, -, -, hRm, hzs, hRc, hRs⟩ := hE
  have hzk := hzs k
  unfold gi_st at h
  cases hf : gf_m2 gmin st with
  | none => rw [hf] at h; exact h.elim
  | some st' =>
    rw [hf] at h
    obtain ⟨x, y, r, rfl, rfl, hr⟩ := gf_m2_inv hf
    exact va_mmin hx hb (by rw [hml, hlv.1]) hown (hts _ hl) (hts _ hst) (hts _ hini) (hts _ hcode) (by omega) (by rw [gcat_map]; omega) (by omega) (by omega) hd (W.widen hz (by omega) (h Hc locs ls hR hlv))
theorem gs_abs {idx : Nat} (hl : Cond.methodLink own idx Lib.Math.abs.name ∈ U) (hst : Cond.static Lib.Math.abs.name ∈ U) (hini : Cond.initialized "java/lang/Math" ∈ U) (hcode : Cond.code Lib.Math.abs.name Lib.Math.abs.code 1 (some .int) ∈ U) (hd : decode cc k = .ok (.invokestatic idx, 3)) (hz : z k ≤ z (k + 3)) : gOk EX inf cl U SS d TH cc nL own rt z mc k (gi_st (k + 3) (gf_m1 gabs)) := by
  refine ⟨gm_st, ?_⟩
  intro p l e R s m args below meth c D cA ad n A Q X Qf hC hE hN L st H h Hc locs ls hR hlv
  obtain ⟨hx, hb, hml, hown, hts, -⟩ := hC
  obtain ⟨-, -, -, hRm, hzs, hRc, hRs⟩ := hE
  have hzk := hzs k
  unfold gi_st at h
  cases hf : gf_m1 gabs st with
  | none => rw [hf] at h; exact h.elim
  | some st' =>
    rw [hf] at h
    obtain ⟨x, r, rfl, rfl, hr⟩ := gf_m1_inv hf
    exact va_mabs hx hb (by rw [hml, hlv.1]) hown (hts _ hl) (hts _ hst) (hts _ hini) (hts _ hcode) (by omega) (by rw [gcat_map]; omega) (by omega) (by omega) hd (W.widen hz (by omega) (h Hc locs ls hR hlv))
theorem gs_copy {idx : Nat} (hl : Cond.methodLink own idx arraycopyName ∈ U) (hnat : Cond.native arraycopyName ∈ U) (hst : Cond.static arraycopyName ∈ U) (hini : Cond.initialized "java/lang/System" ∈ U) (hd : decode cc k = .ok (.invokestatic idx, 3)) (hz : z k ≤ z (k + 3)) : gOk EX inf cl U SS d TH cc nL own rt z mc k (gi_copy (k + 3)) := by
  refine ⟨gm_copy, ?_⟩
  intro p l e R s m args below meth c D cA ad n A Q X Qf hC hE hN L st H h Hc locs ls hR hlv
  obtain ⟨hx, hb, hml, hown, hts, hK, -⟩ := hC
  obtain ⟨-, -, -, hRm, hzs, hRc, hRs⟩ := hE
  obtain ⟨n, dp, b, sp, a, r, n0, f, n1, g, rfl, e1, e2, h1, h2, h3, h4, h5, h6, h7⟩ := gi_copy_inv h
  have q1 := gai_inv e1
  have q2 := gai_inv e2
  exact va_copyi hx hb (by rw [hml, hlv.1]) hown (hts _ hl) (hts _ hnat) (hts _ hst) (hts _ hini) hK hR.2.1 hR.2.2.1 hR.2.2.2 a b 0 0 (ty := .int) (gws_get (hR.1.lt q1) q1) (gws_get (hR.1.lt q2) q2) rfl rfl rfl h1 h2 h3 h4 h5 (fun _ _ => rfl) (by omega) (by rw [gcat_map, show nativeFrameWords "java/lang/System" "arraycopy" 5 = 7 by decide +kernel]; omega) hd (fun H1 locs1 p1 p2 p3 => W.widen hz (by omega) (h7 H1 locs1 ls (hR.put q2 p1 p2 p3) hlv))
theorem gs_tsw {dflt lo hi : Int} {offs : Array Int} {len : Nat} {ts : List Nat} {df : Nat} (hd : decode cc k = .ok (.tableswitch dflt lo hi offs, len)) (hts : offs.toList.map (fun o => (k : Int) + o) = ts.map (fun (t : Nat) => (t : Int))) (hhi : hi = lo + (ts.length : Int) - 1) (hdf : (k : Int) + dflt = (df : Int)) (hz : ∀ t ∈ df :: ts, z k ≤ z t) :
    gOk EX inf cl U SS d TH cc nL own rt z mc k (gi_tsw lo ts df) := by
  refine ⟨gm_tsw, ?_⟩
  intro p l e R s m args below meth c D cA ad n A Q X Qf hC hE hN L st H h Hc locs ls hR hlv
  rcases st with _ | ⟨v, st⟩
  · exact h.elim
  · cases v <;> try exact h.elim
    rename_i x
    have h : gAt p l e R s m args below meth c nL D cl cA ad n A z Qf (if x.toInt < lo ∨ lo + (ts.length : Int) ≤ x.toInt then df else ts.getD (x.toInt - lo).toNat df) L st H := h
    by_cases hc : x.toInt < lo ∨ lo + (ts.length : Int) ≤ x.toInt
    · rw [if_pos hc] at h
      have := hz df List.mem_cons_self
      exact lv_tableOut hC.1 hC.2.1 hd (by omega) hdf (W.widen this (by omega) (h Hc locs ls hR hlv))
    · rw [if_neg hc] at h
      have hj : (x.toInt - lo).toNat < ts.length := by omega
      have hlen : offs.toList.length = ts.length := by
        have := congrArg List.length hts
        simpa using this
      have ho : offs.toList[(x.toInt - lo).toNat]? = some (offs.toList[(x.toInt - lo).toNat]'(by omega)) := List.getElem?_eq_getElem _
      have ht : (k : Int) + offs.toList[(x.toInt - lo).toNat]'(by omega) = ((ts[(x.toInt - lo).toNat]'hj : Nat) : Int) := by
        have e1 : (offs.toList.map (fun o => (k : Int) + o))[(x.toInt - lo).toNat]? = (ts.map (fun (t : Nat) => (t : Int)))[(x.toInt - lo).toNat]? := by rw [hts]
        rw [List.getElem?_map, List.getElem?_map, ho, List.getElem?_eq_getElem hj] at e1
        exact Option.some.inj e1
      have e3 : ts.getD (x.toInt - lo).toNat df = ts[(x.toInt - lo).toNat]'hj := by
        rw [List.getD_eq_getElem?_getD, List.getElem?_eq_getElem hj]
        rfl
      rw [e3] at h
      have hzt := hz (ts[(x.toInt - lo).toNat]'hj) (List.mem_cons_of_mem _ (List.getElem_mem hj))
      refine lv_tableIn hC.1 hC.2.1 hd (by omega) (by omega) (off := offs.toList[(x.toInt - lo).toNat]'(by omega)) ?_ ht (W.widen hzt (by omega) (h Hc locs ls hR hlv))
      rw [← Array.getElem?_toList]
      exact ho
theorem gs_lsw {dflt : Int} {ps : Array (Int × Int)} {len : Nat} {qs : List (Int32 × Nat)} {df : Nat} (hd : decode cc k = .ok (.lookupswitch dflt ps, len)) (hp : (ps.toList.zip (ps.toList.drop 1)).all (fun (a, next) => a.1 < next.1) = true) (hqs : ps.toList = qs.map (fun q => (q.1.toInt, (q.2 : Int) - k))) (hdf : (k : Int) + dflt = (df : Int)) (hz : ∀ t ∈ df :: qs.map (fun q => q.2), z k ≤ z t) :
    gOk EX inf cl U SS d TH cc nL own rt z mc k (gi_lsw qs df) := by
  refine ⟨gm_lsw, ?_⟩
  intro p l e R s m args below meth c D cA ad n A Q X Qf hC hE hN L st H h Hc locs ls hR hlv
  rcases st with _ | ⟨v, st⟩
  · exact h.elim
  · cases v <;> try exact h.elim
    rename_i x
    have hzt := hz _ (glk_mem x df qs)
    refine lv_lookup hC.1 hC.2.1 hd hp rfl ?_ (W.widen hzt (by omega) (h Hc locs ls hR hlv))
    rw [hqs]
    exact glk_off k x df dflt hdf qs
theorem gs_ldcS {idx h0 : Nat} {tx : String} (hs : ∀ (ad : Nat → Nat) (A : Nat → Prop) (s : State), EX ad A s s.heap → vk_R own idx tx (ad h0) s) (hd : decode cc k = .ok (.ldc idx, 2)) (hz : z k ≤ z (k + 2)) : gOk EX inf cl U SS d TH cc nL own rt z mc k (gi_st (k + 2) (gf_push (.ref h0))) := by
  refine ⟨gm_st, ?_⟩
  intro p l e R s m args below meth c D cA ad n A Q X Qf hC hE hN L st H h Hc locs ls hR hlv
  exact va_ldcS hC.1 hC.2.1 hC.2.2.2.1 (hs ad A s hE.2.1) hd (W.widen hz (by omega) (h Hc locs ls hR hlv))
theorem gs_ldcSW {idx h0 : Nat} {tx : String} (hs : ∀ (ad : Nat → Nat) (A : Nat → Prop) (s : State), EX ad A s s.heap → vk_R own idx tx (ad h0) s) (hd : decode cc k = .ok (.ldc_w idx, 3)) (hz : z k ≤ z (k + 3)) : gOk EX inf cl U SS d TH cc nL own rt z mc k (gi_st (k + 3) (gf_push (.ref h0))) := by
  refine ⟨gm_st, ?_⟩
  intro p l e R s m args below meth c D cA ad n A Q X Qf hC hE hN L st H h Hc locs ls hR hlv T hT XX
  have hZ := hs ad A s hE.2.1
  obtain ⟨t, a1, b1⟩ := (W.widen hz (by omega) (h Hc locs ls hR hlv)) T hT XX
  exact ⟨t, XX.ldcStringW hC.1 hC.2.2.2.1 (text := tx) (a := ad h0) hZ.1 hZ.2 (g := F0 m k ls (st.map (gv ad))) rfl (by rw [hC.2.1]; exact hd) t a1, b1⟩
end GKJ
-- tables in rows of sixteen
def gTab (t : List (List gI)) (k : Nat) : gI := (t.getD (k / 16) []).getD (k % 16) gi_bad
def gAll (P : Nat → gI → Prop) : Nat → List gI → Prop
  | _, [] => True
  | k, i :: l => P k i ∧ gAll P (k + 1) l
theorem gAll_n {P : Nat → gI → Prop} {k : Nat} : gAll P k [] := trivial
theorem gAll_c {P : Nat → gI → Prop} {k : Nat} {i : gI} {l : List gI} (h : P k i) (t : gAll P (k + 1) l) : gAll P k (i :: l) := ⟨h, t⟩
theorem gAll_at {P : Nat → gI → Prop} : ∀ (l : List gI) (k j : Nat), gAll P k l → P (k + j) gi_bad → P (k + j) (l.getD j gi_bad)
  | [], k, j, _, hb => by simpa using hb
  | i :: l, k, 0, h, hb => by simpa using h.1
  | i :: l, k, j + 1, h, hb => by
    have := gAll_at l (k + 1) j h.2 (by rw [show k + 1 + j = k + (j + 1) by omega]; exact hb)
    rw [show k + 1 + j = k + (j + 1) by omega] at this
    simpa using this
def gAllC (P : Nat → gI → Prop) : Nat → List (List gI) → Prop
  | _, [] => True
  | k, c :: t => gAll P k c ∧ gAllC P (k + 16) t
theorem gAllC_n {P : Nat → gI → Prop} {k : Nat} : gAllC P k [] := trivial
theorem gAllC_c {P : Nat → gI → Prop} {k : Nat} {i : List gI} {l : List (List gI)} (h : gAll P k i) (t : gAllC P (k + 16) l) : gAllC P k (i :: l) := ⟨h, t⟩
theorem gAllC_at {P : Nat → gI → Prop} (hb : ∀ k, P k gi_bad) : ∀ (t : List (List gI)) (k a b : Nat), gAllC P k t → P (k + 16 * a + b) ((t.getD a []).getD b gi_bad)
  | [], k, a, b, _ => by simpa using hb _
  | c :: t, k, 0, b, h => by
    have := gAll_at c k b h.1 (hb _)
    simpa using this
  | c :: t, k, a + 1, b, h => by
    have := gAllC_at hb t (k + 16) a b h.2
    rw [show k + 16 + 16 * a + b = k + 16 * (a + 1) + b by omega] at this
    simpa using this
theorem gTab_ok {P : Nat → gI → Prop} (hb : ∀ k, P k gi_bad) {t : List (List gI)} (h : gAllC P 0 t) (k : Nat) : P k (gTab t k) := by
  have := gAllC_at hb t 0 (k / 16) (k % 16) h
  rw [show 0 + 16 * (k / 16) + k % 16 = k by omega] at this
  exact this
