/-! ===== GK 3: the instructions, one by one ===== -/
def gRow (cc : ByteArray) (k k' : Nat) (f : List Value → Option (List Value)) : Prop :=
  ∀ (p : Program) (l : Launch) (e : Env) (R : Room) (s : State) (m : MethodId) (args : Array Value) (below : List Frame) (meth : Method) (c : Code) (H : Heap) (locs : List Loc) (cells slots : Nat) (Q : State → Prop) (ls : Array Slot) (ad : Nat → Nat),
    p.tables.exec = Jvm.exec → c.code = cc → ∀ st st' : List Value, f st = some st' → W p l e R s m args below meth c H locs cells slots Q (F0 m k' ls (st'.map (gv ad))) → W p l e R s m args below meth c H locs cells slots Q (F0 m k ls (st.map (gv ad)))
def gIfRow (cc : ByteArray) (k k' t : Nat) (f : Int32 → Prop) : Prop :=
  ∀ (p : Program) (l : Launch) (e : Env) (R : Room) (s : State) (m : MethodId) (args : Array Value) (below : List Frame) (meth : Method) (c : Code) (H : Heap) (locs : List Loc) (cells slots : Nat) (Q : State → Prop) (ls : Array Slot),
    p.tables.exec = Jvm.exec → c.code = cc → ∀ (x : Int32) (rest : List Value), (f x → W p l e R s m args below meth c H locs cells slots Q (F0 m t ls rest)) → (¬ f x → W p l e R s m args below meth c H locs cells slots Q (F0 m k' ls rest)) → W p l e R s m args below meth c H locs cells slots Q (F0 m k ls (.int x :: rest))
def gCmpRow (cc : ByteArray) (k k' t : Nat) (f : Int32 → Int32 → Prop) : Prop :=
  ∀ (p : Program) (l : Launch) (e : Env) (R : Room) (s : State) (m : MethodId) (args : Array Value) (below : List Frame) (meth : Method) (c : Code) (H : Heap) (locs : List Loc) (cells slots : Nat) (Q : State → Prop) (ls : Array Slot),
    p.tables.exec = Jvm.exec → c.code = cc → ∀ (x y : Int32) (rest : List Value), (f x y → W p l e R s m args below meth c H locs cells slots Q (F0 m t ls rest)) → (¬ f x y → W p l e R s m args below meth c H locs cells slots Q (F0 m k' ls rest)) → W p l e R s m args below meth c H locs cells slots Q (F0 m k ls (.int y :: .int x :: rest))
-- what the stack's instructions do
def gf_push (v : Value) : List Value → Option (List Value) := fun st => some (v :: st)
def gf_i1 (g : Int32 → Int32) : List Value → Option (List Value)
  | .int x :: st => some (.int (g x) :: st)
  | _ => none
def gf_i2 (g : Int32 → Int32 → Int32) : List Value → Option (List Value)
  | .int y :: .int x :: st => some (.int (g x y) :: st)
  | _ => none
def gf_i2z (g : Int32 → Int32 → Int32) : List Value → Option (List Value)
  | .int y :: .int x :: st => if y = 0 then none else some (.int (g x y) :: st)
  | _ => none
def gf_l2 (g : Int64 → Int64 → Int64) : List Value → Option (List Value)
  | .long y :: .long x :: st => some (.long (g x y) :: st)
  | _ => none
def gf_l2z (g : Int64 → Int64 → Int64) : List Value → Option (List Value)
  | .long y :: .long x :: st => if y = 0 then none else some (.long (g x y) :: st)
  | _ => none
def gf_lcmp : List Value → Option (List Value)
  | .long y :: .long x :: st => some (.int (lg_cmp x y) :: st)
  | _ => none
def gf_i2l : List Value → Option (List Value)
  | .int x :: st => some (.long x.toInt64 :: st)
  | _ => none
def gf_l2i : List Value → Option (List Value)
  | .long x :: st => some (.int x.toInt32 :: st)
  | _ => none
def gf_dup : List Value → Option (List Value)
  | .int x :: st => some (.int x :: .int x :: st)
  | .ref x :: st => some (.ref x :: .ref x :: st)
  | _ => none
def gf_dup2 : List Value → Option (List Value)
  | .int x :: .ref y :: st => some (.int x :: .ref y :: .int x :: .ref y :: st)
  | _ => none
def gf_pop : List Value → Option (List Value)
  | .int _ :: st => some st
  | .ref _ :: st => some st
  | _ => none
theorem gf_i1_inv {g : Int32 → Int32} {st st' : List Value} (h : gf_i1 g st = some st') : ∃ x r, st = .int x :: r ∧ st' = .int (g x) :: r := by
  rcases st with _ | ⟨v, st⟩
  · cases h
  · cases v <;> first | exact ⟨_, _, rfl, (Option.some.inj h).symm⟩ | cases h
theorem gf_i2_inv {g : Int32 → Int32 → Int32} {st st' : List Value} (h : gf_i2 g st = some st') : ∃ x y r, st = .int y :: .int x :: r ∧ st' = .int (g x y) :: r := by
  rcases st with _ | ⟨v, _ | ⟨w, st⟩⟩
  · cases h
  · cases v <;> cases h
  · cases v <;> cases w <;> first | exact ⟨_, _, _, rfl, (Option.some.inj h).symm⟩ | cases h
theorem gf_i2z_inv {g : Int32 → Int32 → Int32} {st st' : List Value} (h : gf_i2z g st = some st') : ∃ x y r, st = .int y :: .int x :: r ∧ st' = .int (g x y) :: r ∧ ¬ y = 0 := by
  rcases st with _ | ⟨v, _ | ⟨w, st⟩⟩
  · cases h
  · cases v <;> cases h
  · cases v <;> cases w <;> try cases h
    rename_i y x
    have h2 : (if y = 0 then none else some (Value.int (g x y) :: st)) = some st' := h
    by_cases hy : y = 0
    · rw [if_pos hy] at h2; cases h2
    · rw [if_neg hy] at h2
      exact ⟨x, y, st, rfl, (Option.some.inj h2).symm, hy⟩
theorem gf_l2_inv {g : Int64 → Int64 → Int64} {st st' : List Value} (h : gf_l2 g st = some st') : ∃ x y r, st = .long y :: .long x :: r ∧ st' = .long (g x y) :: r := by
  rcases st with _ | ⟨v, _ | ⟨w, st⟩⟩
  · cases h
  · cases v <;> cases h
  · cases v <;> cases w <;> first | exact ⟨_, _, _, rfl, (Option.some.inj h).symm⟩ | cases h
theorem gf_l2z_inv {g : Int64 → Int64 → Int64} {st st' : List Value} (h : gf_l2z g st = some st') : ∃ x y r, st = .long y :: .long x :: r ∧ st' = .long (g x y) :: r ∧ ¬ y = 0 := by
  rcases st with _ | ⟨v, _ | ⟨w, st⟩⟩
  · cases h
  · cases v <;> cases h
  · cases v <;> cases w <;> try cases h
    rename_i y x
    have h2 : (if y = 0 then none else some (Value.long (g x y) :: st)) = some st' := h
    by_cases hy : y = 0
    · rw [if_pos hy] at h2; cases h2
    · rw [if_neg hy] at h2
      exact ⟨x, y, st, rfl, (Option.some.inj h2).symm, hy⟩
section GKR
variable {EX : gEX} {inf : Nat → gInf} {cl : List vw_C} {U : List Cond} {SS : Nat → gS} {d : Nat} {TH : Nat → String → Prop} {cc : ByteArray} {nL : Nat} {own : String} {rt : Option FieldType} {z : Nat → Nat} {mc k k' t : Nat}
theorem gs_bad : gOk EX inf cl U SS d TH cc nL own rt z mc k gi_bad := by
  refine ⟨gm_bad, ?_⟩
  intro p l e R s m args below meth c D cA ad n A Q X Qf hC hE hN L st H h
  exact h.elim
theorem gs_st {f : List Value → Option (List Value)} (hr : gRow cc k k' f) (hz : z k ≤ z k') : gOk EX inf cl U SS d TH cc nL own rt z mc k (gi_st k' f) := by
  refine ⟨gm_st, ?_⟩
  intro p l e R s m args below meth c D cA ad n A Q X Qf hC hE hN L st H h Hc locs ls hR hl
  unfold gi_st at h
  cases hf : f st with
  | none => rw [hf] at h; exact h.elim
  | some st' =>
    rw [hf] at h
    exact hr _ _ _ _ _ _ _ _ _ _ _ _ _ _ _ _ ad hC.1 hC.2.1 st st' hf (W.widen hz (by omega) (h Hc locs ls hR hl))
theorem gs_goto {off : Int} (hd : decode cc k = .ok (.goto off, 3)) (ht : (k : Int) + off = (t : Int)) (hz : z k ≤ z t) : gOk EX inf cl U SS d TH cc nL own rt z mc k (gi_goto t) := by
  refine ⟨gm_goto, ?_⟩
  intro p l e R s m args below meth c D cA ad n A Q X Qf hC hE hN L st H h Hc locs ls hR hl
  exact lv_goto hC.1 hC.2.1 hd ht (W.widen hz (by omega) (h Hc locs ls hR hl))
theorem gs_if {f : Int32 → Prop} (hr : gIfRow cc k k' t f) (hz : z k ≤ z k') (hz2 : z k ≤ z t) : gOk EX inf cl U SS d TH cc nL own rt z mc k (gi_if k' t f) := by
  refine ⟨gm_if, ?_⟩
  intro p l e R s m args below meth c D cA ad n A Q X Qf hC hE hN L st H h Hc locs ls hR hl
  rcases st with _ | ⟨v, st⟩
  · exact h.elim
  · cases v <;> try exact h.elim
    exact hr _ _ _ _ _ _ _ _ _ _ _ _ _ _ _ _ hC.1 hC.2.1 _ _ (fun q => W.widen hz2 (by omega) (h.1 q Hc locs ls hR hl)) (fun q => W.widen hz (by omega) (h.2 q Hc locs ls hR hl))
theorem gs_icmp {f : Int32 → Int32 → Prop} (hr : gCmpRow cc k k' t f) (hz : z k ≤ z k') (hz2 : z k ≤ z t) : gOk EX inf cl U SS d TH cc nL own rt z mc k (gi_icmp k' t f) := by
  refine ⟨gm_icmp, ?_⟩
  intro p l e R s m args below meth c D cA ad n A Q X Qf hC hE hN L st H h Hc locs ls hR hl
  rcases st with _ | ⟨v, _ | ⟨w, st⟩⟩
  · exact h.elim
  · cases v <;> exact h.elim
  · cases v <;> cases w <;> try exact h.elim
    exact hr _ _ _ _ _ _ _ _ _ _ _ _ _ _ _ _ hC.1 hC.2.1 _ _ _ (fun q => W.widen hz2 (by omega) (h.1 q Hc locs ls hR hl)) (fun q => W.widen hz (by omega) (h.2 q Hc locs ls hR hl))
-- loads
theorem gs_iload_n {j : Fin 4} {i : Nat} (hd : decode cc k = .ok (.iload_n j, 1)) (hi : (j : Nat) = i) (hz : z k ≤ z (k + 1)) : gOk EX inf cl U SS d TH cc nL own rt z mc k (gi_iload (k + 1) i) := by
  refine ⟨gm_iload, ?_⟩
  intro p l e R s m args below meth c D cA ad n A Q X Qf hC hE hN L st H h Hc locs ls hR hl
  unfold gi_iload at h
  rcases hv : gl L i with _ | v
  · rw [hv] at h; exact h.elim
  · rw [hv] at h
    cases v <;> try exact h.elim
    exact lv_iload_n hC.1 hC.2.1 hd hi (hl.2.2 i _ hv) (W.widen hz (by omega) (h Hc locs ls hR hl))
theorem gs_iload {i : Nat} (hd : decode cc k = .ok (.iload i, 2)) (hz : z k ≤ z (k + 2)) : gOk EX inf cl U SS d TH cc nL own rt z mc k (gi_iload (k + 2) i) := by
  refine ⟨gm_iload, ?_⟩
  intro p l e R s m args below meth c D cA ad n A Q X Qf hC hE hN L st H h Hc locs ls hR hl
  unfold gi_iload at h
  rcases hv : gl L i with _ | v
  · rw [hv] at h; exact h.elim
  · rw [hv] at h
    cases v <;> try exact h.elim
    exact lv_iload hC.1 hC.2.1 hd (hl.2.2 i _ hv) (W.widen hz (by omega) (h Hc locs ls hR hl))
theorem gs_lload_n {j : Fin 4} {i : Nat} (hd : decode cc k = .ok (.lload_n j, 1)) (hi : (j : Nat) = i) (hz : z k ≤ z (k + 1)) : gOk EX inf cl U SS d TH cc nL own rt z mc k (gi_lload (k + 1) i) := by
  refine ⟨gm_lload, ?_⟩
  intro p l e R s m args below meth c D cA ad n A Q X Qf hC hE hN L st H h Hc locs ls hR hl
  unfold gi_lload at h
  rcases hv : gl L i with _ | v
  · rw [hv] at h; exact h.elim
  · rw [hv] at h
    cases v <;> try exact h.elim
    exact lv_lload_n hC.1 hC.2.1 hd hi (hl.2.2 i _ hv) (W.widen hz (by omega) (h Hc locs ls hR hl))
theorem gs_lload {i : Nat} (hd : decode cc k = .ok (.lload i, 2)) (hz : z k ≤ z (k + 2)) : gOk EX inf cl U SS d TH cc nL own rt z mc k (gi_lload (k + 2) i) := by
  refine ⟨gm_lload, ?_⟩
  intro p l e R s m args below meth c D cA ad n A Q X Qf hC hE hN L st H h Hc locs ls hR hl
  unfold gi_lload at h
  rcases hv : gl L i with _ | v
  · rw [hv] at h; exact h.elim
  · rw [hv] at h
    cases v <;> try exact h.elim
    exact lv_lload hC.1 hC.2.1 hd (hl.2.2 i _ hv) (W.widen hz (by omega) (h Hc locs ls hR hl))
theorem gs_aload_n {j : Fin 4} {i : Nat} (hd : decode cc k = .ok (.aload_n j, 1)) (hi : (j : Nat) = i) (hz : z k ≤ z (k + 1)) : gOk EX inf cl U SS d TH cc nL own rt z mc k (gi_aload (k + 1) i) := by
  refine ⟨gm_aload, ?_⟩
  intro p l e R s m args below meth c D cA ad n A Q X Qf hC hE hN L st H h Hc locs ls hR hl
  unfold gi_aload at h
  rcases hv : gl L i with _ | v
  · rw [hv] at h; exact h.elim
  · rw [hv] at h
    cases v <;> try exact h.elim
    exact lv_aload_n hC.1 hC.2.1 hd hi (hl.2.2 i _ hv) (W.widen hz (by omega) (h Hc locs ls hR hl))
theorem gs_aload {i : Nat} (hd : decode cc k = .ok (.aload i, 2)) (hz : z k ≤ z (k + 2)) : gOk EX inf cl U SS d TH cc nL own rt z mc k (gi_aload (k + 2) i) := by
  refine ⟨gm_aload, ?_⟩
  intro p l e R s m args below meth c D cA ad n A Q X Qf hC hE hN L st H h Hc locs ls hR hl
  unfold gi_aload at h
  rcases hv : gl L i with _ | v
  · rw [hv] at h; exact h.elim
  · rw [hv] at h
    cases v <;> try exact h.elim
    exact lv_aload hC.1 hC.2.1 hd (hl.2.2 i _ hv) (W.widen hz (by omega) (h Hc locs ls hR hl))
-- stores
theorem gs_istore_n {j : Fin 4} {i : Nat} (hd : decode cc k = .ok (.istore_n j, 1)) (hi : (j : Nat) = i) (hn : i < nL) (hz : z k ≤ z (k + 1)) : gOk EX inf cl U SS d TH cc nL own rt z mc k (gi_istore (k + 1) i) := by
  refine ⟨gm_istore, ?_⟩
  intro p l e R s m args below meth c D cA ad n A Q X Qf hC hE hN L st H h Hc locs ls hR hl
  rcases st with _ | ⟨v, st⟩
  · exact h.elim
  · cases v <;> try exact h.elim
    exact lv_istore_n hC.1 hC.2.1 hd hi hl.list hn rfl (fun ls' h' => W.widen hz (by omega) (h Hc locs ls' hR (hl.st1 (v := .int _) h')))
theorem gs_istore {i : Nat} (hd : decode cc k = .ok (.istore i, 2)) (hn : i < nL) (hz : z k ≤ z (k + 2)) : gOk EX inf cl U SS d TH cc nL own rt z mc k (gi_istore (k + 2) i) := by
  refine ⟨gm_istore, ?_⟩
  intro p l e R s m args below meth c D cA ad n A Q X Qf hC hE hN L st H h Hc locs ls hR hl
  rcases st with _ | ⟨v, st⟩
  · exact h.elim
  · cases v <;> try exact h.elim
    exact lv_istore hC.1 hC.2.1 hd hl.list hn rfl (fun ls' h' => W.widen hz (by omega) (h Hc locs ls' hR (hl.st1 (v := .int _) h')))
theorem gs_astore_n {j : Fin 4} {i : Nat} (hd : decode cc k = .ok (.astore_n j, 1)) (hi : (j : Nat) = i) (hn : i < nL) (hz : z k ≤ z (k + 1)) : gOk EX inf cl U SS d TH cc nL own rt z mc k (gi_astore (k + 1) i) := by
  refine ⟨gm_astore, ?_⟩
  intro p l e R s m args below meth c D cA ad n A Q X Qf hC hE hN L st H h Hc locs ls hR hl
  rcases st with _ | ⟨v, st⟩
  · exact h.elim
  · cases v <;> try exact h.elim
    exact lv_astore_n hC.1 hC.2.1 hd hi hl.list hn rfl (fun ls' h' => W.widen hz (by omega) (h Hc locs ls' hR (hl.st1 (v := .ref _) h')))
theorem gs_astore {i : Nat} (hd : decode cc k = .ok (.astore i, 2)) (hn : i < nL) (hz : z k ≤ z (k + 2)) : gOk EX inf cl U SS d TH cc nL own rt z mc k (gi_astore (k + 2) i) := by
  refine ⟨gm_astore, ?_⟩
  intro p l e R s m args below meth c D cA ad n A Q X Qf hC hE hN L st H h Hc locs ls hR hl
  rcases st with _ | ⟨v, st⟩
  · exact h.elim
  · cases v <;> try exact h.elim
    exact lv_astore hC.1 hC.2.1 hd hl.list hn rfl (fun ls' h' => W.widen hz (by omega) (h Hc locs ls' hR (hl.st1 (v := .ref _) h')))
theorem gs_lstore_n {j : Fin 4} {i : Nat} (hd : decode cc k = .ok (.lstore_n j, 1)) (hi : (j : Nat) = i) (hn : i + 1 < nL) (hz : z k ≤ z (k + 1)) : gOk EX inf cl U SS d TH cc nL own rt z mc k (gi_lstore (k + 1) i) := by
  refine ⟨gm_lstore, ?_⟩
  intro p l e R s m args below meth c D cA ad n A Q X Qf hC hE hN L st H h Hc locs ls hR hl
  rcases st with _ | ⟨v, st⟩
  · exact h.elim
  · cases v <;> try exact h.elim
    exact lv_lstore_n hC.1 hC.2.1 hd hi hl.list hn rfl (fun ls' h' => W.widen hz (by omega) (h Hc locs ls' hR (hl.st2 (v := .long _) h')))
theorem gs_lstore {i : Nat} (hd : decode cc k = .ok (.lstore i, 2)) (hn : i + 1 < nL) (hz : z k ≤ z (k + 2)) : gOk EX inf cl U SS d TH cc nL own rt z mc k (gi_lstore (k + 2) i) := by
  refine ⟨gm_lstore, ?_⟩
  intro p l e R s m args below meth c D cA ad n A Q X Qf hC hE hN L st H h Hc locs ls hR hl
  rcases st with _ | ⟨v, st⟩
  · exact h.elim
  · cases v <;> try exact h.elim
    exact lv_lstore hC.1 hC.2.1 hd hl.list hn rfl (fun ls' h' => W.widen hz (by omega) (h Hc locs ls' hR (hl.st2 (v := .long _) h')))
theorem gs_iinc {i : Nat} {a : Int} {x : Int32} (hd : decode cc k = .ok (.iinc i a, 3)) (hx : Int32.ofInt a = x) (hn : i < nL) (hz : z k ≤ z (k + 3)) : gOk EX inf cl U SS d TH cc nL own rt z mc k (gi_iinc (k + 3) i x) := by
  subst hx
  refine ⟨gm_iinc, ?_⟩
  intro p l e R s m args below meth c D cA ad n A Q X Qf hC hE hN L st H h Hc locs ls hR hl
  unfold gi_iinc at h
  rcases hv : gl L i with _ | v
  · rw [hv] at h; exact h.elim
  · rw [hv] at h
    cases v <;> try exact h.elim
    obtain ⟨q, hq⟩ := List.getElem?_of_mem (gll_mem (ad := ad) (hl.lt hv) hv)
    exact lv_iinc hC.1 hC.2.1 hd hl.list hq rfl hn rfl (fun ls' h' => W.widen hz (by omega) (h Hc locs ls' hR (hl.st1 (v := .int _) h')))
end GKR
