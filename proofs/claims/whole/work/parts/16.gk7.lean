/-! ===== GK 7: a callee's facts, bundled ===== -/
def gCeeV (inf : Nat → gInf) (cl : List vw_C) (U : List Cond) (M : Nat) (y : MethodName) (ci np zM : Nat) : Prop :=
  ∃ (cM : ByteArray) (nM : Nat) (rM : Option FieldType) (T0 : u_T) (N : Nat), inf M = (y, cM, nM, rM, zM, []) ∧ cl[ci]? = some (y.cls, T0, N) ∧ Cond.instanceMethod y ∈ U ∧ Cond.selects y.cls y y ∈ U ∧ Cond.initialized y.cls ∈ U ∧ Cond.code y cM nM rM ∈ U ∧
    (y.cls ≠ "java/lang/invoke/MethodHandle" ∧ y.cls ≠ "java/lang/invoke/VarHandle" ∧ (parseMethodDescriptor y.desc).map (fun d => d.parameters.length) = some np) ∧ nM ≤ 45
def gCeeS (inf : Nat → gInf) (U : List Cond) (M : Nat) (y : MethodName) (na zM : Nat) : Prop :=
  ∃ (cM : ByteArray) (nM : Nat) (rM : Option FieldType), inf M = (y, cM, nM, rM, zM, []) ∧ Cond.static y ∈ U ∧ Cond.initialized y.cls ∈ U ∧ Cond.code y cM nM rM ∈ U ∧
    (y.cls ≠ "java/lang/invoke/MethodHandle" ∧ y.cls ≠ "java/lang/invoke/VarHandle" ∧ (parseMethodDescriptor y.desc).map (fun d => d.parameters.length) = some na) ∧ nM ≤ 45
section GKB
variable {EX : gEX} {inf : Nat → gInf} {cl : List vw_C} {U : List Cond} {SS : Nat → gS} {d : Nat} {TH : Nat → String → Prop} {cc : ByteArray} {nL : Nat} {own : String} {rt : Option FieldType} {z : Nat → Nat} {mc k : Nat}
theorem gs_cv {M idx ci np zM : Nat} {y : MethodName} (hU : ∀ w ∈ U, goodWord w = true) (hm : ∀ M, gSmono (SS M)) (h : gCeeV inf cl U M y ci np zM) (hlink : Cond.methodLink own idx y ∈ U) (hdec : decode cc k = .ok (.invokevirtual idx, 3)) (hz : z k + zM ≤ z (k + 3)) : gOk EX inf cl U SS d TH cc nL own rt z mc k (gi_callv (SS M) ci (k + 3) (np + 1)) := by
  obtain ⟨cM, nM, rM, T0, N, hi, h1, h2, h3, h4, h5, h6, h7⟩ := h
  exact gs_callv hU (hm M) (by rw [hi]) (by rw [hi]; exact h1) (by rw [hi]; exact hlink) (by rw [hi]; exact h2) (by rw [hi]; exact h3) (by rw [hi]; exact h4) (by rw [hi]; exact h5) (by rw [hi]; exact h6) (by rw [hi]; exact h7) hdec (by rw [hi]; exact hz)
theorem gs_cs {M idx na zM : Nat} {y : MethodName} (hU : ∀ w ∈ U, goodWord w = true) (hm : ∀ M, gSmono (SS M)) (h : gCeeS inf U M y na zM) (hlink : Cond.methodLink own idx y ∈ U) (hdec : decode cc k = .ok (.invokestatic idx, 3)) (hz : z k + zM ≤ z (k + 3)) : gOk EX inf cl U SS d TH cc nL own rt z mc k (gi_calls (SS M) (k + 3) na) := by
  obtain ⟨cM, nM, rM, hi, h2, h4, h5, h6, h7⟩ := h
  exact gs_calls hU (hm M) (by rw [hi]) (by rw [hi]; exact hlink) (by rw [hi]; exact h2) (by rw [hi]; exact h4) (by rw [hi]; exact h5) (by rw [hi]; exact h6) (by rw [hi]; exact h7) hdec (by rw [hi]; exact hz)
end GKB
