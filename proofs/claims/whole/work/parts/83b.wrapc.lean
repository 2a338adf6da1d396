/-! ===== what each wrapper does ===== -/
section LWR
variable {d : Nat} {Q : gQ} {X : gX} {f : Nat → Int64} {P : Nat → Nat} {I A : Nat → Nat → Int32} {P' : Nat → Nat} {I' A' : Nat → Nat → Int32} {s : ST} {r : (Value ⊕ String) × ST}
set_option maxRecDepth 20000 in
theorem wr_state {p0 : Int32} (hc : cCall 99 [.int p0] r s) (hr : cRep s P I A) (h : ∀ P2 I2 A2, cRep r.2 P2 I2 A2 → wQ [("java/lang/IllegalArgumentException", 1)] cvI Q f (fun g => lW g P2 I2 A2 P' I' A') r.1) : ssL (d + 60) 258 [.ref 0, .int p0, .ref 81] (lW f P I A P' I' A') Q X := by
  have hm : ∀ k, gMono (gTab (tw_state (ssM (d + 60))) k) := tw_mono (M := 258) (by decide) (by decide) (d + 60)
  refine Or.inr ⟨by decide, by decide, Nat.le_of_ble_eq_true rfl, ?_⟩
  show gWp (gTab (tw_state (ssM (d + 60)))) Q (fun _ _ => False) 0 [some (.ref 0), some (.int p0), some (.ref 81), none] [] (lW f P I A P' I' A')
  refine x_aload hm (show gTab (tw_state (ssM (d + 60))) 0 = gi_aload 1 2 from rfl) rfl (x_st hm (show gTab (tw_state (ssM (d + 60))) 1 = gi_st 2 (gf_push (.int 0)) from rfl) rfl (x_aload hm (show gTab (tw_state (ssM (d + 60))) 2 = gi_aload 3 0 from rfl) rfl (x_iload hm (show gTab (tw_state (ssM (d + 60))) 3 = gi_iload 4 1 from rfl) rfl (x_callvH hm (show gTab (tw_state (ssM (d + 60))) 4 = gi_callvH (ssM (d + 60) 99) 9 7 2 [("java/lang/IllegalArgumentException", 1)] from rfl) (as := .ref 0 :: [.int p0]) (rest := [.int 0, .ref 81]) rfl rfl (Nat.le_of_ble_eq_true rfl) (Nat.le_of_ble_eq_true rfl) lW_r0 ⟨by decide, ?_⟩))))
  refine hc d _ _ _ 0 P I A hr (fun P2 I2 A2 q => ?_)
  have h2 := h P2 I2 A2 q
  cases hv : r.1 with
  | inl v =>
    rw [hv] at h2
    obtain ⟨b, ha, hq⟩ := h2
    cases v <;> try cases ha
    rename_i a
    show gWp (gTab (tw_state (ssM (d + 60)))) Q (fun _ _ => False) 7 [some (.ref 0), some (.int p0), some (.ref 81), none] [.int a, .int 0, .ref 81] (lW f P2 I2 A2 P' I' A')
    exact x_st hm (show gTab (tw_state (ssM (d + 60))) 7 = gi_st 8 gf_i2l from rfl) rfl (x_lastW hm (show gTab (tw_state (ssM (d + 60))) 8 = gi_last 9 from rfl) (x_goto hm (show gTab (tw_state (ssM (d + 60))) 9 = gi_goto 15 from rfl) (x_st hm (show gTab (tw_state (ssM (d + 60))) 15 = gi_st 16 (gf_push (.int 0)) from rfl) rfl (x_iret hm (show gTab (tw_state (ssM (d + 60))) 16 = gi_iret from rfl) hq))))
  | inr E =>
    rw [hv] at h2
    exact h2
set_option maxRecDepth 20000 in
theorem wr_law {p0 : Int32} (hc : cCall 100 [.int p0] r s) (hr : cRep s P I A) (h : ∀ P2 I2 A2, cRep r.2 P2 I2 A2 → wQ [("java/lang/IllegalArgumentException", 1)] cvI Q f (fun g => lW g P2 I2 A2 P' I' A') r.1) : ssL (d + 60) 259 [.ref 0, .int p0, .ref 81] (lW f P I A P' I' A') Q X := by
  have hm : ∀ k, gMono (gTab (tw_law (ssM (d + 60))) k) := tw_mono (M := 259) (by decide) (by decide) (d + 60)
  refine Or.inr ⟨by decide, by decide, Nat.le_of_ble_eq_true rfl, ?_⟩
  show gWp (gTab (tw_law (ssM (d + 60)))) Q (fun _ _ => False) 0 [some (.ref 0), some (.int p0), some (.ref 81), none] [] (lW f P I A P' I' A')
  refine x_aload hm (show gTab (tw_law (ssM (d + 60))) 0 = gi_aload 1 2 from rfl) rfl (x_st hm (show gTab (tw_law (ssM (d + 60))) 1 = gi_st 2 (gf_push (.int 0)) from rfl) rfl (x_aload hm (show gTab (tw_law (ssM (d + 60))) 2 = gi_aload 3 0 from rfl) rfl (x_iload hm (show gTab (tw_law (ssM (d + 60))) 3 = gi_iload 4 1 from rfl) rfl (x_callvH hm (show gTab (tw_law (ssM (d + 60))) 4 = gi_callvH (ssM (d + 60) 100) 9 7 2 [("java/lang/IllegalArgumentException", 1)] from rfl) (as := .ref 0 :: [.int p0]) (rest := [.int 0, .ref 81]) rfl rfl (Nat.le_of_ble_eq_true rfl) (Nat.le_of_ble_eq_true rfl) lW_r0 ⟨by decide, ?_⟩))))
  refine hc d _ _ _ 0 P I A hr (fun P2 I2 A2 q => ?_)
  have h2 := h P2 I2 A2 q
  cases hv : r.1 with
  | inl v =>
    rw [hv] at h2
    obtain ⟨b, ha, hq⟩ := h2
    cases v <;> try cases ha
    rename_i a
    show gWp (gTab (tw_law (ssM (d + 60)))) Q (fun _ _ => False) 7 [some (.ref 0), some (.int p0), some (.ref 81), none] [.int a, .int 0, .ref 81] (lW f P2 I2 A2 P' I' A')
    exact x_st hm (show gTab (tw_law (ssM (d + 60))) 7 = gi_st 8 gf_i2l from rfl) rfl (x_lastW hm (show gTab (tw_law (ssM (d + 60))) 8 = gi_last 9 from rfl) (x_goto hm (show gTab (tw_law (ssM (d + 60))) 9 = gi_goto 15 from rfl) (x_st hm (show gTab (tw_law (ssM (d + 60))) 15 = gi_st 16 (gf_push (.int 0)) from rfl) rfl (x_iret hm (show gTab (tw_law (ssM (d + 60))) 16 = gi_iret from rfl) hq))))
  | inr E =>
    rw [hv] at h2
    exact h2
set_option maxRecDepth 20000 in
theorem wr_work {p0 : Int32} (hc : cCall 101 [.int p0] r s) (hr : cRep s P I A) (h : ∀ P2 I2 A2, cRep r.2 P2 I2 A2 → wQ [("java/lang/IllegalArgumentException", 1)] cvI Q f (fun g => lW g P2 I2 A2 P' I' A') r.1) : ssL (d + 60) 260 [.ref 0, .int p0, .ref 81] (lW f P I A P' I' A') Q X := by
  have hm : ∀ k, gMono (gTab (tw_work (ssM (d + 60))) k) := tw_mono (M := 260) (by decide) (by decide) (d + 60)
  refine Or.inr ⟨by decide, by decide, Nat.le_of_ble_eq_true rfl, ?_⟩
  show gWp (gTab (tw_work (ssM (d + 60)))) Q (fun _ _ => False) 0 [some (.ref 0), some (.int p0), some (.ref 81), none] [] (lW f P I A P' I' A')
  refine x_aload hm (show gTab (tw_work (ssM (d + 60))) 0 = gi_aload 1 2 from rfl) rfl (x_st hm (show gTab (tw_work (ssM (d + 60))) 1 = gi_st 2 (gf_push (.int 0)) from rfl) rfl (x_aload hm (show gTab (tw_work (ssM (d + 60))) 2 = gi_aload 3 0 from rfl) rfl (x_iload hm (show gTab (tw_work (ssM (d + 60))) 3 = gi_iload 4 1 from rfl) rfl (x_callvH hm (show gTab (tw_work (ssM (d + 60))) 4 = gi_callvH (ssM (d + 60) 101) 9 7 2 [("java/lang/IllegalArgumentException", 1)] from rfl) (as := .ref 0 :: [.int p0]) (rest := [.int 0, .ref 81]) rfl rfl (Nat.le_of_ble_eq_true rfl) (Nat.le_of_ble_eq_true rfl) lW_r0 ⟨by decide, ?_⟩))))
  refine hc d _ _ _ 0 P I A hr (fun P2 I2 A2 q => ?_)
  have h2 := h P2 I2 A2 q
  cases hv : r.1 with
  | inl v =>
    rw [hv] at h2
    obtain ⟨b, ha, hq⟩ := h2
    cases v <;> try cases ha
    rename_i a
    show gWp (gTab (tw_work (ssM (d + 60)))) Q (fun _ _ => False) 7 [some (.ref 0), some (.int p0), some (.ref 81), none] [.int a, .int 0, .ref 81] (lW f P2 I2 A2 P' I' A')
    exact x_st hm (show gTab (tw_work (ssM (d + 60))) 7 = gi_st 8 gf_i2l from rfl) rfl (x_lastW hm (show gTab (tw_work (ssM (d + 60))) 8 = gi_last 9 from rfl) (x_goto hm (show gTab (tw_work (ssM (d + 60))) 9 = gi_goto 15 from rfl) (x_st hm (show gTab (tw_work (ssM (d + 60))) 15 = gi_st 16 (gf_push (.int 0)) from rfl) rfl (x_iret hm (show gTab (tw_work (ssM (d + 60))) 16 = gi_iret from rfl) hq))))
  | inr E =>
    rw [hv] at h2
    exact h2
set_option maxRecDepth 20000 in
theorem wr_book {p0 : Int32} (hc : cCall 102 [.int p0] r s) (hr : cRep s P I A) (h : ∀ P2 I2 A2, cRep r.2 P2 I2 A2 → wQ [("java/lang/IllegalArgumentException", 1)] cvI Q f (fun g => lW g P2 I2 A2 P' I' A') r.1) : ssL (d + 60) 261 [.ref 0, .int p0, .ref 81] (lW f P I A P' I' A') Q X := by
  have hm : ∀ k, gMono (gTab (tw_book (ssM (d + 60))) k) := tw_mono (M := 261) (by decide) (by decide) (d + 60)
  refine Or.inr ⟨by decide, by decide, Nat.le_of_ble_eq_true rfl, ?_⟩
  show gWp (gTab (tw_book (ssM (d + 60)))) Q (fun _ _ => False) 0 [some (.ref 0), some (.int p0), some (.ref 81), none] [] (lW f P I A P' I' A')
  refine x_aload hm (show gTab (tw_book (ssM (d + 60))) 0 = gi_aload 1 2 from rfl) rfl (x_st hm (show gTab (tw_book (ssM (d + 60))) 1 = gi_st 2 (gf_push (.int 0)) from rfl) rfl (x_aload hm (show gTab (tw_book (ssM (d + 60))) 2 = gi_aload 3 0 from rfl) rfl (x_iload hm (show gTab (tw_book (ssM (d + 60))) 3 = gi_iload 4 1 from rfl) rfl (x_callvH hm (show gTab (tw_book (ssM (d + 60))) 4 = gi_callvH (ssM (d + 60) 102) 9 7 2 [("java/lang/IllegalArgumentException", 1)] from rfl) (as := .ref 0 :: [.int p0]) (rest := [.int 0, .ref 81]) rfl rfl (Nat.le_of_ble_eq_true rfl) (Nat.le_of_ble_eq_true rfl) lW_r0 ⟨by decide, ?_⟩))))
  refine hc d _ _ _ 0 P I A hr (fun P2 I2 A2 q => ?_)
  have h2 := h P2 I2 A2 q
  cases hv : r.1 with
  | inl v =>
    rw [hv] at h2
    obtain ⟨b, ha, hq⟩ := h2
    cases v <;> try cases ha
    rename_i a
    show gWp (gTab (tw_book (ssM (d + 60)))) Q (fun _ _ => False) 7 [some (.ref 0), some (.int p0), some (.ref 81), none] [.int a, .int 0, .ref 81] (lW f P2 I2 A2 P' I' A')
    exact x_st hm (show gTab (tw_book (ssM (d + 60))) 7 = gi_st 8 gf_i2l from rfl) rfl (x_lastW hm (show gTab (tw_book (ssM (d + 60))) 8 = gi_last 9 from rfl) (x_goto hm (show gTab (tw_book (ssM (d + 60))) 9 = gi_goto 15 from rfl) (x_st hm (show gTab (tw_book (ssM (d + 60))) 15 = gi_st 16 (gf_push (.int 0)) from rfl) rfl (x_iret hm (show gTab (tw_book (ssM (d + 60))) 16 = gi_iret from rfl) hq))))
  | inr E =>
    rw [hv] at h2
    exact h2
set_option maxRecDepth 20000 in
theorem wr_told {p0 : Int32} (hc : cCall 105 [.int p0] r s) (hr : cRep s P I A) (h : ∀ P2 I2 A2, cRep r.2 P2 I2 A2 → wQ [("java/lang/IllegalArgumentException", 1)] cvI Q f (fun g => lW g P2 I2 A2 P' I' A') r.1) : ssL (d + 60) 262 [.ref 0, .int p0, .ref 81] (lW f P I A P' I' A') Q X := by
  have hm : ∀ k, gMono (gTab (tw_told (ssM (d + 60))) k) := tw_mono (M := 262) (by decide) (by decide) (d + 60)
  refine Or.inr ⟨by decide, by decide, Nat.le_of_ble_eq_true rfl, ?_⟩
  show gWp (gTab (tw_told (ssM (d + 60)))) Q (fun _ _ => False) 0 [some (.ref 0), some (.int p0), some (.ref 81), none] [] (lW f P I A P' I' A')
  refine x_aload hm (show gTab (tw_told (ssM (d + 60))) 0 = gi_aload 1 2 from rfl) rfl (x_st hm (show gTab (tw_told (ssM (d + 60))) 1 = gi_st 2 (gf_push (.int 0)) from rfl) rfl (x_aload hm (show gTab (tw_told (ssM (d + 60))) 2 = gi_aload 3 0 from rfl) rfl (x_iload hm (show gTab (tw_told (ssM (d + 60))) 3 = gi_iload 4 1 from rfl) rfl (x_callvH hm (show gTab (tw_told (ssM (d + 60))) 4 = gi_callvH (ssM (d + 60) 105) 9 7 2 [("java/lang/IllegalArgumentException", 1)] from rfl) (as := .ref 0 :: [.int p0]) (rest := [.int 0, .ref 81]) rfl rfl (Nat.le_of_ble_eq_true rfl) (Nat.le_of_ble_eq_true rfl) lW_r0 ⟨by decide, ?_⟩))))
  refine hc d _ _ _ 0 P I A hr (fun P2 I2 A2 q => ?_)
  have h2 := h P2 I2 A2 q
  cases hv : r.1 with
  | inl v =>
    rw [hv] at h2
    obtain ⟨b, ha, hq⟩ := h2
    cases v <;> try cases ha
    rename_i a
    show gWp (gTab (tw_told (ssM (d + 60)))) Q (fun _ _ => False) 7 [some (.ref 0), some (.int p0), some (.ref 81), none] [.int a, .int 0, .ref 81] (lW f P2 I2 A2 P' I' A')
    exact x_st hm (show gTab (tw_told (ssM (d + 60))) 7 = gi_st 8 gf_i2l from rfl) rfl (x_lastW hm (show gTab (tw_told (ssM (d + 60))) 8 = gi_last 9 from rfl) (x_goto hm (show gTab (tw_told (ssM (d + 60))) 9 = gi_goto 15 from rfl) (x_st hm (show gTab (tw_told (ssM (d + 60))) 15 = gi_st 16 (gf_push (.int 0)) from rfl) rfl (x_iret hm (show gTab (tw_told (ssM (d + 60))) 16 = gi_iret from rfl) hq))))
  | inr E =>
    rw [hv] at h2
    exact h2
set_option maxRecDepth 20000 in
theorem wr_town {p0 p1 : Int32} (hc : cCall 106 [.int p0, .int p1] r s) (hr : cRep s P I A) (h : ∀ P2 I2 A2, cRep r.2 P2 I2 A2 → wQ [("java/util/NoSuchElementException", 1), ("java/lang/IllegalArgumentException", 2)] cvI Q f (fun g => lW g P2 I2 A2 P' I' A') r.1) : ssL (d + 60) 263 [.ref 0, .int p0, .int p1, .ref 81] (lW f P I A P' I' A') Q X := by
  have hm : ∀ k, gMono (gTab (tw_town (ssM (d + 60))) k) := tw_mono (M := 263) (by decide) (by decide) (d + 60)
  refine Or.inr ⟨by decide, by decide, Nat.le_of_ble_eq_true rfl, ?_⟩
  show gWp (gTab (tw_town (ssM (d + 60)))) Q (fun _ _ => False) 0 [some (.ref 0), some (.int p0), some (.int p1), some (.ref 81), none] [] (lW f P I A P' I' A')
  refine x_aload hm (show gTab (tw_town (ssM (d + 60))) 0 = gi_aload 1 3 from rfl) rfl (x_st hm (show gTab (tw_town (ssM (d + 60))) 1 = gi_st 2 (gf_push (.int 0)) from rfl) rfl (x_aload hm (show gTab (tw_town (ssM (d + 60))) 2 = gi_aload 3 0 from rfl) rfl (x_iload hm (show gTab (tw_town (ssM (d + 60))) 3 = gi_iload 4 1 from rfl) rfl (x_iload hm (show gTab (tw_town (ssM (d + 60))) 4 = gi_iload 5 2 from rfl) rfl (x_callvH hm (show gTab (tw_town (ssM (d + 60))) 5 = gi_callvH (ssM (d + 60) 106) 9 8 3 [("java/util/NoSuchElementException", 1), ("java/lang/IllegalArgumentException", 2)] from rfl) (as := .ref 0 :: [.int p0, .int p1]) (rest := [.int 0, .ref 81]) rfl rfl (Nat.le_of_ble_eq_true rfl) (Nat.le_of_ble_eq_true rfl) lW_r0 ⟨by decide, ?_⟩)))))
  refine hc d _ _ _ 0 P I A hr (fun P2 I2 A2 q => ?_)
  have h2 := h P2 I2 A2 q
  cases hv : r.1 with
  | inl v =>
    rw [hv] at h2
    obtain ⟨b, ha, hq⟩ := h2
    cases v <;> try cases ha
    rename_i a
    show gWp (gTab (tw_town (ssM (d + 60)))) Q (fun _ _ => False) 8 [some (.ref 0), some (.int p0), some (.int p1), some (.ref 81), none] [.int a, .int 0, .ref 81] (lW f P2 I2 A2 P' I' A')
    exact x_st hm (show gTab (tw_town (ssM (d + 60))) 8 = gi_st 9 gf_i2l from rfl) rfl (x_lastW hm (show gTab (tw_town (ssM (d + 60))) 9 = gi_last 10 from rfl) (x_goto hm (show gTab (tw_town (ssM (d + 60))) 10 = gi_goto 21 from rfl) (x_st hm (show gTab (tw_town (ssM (d + 60))) 21 = gi_st 22 (gf_push (.int 0)) from rfl) rfl (x_iret hm (show gTab (tw_town (ssM (d + 60))) 22 = gi_iret from rfl) hq))))
  | inr E =>
    rw [hv] at h2
    exact h2
set_option maxRecDepth 20000 in
theorem wr_road {p0 p1 : Int32} (hc : cCall 107 [.int p0, .int p1] r s) (hr : cRep s P I A) (h : ∀ P2 I2 A2, cRep r.2 P2 I2 A2 → wQ [("java/util/NoSuchElementException", 1), ("java/lang/IllegalArgumentException", 2)] cvI Q f (fun g => lW g P2 I2 A2 P' I' A') r.1) : ssL (d + 60) 264 [.ref 0, .int p0, .int p1, .ref 81] (lW f P I A P' I' A') Q X := by
  have hm : ∀ k, gMono (gTab (tw_road (ssM (d + 60))) k) := tw_mono (M := 264) (by decide) (by decide) (d + 60)
  refine Or.inr ⟨by decide, by decide, Nat.le_of_ble_eq_true rfl, ?_⟩
  show gWp (gTab (tw_road (ssM (d + 60)))) Q (fun _ _ => False) 0 [some (.ref 0), some (.int p0), some (.int p1), some (.ref 81), none] [] (lW f P I A P' I' A')
  refine x_aload hm (show gTab (tw_road (ssM (d + 60))) 0 = gi_aload 1 3 from rfl) rfl (x_st hm (show gTab (tw_road (ssM (d + 60))) 1 = gi_st 2 (gf_push (.int 0)) from rfl) rfl (x_aload hm (show gTab (tw_road (ssM (d + 60))) 2 = gi_aload 3 0 from rfl) rfl (x_iload hm (show gTab (tw_road (ssM (d + 60))) 3 = gi_iload 4 1 from rfl) rfl (x_iload hm (show gTab (tw_road (ssM (d + 60))) 4 = gi_iload 5 2 from rfl) rfl (x_callvH hm (show gTab (tw_road (ssM (d + 60))) 5 = gi_callvH (ssM (d + 60) 107) 9 8 3 [("java/util/NoSuchElementException", 1), ("java/lang/IllegalArgumentException", 2)] from rfl) (as := .ref 0 :: [.int p0, .int p1]) (rest := [.int 0, .ref 81]) rfl rfl (Nat.le_of_ble_eq_true rfl) (Nat.le_of_ble_eq_true rfl) lW_r0 ⟨by decide, ?_⟩)))))
  refine hc d _ _ _ 0 P I A hr (fun P2 I2 A2 q => ?_)
  have h2 := h P2 I2 A2 q
  cases hv : r.1 with
  | inl v =>
    rw [hv] at h2
    obtain ⟨b, ha, hq⟩ := h2
    cases v <;> try cases ha
    rename_i a
    show gWp (gTab (tw_road (ssM (d + 60)))) Q (fun _ _ => False) 8 [some (.ref 0), some (.int p0), some (.int p1), some (.ref 81), none] [.int a, .int 0, .ref 81] (lW f P2 I2 A2 P' I' A')
    exact x_st hm (show gTab (tw_road (ssM (d + 60))) 8 = gi_st 9 gf_i2l from rfl) rfl (x_lastW hm (show gTab (tw_road (ssM (d + 60))) 9 = gi_last 10 from rfl) (x_goto hm (show gTab (tw_road (ssM (d + 60))) 10 = gi_goto 21 from rfl) (x_st hm (show gTab (tw_road (ssM (d + 60))) 21 = gi_st 22 (gf_push (.int 0)) from rfl) rfl (x_iret hm (show gTab (tw_road (ssM (d + 60))) 22 = gi_iret from rfl) hq))))
  | inr E =>
    rw [hv] at h2
    exact h2
set_option maxRecDepth 20000 in
theorem wr_seats {p0 : Int32} (hc : cCall 108 [.int p0] r s) (hr : cRep s P I A) (h : ∀ P2 I2 A2, cRep r.2 P2 I2 A2 → wQ [("java/lang/IllegalArgumentException", 1)] cvI Q f (fun g => lW g P2 I2 A2 P' I' A') r.1) : ssL (d + 60) 265 [.ref 0, .int p0, .ref 81] (lW f P I A P' I' A') Q X := by
  have hm : ∀ k, gMono (gTab (tw_seats (ssM (d + 60))) k) := tw_mono (M := 265) (by decide) (by decide) (d + 60)
  refine Or.inr ⟨by decide, by decide, Nat.le_of_ble_eq_true rfl, ?_⟩
  show gWp (gTab (tw_seats (ssM (d + 60)))) Q (fun _ _ => False) 0 [some (.ref 0), some (.int p0), some (.ref 81), none] [] (lW f P I A P' I' A')
  refine x_aload hm (show gTab (tw_seats (ssM (d + 60))) 0 = gi_aload 1 2 from rfl) rfl (x_st hm (show gTab (tw_seats (ssM (d + 60))) 1 = gi_st 2 (gf_push (.int 0)) from rfl) rfl (x_aload hm (show gTab (tw_seats (ssM (d + 60))) 2 = gi_aload 3 0 from rfl) rfl (x_iload hm (show gTab (tw_seats (ssM (d + 60))) 3 = gi_iload 4 1 from rfl) rfl (x_callvH hm (show gTab (tw_seats (ssM (d + 60))) 4 = gi_callvH (ssM (d + 60) 108) 9 7 2 [("java/lang/IllegalArgumentException", 1)] from rfl) (as := .ref 0 :: [.int p0]) (rest := [.int 0, .ref 81]) rfl rfl (Nat.le_of_ble_eq_true rfl) (Nat.le_of_ble_eq_true rfl) lW_r0 ⟨by decide, ?_⟩))))
  refine hc d _ _ _ 0 P I A hr (fun P2 I2 A2 q => ?_)
  have h2 := h P2 I2 A2 q
  cases hv : r.1 with
  | inl v =>
    rw [hv] at h2
    obtain ⟨b, ha, hq⟩ := h2
    cases v <;> try cases ha
    rename_i a
    show gWp (gTab (tw_seats (ssM (d + 60)))) Q (fun _ _ => False) 7 [some (.ref 0), some (.int p0), some (.ref 81), none] [.int a, .int 0, .ref 81] (lW f P2 I2 A2 P' I' A')
    exact x_st hm (show gTab (tw_seats (ssM (d + 60))) 7 = gi_st 8 gf_i2l from rfl) rfl (x_lastW hm (show gTab (tw_seats (ssM (d + 60))) 8 = gi_last 9 from rfl) (x_goto hm (show gTab (tw_seats (ssM (d + 60))) 9 = gi_goto 15 from rfl) (x_st hm (show gTab (tw_seats (ssM (d + 60))) 15 = gi_st 16 (gf_push (.int 0)) from rfl) rfl (x_iret hm (show gTab (tw_seats (ssM (d + 60))) 16 = gi_iret from rfl) hq))))
  | inr E =>
    rw [hv] at h2
    exact h2
set_option maxRecDepth 20000 in
theorem wr_would {p0 p1 p2 p3 p4 p5 p6 p7 p8 p9 : Int32} (hc : cCall 109 [.int p0, .int p1, .int p2, .int p3, .int p4, .int p5, .int p6, .int p7, .int p8, .int p9] r s) (hr : cRep s P I A) (h : ∀ P2 I2 A2, cRep r.2 P2 I2 A2 → wQ [("java/lang/IllegalArgumentException", 1)] cvI Q f (fun g => lW g P2 I2 A2 P' I' A') r.1) : ssL (d + 60) 266 [.ref 0, .int p0, .int p1, .int p2, .int p3, .int p4, .int p5, .int p6, .int p7, .int p8, .int p9, .ref 81] (lW f P I A P' I' A') Q X := by
  have hm : ∀ k, gMono (gTab (tw_would (ssM (d + 60))) k) := tw_mono (M := 266) (by decide) (by decide) (d + 60)
  refine Or.inr ⟨by decide, by decide, Nat.le_of_ble_eq_true rfl, ?_⟩
  show gWp (gTab (tw_would (ssM (d + 60)))) Q (fun _ _ => False) 0 [some (.ref 0), some (.int p0), some (.int p1), some (.int p2), some (.int p3), some (.int p4), some (.int p5), some (.int p6), some (.int p7), some (.int p8), some (.int p9), some (.ref 81), none] [] (lW f P I A P' I' A')
  refine x_aload hm (show gTab (tw_would (ssM (d + 60))) 0 = gi_aload 2 11 from rfl) rfl (x_st hm (show gTab (tw_would (ssM (d + 60))) 2 = gi_st 3 (gf_push (.int 0)) from rfl) rfl (x_aload hm (show gTab (tw_would (ssM (d + 60))) 3 = gi_aload 4 0 from rfl) rfl (x_iload hm (show gTab (tw_would (ssM (d + 60))) 4 = gi_iload 5 1 from rfl) rfl (x_iload hm (show gTab (tw_would (ssM (d + 60))) 5 = gi_iload 6 2 from rfl) rfl (x_iload hm (show gTab (tw_would (ssM (d + 60))) 6 = gi_iload 7 3 from rfl) rfl (x_iload hm (show gTab (tw_would (ssM (d + 60))) 7 = gi_iload 9 4 from rfl) rfl (x_iload hm (show gTab (tw_would (ssM (d + 60))) 9 = gi_iload 11 5 from rfl) rfl (x_iload hm (show gTab (tw_would (ssM (d + 60))) 11 = gi_iload 13 6 from rfl) rfl (x_iload hm (show gTab (tw_would (ssM (d + 60))) 13 = gi_iload 15 7 from rfl) rfl (x_iload hm (show gTab (tw_would (ssM (d + 60))) 15 = gi_iload 17 8 from rfl) rfl (x_iload hm (show gTab (tw_would (ssM (d + 60))) 17 = gi_iload 19 9 from rfl) rfl (x_iload hm (show gTab (tw_would (ssM (d + 60))) 19 = gi_iload 21 10 from rfl) rfl (x_callvH hm (show gTab (tw_would (ssM (d + 60))) 21 = gi_callvH (ssM (d + 60) 109) 9 24 11 [("java/lang/IllegalArgumentException", 1)] from rfl) (as := .ref 0 :: [.int p0, .int p1, .int p2, .int p3, .int p4, .int p5, .int p6, .int p7, .int p8, .int p9]) (rest := [.int 0, .ref 81]) rfl rfl (Nat.le_of_ble_eq_true rfl) (Nat.le_of_ble_eq_true rfl) lW_r0 ⟨by decide, ?_⟩)))))))))))))
  refine hc d _ _ _ 0 P I A hr (fun P2 I2 A2 q => ?_)
  have h2 := h P2 I2 A2 q
  cases hv : r.1 with
  | inl v =>
    rw [hv] at h2
    obtain ⟨b, ha, hq⟩ := h2
    cases v <;> try cases ha
    rename_i a
    show gWp (gTab (tw_would (ssM (d + 60)))) Q (fun _ _ => False) 24 [some (.ref 0), some (.int p0), some (.int p1), some (.int p2), some (.int p3), some (.int p4), some (.int p5), some (.int p6), some (.int p7), some (.int p8), some (.int p9), some (.ref 81), none] [.int a, .int 0, .ref 81] (lW f P2 I2 A2 P' I' A')
    exact x_st hm (show gTab (tw_would (ssM (d + 60))) 24 = gi_st 25 gf_i2l from rfl) rfl (x_lastW hm (show gTab (tw_would (ssM (d + 60))) 25 = gi_last 26 from rfl) (x_goto hm (show gTab (tw_would (ssM (d + 60))) 26 = gi_goto 33 from rfl) (x_st hm (show gTab (tw_would (ssM (d + 60))) 33 = gi_st 34 (gf_push (.int 0)) from rfl) rfl (x_iret hm (show gTab (tw_would (ssM (d + 60))) 34 = gi_iret from rfl) hq))))
  | inr E =>
    rw [hv] at h2
    exact h2
set_option maxRecDepth 20000 in
theorem wr_can {p0 p1 p2 : Int32} (hc : cCall 110 [.int p0, .int p1, .int p2] r s) (hr : cRep s P I A) (h : ∀ P2 I2 A2, cRep r.2 P2 I2 A2 → wQ [("java/util/NoSuchElementException", 1)] cvZ Q f (fun g => lW g P2 I2 A2 P' I' A') r.1) : ssL (d + 60) 267 [.ref 0, .int p0, .int p1, .int p2, .ref 81] (lW f P I A P' I' A') Q X := by
  have hm : ∀ k, gMono (gTab (tw_can (ssM (d + 60))) k) := tw_mono (M := 267) (by decide) (by decide) (d + 60)
  refine Or.inr ⟨by decide, by decide, Nat.le_of_ble_eq_true rfl, ?_⟩
  show gWp (gTab (tw_can (ssM (d + 60)))) Q (fun _ _ => False) 0 [some (.ref 0), some (.int p0), some (.int p1), some (.int p2), some (.ref 81), none] [] (lW f P I A P' I' A')
  refine x_aload hm (show gTab (tw_can (ssM (d + 60))) 0 = gi_aload 2 4 from rfl) rfl (x_st hm (show gTab (tw_can (ssM (d + 60))) 2 = gi_st 3 (gf_push (.int 0)) from rfl) rfl (x_aload hm (show gTab (tw_can (ssM (d + 60))) 3 = gi_aload 4 0 from rfl) rfl (x_iload hm (show gTab (tw_can (ssM (d + 60))) 4 = gi_iload 5 1 from rfl) rfl (x_iload hm (show gTab (tw_can (ssM (d + 60))) 5 = gi_iload 6 2 from rfl) rfl (x_iload hm (show gTab (tw_can (ssM (d + 60))) 6 = gi_iload 7 3 from rfl) rfl (x_callvH hm (show gTab (tw_can (ssM (d + 60))) 7 = gi_callvH (ssM (d + 60) 110) 9 10 4 [("java/util/NoSuchElementException", 1)] from rfl) (as := .ref 0 :: [.int p0, .int p1, .int p2]) (rest := [.int 0, .ref 81]) rfl rfl (Nat.le_of_ble_eq_true rfl) (Nat.le_of_ble_eq_true rfl) lW_r0 ⟨by decide, ?_⟩))))))
  refine hc d _ _ _ 0 P I A hr (fun P2 I2 A2 q => ?_)
  have h2 := h P2 I2 A2 q
  cases hv : r.1 with
  | inl v =>
    rw [hv] at h2
    obtain ⟨b, ha, hq⟩ := h2
    cases v <;> try cases ha
    rename_i a
    show gWp (gTab (tw_can (ssM (d + 60)))) Q (fun _ _ => False) 10 [some (.ref 0), some (.int p0), some (.int p1), some (.int p2), some (.ref 81), none] [.int a, .int 0, .ref 81] (lW f P2 I2 A2 P' I' A')
    exact x_if hm (show gTab (tw_can (ssM (d + 60))) 10 = gi_if 13 17 (fun x => x = 0) from rfl) (fun q => x_st hm (show gTab (tw_can (ssM (d + 60))) 17 = gi_st 18 (gf_push (.long 0)) from rfl) rfl (x_lastW hm (show gTab (tw_can (ssM (d + 60))) 18 = gi_last 19 from rfl) (x_goto hm (show gTab (tw_can (ssM (d + 60))) 19 = gi_goto 26 from rfl) (x_st hm (show gTab (tw_can (ssM (d + 60))) 26 = gi_st 27 (gf_push (.int 0)) from rfl) rfl (x_iret hm (show gTab (tw_can (ssM (d + 60))) 27 = gi_iret from rfl) (by rw [if_pos q] at hq; exact hq)))))) (fun q => x_st hm (show gTab (tw_can (ssM (d + 60))) 13 = gi_st 14 (gf_push (.long 1)) from rfl) rfl (x_goto hm (show gTab (tw_can (ssM (d + 60))) 14 = gi_goto 18 from rfl) (x_lastW hm (show gTab (tw_can (ssM (d + 60))) 18 = gi_last 19 from rfl) (x_goto hm (show gTab (tw_can (ssM (d + 60))) 19 = gi_goto 26 from rfl) (x_st hm (show gTab (tw_can (ssM (d + 60))) 26 = gi_st 27 (gf_push (.int 0)) from rfl) rfl (x_iret hm (show gTab (tw_can (ssM (d + 60))) 27 = gi_iret from rfl) (by rw [if_neg q] at hq; exact hq)))))))
  | inr E =>
    rw [hv] at h2
    exact h2
set_option maxRecDepth 20000 in
theorem wr_ahead {p0 p1 : Int32} (hc : cCall 117 [.int p0, .int p1] r s) (hr : cRep s P I A) (h : ∀ P2 I2 A2, cRep r.2 P2 I2 A2 → wQ [("java/lang/IllegalArgumentException", 1)] cvI Q f (fun g => lW g P2 I2 A2 P' I' A') r.1) : ssL (d + 60) 268 [.ref 0, .int p0, .int p1, .ref 81] (lW f P I A P' I' A') Q X := by
  have hm : ∀ k, gMono (gTab (tw_ahead (ssM (d + 60))) k) := tw_mono (M := 268) (by decide) (by decide) (d + 60)
  refine Or.inr ⟨by decide, by decide, Nat.le_of_ble_eq_true rfl, ?_⟩
  show gWp (gTab (tw_ahead (ssM (d + 60)))) Q (fun _ _ => False) 0 [some (.ref 0), some (.int p0), some (.int p1), some (.ref 81), none] [] (lW f P I A P' I' A')
  refine x_aload hm (show gTab (tw_ahead (ssM (d + 60))) 0 = gi_aload 1 3 from rfl) rfl (x_st hm (show gTab (tw_ahead (ssM (d + 60))) 1 = gi_st 2 (gf_push (.int 0)) from rfl) rfl (x_aload hm (show gTab (tw_ahead (ssM (d + 60))) 2 = gi_aload 3 0 from rfl) rfl (x_iload hm (show gTab (tw_ahead (ssM (d + 60))) 3 = gi_iload 4 1 from rfl) rfl (x_iload hm (show gTab (tw_ahead (ssM (d + 60))) 4 = gi_iload 5 2 from rfl) rfl (x_callvH hm (show gTab (tw_ahead (ssM (d + 60))) 5 = gi_callvH (ssM (d + 60) 117) 9 8 3 [("java/lang/IllegalArgumentException", 1)] from rfl) (as := .ref 0 :: [.int p0, .int p1]) (rest := [.int 0, .ref 81]) rfl rfl (Nat.le_of_ble_eq_true rfl) (Nat.le_of_ble_eq_true rfl) lW_r0 ⟨by decide, ?_⟩)))))
  refine hc d _ _ _ 0 P I A hr (fun P2 I2 A2 q => ?_)
  have h2 := h P2 I2 A2 q
  cases hv : r.1 with
  | inl v =>
    rw [hv] at h2
    obtain ⟨b, ha, hq⟩ := h2
    cases v <;> try cases ha
    rename_i a
    show gWp (gTab (tw_ahead (ssM (d + 60)))) Q (fun _ _ => False) 8 [some (.ref 0), some (.int p0), some (.int p1), some (.ref 81), none] [.int a, .int 0, .ref 81] (lW f P2 I2 A2 P' I' A')
    exact x_st hm (show gTab (tw_ahead (ssM (d + 60))) 8 = gi_st 9 gf_i2l from rfl) rfl (x_lastW hm (show gTab (tw_ahead (ssM (d + 60))) 9 = gi_last 10 from rfl) (x_goto hm (show gTab (tw_ahead (ssM (d + 60))) 10 = gi_goto 17 from rfl) (x_st hm (show gTab (tw_ahead (ssM (d + 60))) 17 = gi_st 18 (gf_push (.int 0)) from rfl) rfl (x_iret hm (show gTab (tw_ahead (ssM (d + 60))) 18 = gi_iret from rfl) hq))))
  | inr E =>
    rw [hv] at h2
    exact h2
set_option maxRecDepth 20000 in
theorem wr_turn {p0 p1 : Int32} (hc : cCall 121 [.int p0, .int p1] r s) (hr : cRep s P I A) (h : ∀ P2 I2 A2, cRep r.2 P2 I2 A2 → wQ [("java/lang/IllegalArgumentException", 1)] cvI Q f (fun g => lW g P2 I2 A2 P' I' A') r.1) : ssL (d + 60) 269 [.ref 0, .int p0, .int p1, .ref 81] (lW f P I A P' I' A') Q X := by
  have hm : ∀ k, gMono (gTab (tw_turn (ssM (d + 60))) k) := tw_mono (M := 269) (by decide) (by decide) (d + 60)
  refine Or.inr ⟨by decide, by decide, Nat.le_of_ble_eq_true rfl, ?_⟩
  show gWp (gTab (tw_turn (ssM (d + 60)))) Q (fun _ _ => False) 0 [some (.ref 0), some (.int p0), some (.int p1), some (.ref 81), none] [] (lW f P I A P' I' A')
  refine x_aload hm (show gTab (tw_turn (ssM (d + 60))) 0 = gi_aload 1 3 from rfl) rfl (x_st hm (show gTab (tw_turn (ssM (d + 60))) 1 = gi_st 2 (gf_push (.int 0)) from rfl) rfl (x_aload hm (show gTab (tw_turn (ssM (d + 60))) 2 = gi_aload 3 0 from rfl) rfl (x_iload hm (show gTab (tw_turn (ssM (d + 60))) 3 = gi_iload 4 1 from rfl) rfl (x_iload hm (show gTab (tw_turn (ssM (d + 60))) 4 = gi_iload 5 2 from rfl) rfl (x_callvH hm (show gTab (tw_turn (ssM (d + 60))) 5 = gi_callvH (ssM (d + 60) 121) 9 8 3 [("java/lang/IllegalArgumentException", 1)] from rfl) (as := .ref 0 :: [.int p0, .int p1]) (rest := [.int 0, .ref 81]) rfl rfl (Nat.le_of_ble_eq_true rfl) (Nat.le_of_ble_eq_true rfl) lW_r0 ⟨by decide, ?_⟩)))))
  refine hc d _ _ _ 0 P I A hr (fun P2 I2 A2 q => ?_)
  have h2 := h P2 I2 A2 q
  cases hv : r.1 with
  | inl v =>
    rw [hv] at h2
    obtain ⟨b, ha, hq⟩ := h2
    cases v <;> try cases ha
    rename_i a
    show gWp (gTab (tw_turn (ssM (d + 60)))) Q (fun _ _ => False) 8 [some (.ref 0), some (.int p0), some (.int p1), some (.ref 81), none] [.int a, .int 0, .ref 81] (lW f P2 I2 A2 P' I' A')
    exact x_st hm (show gTab (tw_turn (ssM (d + 60))) 8 = gi_st 9 gf_i2l from rfl) rfl (x_lastW hm (show gTab (tw_turn (ssM (d + 60))) 9 = gi_last 10 from rfl) (x_goto hm (show gTab (tw_turn (ssM (d + 60))) 10 = gi_goto 17 from rfl) (x_st hm (show gTab (tw_turn (ssM (d + 60))) 17 = gi_st 18 (gf_push (.int 0)) from rfl) rfl (x_iret hm (show gTab (tw_turn (ssM (d + 60))) 18 = gi_iret from rfl) hq))))
  | inr E =>
    rw [hv] at h2
    exact h2
set_option maxRecDepth 20000 in
theorem wr_swing {p0 : Int32} (hc : cCall 122 [.int p0] r s) (hr : cRep s P I A) (h : ∀ P2 I2 A2, cRep r.2 P2 I2 A2 → wQ [("java/util/NoSuchElementException", 1)] cvI Q f (fun g => lW g P2 I2 A2 P' I' A') r.1) : ssL (d + 60) 270 [.ref 0, .int p0, .ref 81] (lW f P I A P' I' A') Q X := by
  have hm : ∀ k, gMono (gTab (tw_swing (ssM (d + 60))) k) := tw_mono (M := 270) (by decide) (by decide) (d + 60)
  refine Or.inr ⟨by decide, by decide, Nat.le_of_ble_eq_true rfl, ?_⟩
  show gWp (gTab (tw_swing (ssM (d + 60)))) Q (fun _ _ => False) 0 [some (.ref 0), some (.int p0), some (.ref 81), none] [] (lW f P I A P' I' A')
  refine x_aload hm (show gTab (tw_swing (ssM (d + 60))) 0 = gi_aload 1 2 from rfl) rfl (x_st hm (show gTab (tw_swing (ssM (d + 60))) 1 = gi_st 2 (gf_push (.int 0)) from rfl) rfl (x_aload hm (show gTab (tw_swing (ssM (d + 60))) 2 = gi_aload 3 0 from rfl) rfl (x_iload hm (show gTab (tw_swing (ssM (d + 60))) 3 = gi_iload 4 1 from rfl) rfl (x_callvH hm (show gTab (tw_swing (ssM (d + 60))) 4 = gi_callvH (ssM (d + 60) 122) 9 7 2 [("java/util/NoSuchElementException", 1)] from rfl) (as := .ref 0 :: [.int p0]) (rest := [.int 0, .ref 81]) rfl rfl (Nat.le_of_ble_eq_true rfl) (Nat.le_of_ble_eq_true rfl) lW_r0 ⟨by decide, ?_⟩))))
  refine hc d _ _ _ 0 P I A hr (fun P2 I2 A2 q => ?_)
  have h2 := h P2 I2 A2 q
  cases hv : r.1 with
  | inl v =>
    rw [hv] at h2
    obtain ⟨b, ha, hq⟩ := h2
    cases v <;> try cases ha
    rename_i a
    show gWp (gTab (tw_swing (ssM (d + 60)))) Q (fun _ _ => False) 7 [some (.ref 0), some (.int p0), some (.ref 81), none] [.int a, .int 0, .ref 81] (lW f P2 I2 A2 P' I' A')
    exact x_st hm (show gTab (tw_swing (ssM (d + 60))) 7 = gi_st 8 gf_i2l from rfl) rfl (x_lastW hm (show gTab (tw_swing (ssM (d + 60))) 8 = gi_last 9 from rfl) (x_goto hm (show gTab (tw_swing (ssM (d + 60))) 9 = gi_goto 15 from rfl) (x_st hm (show gTab (tw_swing (ssM (d + 60))) 15 = gi_st 16 (gf_push (.int 0)) from rfl) rfl (x_iret hm (show gTab (tw_swing (ssM (d + 60))) 16 = gi_iret from rfl) hq))))
  | inr E =>
    rw [hv] at h2
    exact h2
set_option maxRecDepth 20000 in
theorem wr_given {p0 p1 : Int32} (hc : cCall 123 [.int p0, .int p1] r s) (hr : cRep s P I A) (h : ∀ P2 I2 A2, cRep r.2 P2 I2 A2 → wQ [("java/util/NoSuchElementException", 1), ("java/lang/IllegalArgumentException", 2)] cvI Q f (fun g => lW g P2 I2 A2 P' I' A') r.1) : ssL (d + 60) 271 [.ref 0, .int p0, .int p1, .ref 81] (lW f P I A P' I' A') Q X := by
  have hm : ∀ k, gMono (gTab (tw_given (ssM (d + 60))) k) := tw_mono (M := 271) (by decide) (by decide) (d + 60)
  refine Or.inr ⟨by decide, by decide, Nat.le_of_ble_eq_true rfl, ?_⟩
  show gWp (gTab (tw_given (ssM (d + 60)))) Q (fun _ _ => False) 0 [some (.ref 0), some (.int p0), some (.int p1), some (.ref 81), none] [] (lW f P I A P' I' A')
  refine x_aload hm (show gTab (tw_given (ssM (d + 60))) 0 = gi_aload 1 3 from rfl) rfl (x_st hm (show gTab (tw_given (ssM (d + 60))) 1 = gi_st 2 (gf_push (.int 0)) from rfl) rfl (x_aload hm (show gTab (tw_given (ssM (d + 60))) 2 = gi_aload 3 0 from rfl) rfl (x_iload hm (show gTab (tw_given (ssM (d + 60))) 3 = gi_iload 4 1 from rfl) rfl (x_iload hm (show gTab (tw_given (ssM (d + 60))) 4 = gi_iload 5 2 from rfl) rfl (x_callvH hm (show gTab (tw_given (ssM (d + 60))) 5 = gi_callvH (ssM (d + 60) 123) 9 8 3 [("java/util/NoSuchElementException", 1), ("java/lang/IllegalArgumentException", 2)] from rfl) (as := .ref 0 :: [.int p0, .int p1]) (rest := [.int 0, .ref 81]) rfl rfl (Nat.le_of_ble_eq_true rfl) (Nat.le_of_ble_eq_true rfl) lW_r0 ⟨by decide, ?_⟩)))))
  refine hc d _ _ _ 0 P I A hr (fun P2 I2 A2 q => ?_)
  have h2 := h P2 I2 A2 q
  cases hv : r.1 with
  | inl v =>
    rw [hv] at h2
    obtain ⟨b, ha, hq⟩ := h2
    cases v <;> try cases ha
    rename_i a
    show gWp (gTab (tw_given (ssM (d + 60)))) Q (fun _ _ => False) 8 [some (.ref 0), some (.int p0), some (.int p1), some (.ref 81), none] [.int a, .int 0, .ref 81] (lW f P2 I2 A2 P' I' A')
    exact x_st hm (show gTab (tw_given (ssM (d + 60))) 8 = gi_st 9 gf_i2l from rfl) rfl (x_lastW hm (show gTab (tw_given (ssM (d + 60))) 9 = gi_last 10 from rfl) (x_goto hm (show gTab (tw_given (ssM (d + 60))) 10 = gi_goto 21 from rfl) (x_st hm (show gTab (tw_given (ssM (d + 60))) 21 = gi_st 22 (gf_push (.int 0)) from rfl) rfl (x_iret hm (show gTab (tw_given (ssM (d + 60))) 22 = gi_iret from rfl) hq))))
  | inr E =>
    rw [hv] at h2
    exact h2
set_option maxRecDepth 20000 in
theorem wr_league {p0 : Int32} (hc : cCall 124 [.int p0] r s) (hr : cRep s P I A) (h : ∀ P2 I2 A2, cRep r.2 P2 I2 A2 → wQ [("java/lang/IllegalArgumentException", 1)] cvI Q f (fun g => lW g P2 I2 A2 P' I' A') r.1) : ssL (d + 60) 272 [.ref 0, .int p0, .ref 81] (lW f P I A P' I' A') Q X := by
  have hm : ∀ k, gMono (gTab (tw_league (ssM (d + 60))) k) := tw_mono (M := 272) (by decide) (by decide) (d + 60)
  refine Or.inr ⟨by decide, by decide, Nat.le_of_ble_eq_true rfl, ?_⟩
  show gWp (gTab (tw_league (ssM (d + 60)))) Q (fun _ _ => False) 0 [some (.ref 0), some (.int p0), some (.ref 81), none] [] (lW f P I A P' I' A')
  refine x_aload hm (show gTab (tw_league (ssM (d + 60))) 0 = gi_aload 1 2 from rfl) rfl (x_st hm (show gTab (tw_league (ssM (d + 60))) 1 = gi_st 2 (gf_push (.int 0)) from rfl) rfl (x_aload hm (show gTab (tw_league (ssM (d + 60))) 2 = gi_aload 3 0 from rfl) rfl (x_iload hm (show gTab (tw_league (ssM (d + 60))) 3 = gi_iload 4 1 from rfl) rfl (x_callvH hm (show gTab (tw_league (ssM (d + 60))) 4 = gi_callvH (ssM (d + 60) 124) 9 7 2 [("java/lang/IllegalArgumentException", 1)] from rfl) (as := .ref 0 :: [.int p0]) (rest := [.int 0, .ref 81]) rfl rfl (Nat.le_of_ble_eq_true rfl) (Nat.le_of_ble_eq_true rfl) lW_r0 ⟨by decide, ?_⟩))))
  refine hc d _ _ _ 0 P I A hr (fun P2 I2 A2 q => ?_)
  have h2 := h P2 I2 A2 q
  cases hv : r.1 with
  | inl v =>
    rw [hv] at h2
    obtain ⟨b, ha, hq⟩ := h2
    cases v <;> try cases ha
    rename_i a
    show gWp (gTab (tw_league (ssM (d + 60)))) Q (fun _ _ => False) 7 [some (.ref 0), some (.int p0), some (.ref 81), none] [.int a, .int 0, .ref 81] (lW f P2 I2 A2 P' I' A')
    exact x_st hm (show gTab (tw_league (ssM (d + 60))) 7 = gi_st 8 gf_i2l from rfl) rfl (x_lastW hm (show gTab (tw_league (ssM (d + 60))) 8 = gi_last 9 from rfl) (x_goto hm (show gTab (tw_league (ssM (d + 60))) 9 = gi_goto 15 from rfl) (x_st hm (show gTab (tw_league (ssM (d + 60))) 15 = gi_st 16 (gf_push (.int 0)) from rfl) rfl (x_iret hm (show gTab (tw_league (ssM (d + 60))) 16 = gi_iret from rfl) hq))))
  | inr E =>
    rw [hv] at h2
    exact h2
set_option maxRecDepth 20000 in
theorem wr_drift {p0 : Int32} (hc : cCall 127 [.int p0] r s) (hr : cRep s P I A) (h : ∀ P2 I2 A2, cRep r.2 P2 I2 A2 → wQ [("java/lang/IllegalArgumentException", 1)] cvI Q f (fun g => lW g P2 I2 A2 P' I' A') r.1) : ssL (d + 60) 273 [.ref 0, .int p0, .ref 81] (lW f P I A P' I' A') Q X := by
  have hm : ∀ k, gMono (gTab (tw_drift (ssM (d + 60))) k) := tw_mono (M := 273) (by decide) (by decide) (d + 60)
  refine Or.inr ⟨by decide, by decide, Nat.le_of_ble_eq_true rfl, ?_⟩
  show gWp (gTab (tw_drift (ssM (d + 60)))) Q (fun _ _ => False) 0 [some (.ref 0), some (.int p0), some (.ref 81), none] [] (lW f P I A P' I' A')
  refine x_aload hm (show gTab (tw_drift (ssM (d + 60))) 0 = gi_aload 1 2 from rfl) rfl (x_st hm (show gTab (tw_drift (ssM (d + 60))) 1 = gi_st 2 (gf_push (.int 0)) from rfl) rfl (x_aload hm (show gTab (tw_drift (ssM (d + 60))) 2 = gi_aload 3 0 from rfl) rfl (x_iload hm (show gTab (tw_drift (ssM (d + 60))) 3 = gi_iload 4 1 from rfl) rfl (x_callvH hm (show gTab (tw_drift (ssM (d + 60))) 4 = gi_callvH (ssM (d + 60) 127) 9 7 2 [("java/lang/IllegalArgumentException", 1)] from rfl) (as := .ref 0 :: [.int p0]) (rest := [.int 0, .ref 81]) rfl rfl (Nat.le_of_ble_eq_true rfl) (Nat.le_of_ble_eq_true rfl) lW_r0 ⟨by decide, ?_⟩))))
  refine hc d _ _ _ 0 P I A hr (fun P2 I2 A2 q => ?_)
  have h2 := h P2 I2 A2 q
  cases hv : r.1 with
  | inl v =>
    rw [hv] at h2
    obtain ⟨b, ha, hq⟩ := h2
    cases v <;> try cases ha
    rename_i a
    show gWp (gTab (tw_drift (ssM (d + 60)))) Q (fun _ _ => False) 7 [some (.ref 0), some (.int p0), some (.ref 81), none] [.int a, .int 0, .ref 81] (lW f P2 I2 A2 P' I' A')
    exact x_st hm (show gTab (tw_drift (ssM (d + 60))) 7 = gi_st 8 gf_i2l from rfl) rfl (x_lastW hm (show gTab (tw_drift (ssM (d + 60))) 8 = gi_last 9 from rfl) (x_goto hm (show gTab (tw_drift (ssM (d + 60))) 9 = gi_goto 15 from rfl) (x_st hm (show gTab (tw_drift (ssM (d + 60))) 15 = gi_st 16 (gf_push (.int 0)) from rfl) rfl (x_iret hm (show gTab (tw_drift (ssM (d + 60))) 16 = gi_iret from rfl) hq))))
  | inr E =>
    rw [hv] at h2
    exact h2
set_option maxRecDepth 20000 in
theorem wr_look {p0 : Int32} (hc : cCall 128 [.int p0] r s) (hr : cRep s P I A) (h : ∀ P2 I2 A2, cRep r.2 P2 I2 A2 → wQ [("java/lang/IllegalArgumentException", 1)] cvI Q f (fun g => lW g P2 I2 A2 P' I' A') r.1) : ssL (d + 60) 274 [.ref 0, .int p0, .ref 81] (lW f P I A P' I' A') Q X := by
  have hm : ∀ k, gMono (gTab (tw_look (ssM (d + 60))) k) := tw_mono (M := 274) (by decide) (by decide) (d + 60)
  refine Or.inr ⟨by decide, by decide, Nat.le_of_ble_eq_true rfl, ?_⟩
  show gWp (gTab (tw_look (ssM (d + 60)))) Q (fun _ _ => False) 0 [some (.ref 0), some (.int p0), some (.ref 81), none] [] (lW f P I A P' I' A')
  refine x_aload hm (show gTab (tw_look (ssM (d + 60))) 0 = gi_aload 1 2 from rfl) rfl (x_st hm (show gTab (tw_look (ssM (d + 60))) 1 = gi_st 2 (gf_push (.int 0)) from rfl) rfl (x_aload hm (show gTab (tw_look (ssM (d + 60))) 2 = gi_aload 3 0 from rfl) rfl (x_iload hm (show gTab (tw_look (ssM (d + 60))) 3 = gi_iload 4 1 from rfl) rfl (x_callvH hm (show gTab (tw_look (ssM (d + 60))) 4 = gi_callvH (ssM (d + 60) 128) 9 7 2 [("java/lang/IllegalArgumentException", 1)] from rfl) (as := .ref 0 :: [.int p0]) (rest := [.int 0, .ref 81]) rfl rfl (Nat.le_of_ble_eq_true rfl) (Nat.le_of_ble_eq_true rfl) lW_r0 ⟨by decide, ?_⟩))))
  refine hc d _ _ _ 0 P I A hr (fun P2 I2 A2 q => ?_)
  have h2 := h P2 I2 A2 q
  cases hv : r.1 with
  | inl v =>
    rw [hv] at h2
    obtain ⟨b, ha, hq⟩ := h2
    cases v <;> try cases ha
    rename_i a
    show gWp (gTab (tw_look (ssM (d + 60)))) Q (fun _ _ => False) 7 [some (.ref 0), some (.int p0), some (.ref 81), none] [.int a, .int 0, .ref 81] (lW f P2 I2 A2 P' I' A')
    exact x_st hm (show gTab (tw_look (ssM (d + 60))) 7 = gi_st 8 gf_i2l from rfl) rfl (x_lastW hm (show gTab (tw_look (ssM (d + 60))) 8 = gi_last 9 from rfl) (x_goto hm (show gTab (tw_look (ssM (d + 60))) 9 = gi_goto 15 from rfl) (x_st hm (show gTab (tw_look (ssM (d + 60))) 15 = gi_st 16 (gf_push (.int 0)) from rfl) rfl (x_iret hm (show gTab (tw_look (ssM (d + 60))) 16 = gi_iret from rfl) hq))))
  | inr E =>
    rw [hv] at h2
    exact h2
set_option maxRecDepth 20000 in
theorem wr_commas {p0 p1 p2 : Int32} (hc : cCall 129 [.int p0, .int p1, .int p2] r s) (hr : cRep s P I A) (h : ∀ P2 I2 A2, cRep r.2 P2 I2 A2 → wQ [("java/lang/IllegalArgumentException", 1)] cvI Q f (fun g => lW g P2 I2 A2 P' I' A') r.1) : ssL (d + 60) 275 [.ref 0, .int p0, .int p1, .int p2, .ref 81] (lW f P I A P' I' A') Q X := by
  have hm : ∀ k, gMono (gTab (tw_commas (ssM (d + 60))) k) := tw_mono (M := 275) (by decide) (by decide) (d + 60)
  refine Or.inr ⟨by decide, by decide, Nat.le_of_ble_eq_true rfl, ?_⟩
  show gWp (gTab (tw_commas (ssM (d + 60)))) Q (fun _ _ => False) 0 [some (.ref 0), some (.int p0), some (.int p1), some (.int p2), some (.ref 81), none] [] (lW f P I A P' I' A')
  refine x_aload hm (show gTab (tw_commas (ssM (d + 60))) 0 = gi_aload 2 4 from rfl) rfl (x_st hm (show gTab (tw_commas (ssM (d + 60))) 2 = gi_st 3 (gf_push (.int 0)) from rfl) rfl (x_aload hm (show gTab (tw_commas (ssM (d + 60))) 3 = gi_aload 4 0 from rfl) rfl (x_iload hm (show gTab (tw_commas (ssM (d + 60))) 4 = gi_iload 5 1 from rfl) rfl (x_iload hm (show gTab (tw_commas (ssM (d + 60))) 5 = gi_iload 6 2 from rfl) rfl (x_iload hm (show gTab (tw_commas (ssM (d + 60))) 6 = gi_iload 7 3 from rfl) rfl (x_callvH hm (show gTab (tw_commas (ssM (d + 60))) 7 = gi_callvH (ssM (d + 60) 129) 9 10 4 [("java/lang/IllegalArgumentException", 1)] from rfl) (as := .ref 0 :: [.int p0, .int p1, .int p2]) (rest := [.int 0, .ref 81]) rfl rfl (Nat.le_of_ble_eq_true rfl) (Nat.le_of_ble_eq_true rfl) lW_r0 ⟨by decide, ?_⟩))))))
  refine hc d _ _ _ 0 P I A hr (fun P2 I2 A2 q => ?_)
  have h2 := h P2 I2 A2 q
  cases hv : r.1 with
  | inl v =>
    rw [hv] at h2
    obtain ⟨b, ha, hq⟩ := h2
    cases v <;> try cases ha
    rename_i a
    show gWp (gTab (tw_commas (ssM (d + 60)))) Q (fun _ _ => False) 10 [some (.ref 0), some (.int p0), some (.int p1), some (.int p2), some (.ref 81), none] [.int a, .int 0, .ref 81] (lW f P2 I2 A2 P' I' A')
    exact x_st hm (show gTab (tw_commas (ssM (d + 60))) 10 = gi_st 11 gf_i2l from rfl) rfl (x_lastW hm (show gTab (tw_commas (ssM (d + 60))) 11 = gi_last 12 from rfl) (x_goto hm (show gTab (tw_commas (ssM (d + 60))) 12 = gi_goto 19 from rfl) (x_st hm (show gTab (tw_commas (ssM (d + 60))) 19 = gi_st 20 (gf_push (.int 0)) from rfl) rfl (x_iret hm (show gTab (tw_commas (ssM (d + 60))) 20 = gi_iret from rfl) hq))))
  | inr E =>
    rw [hv] at h2
    exact h2
set_option maxRecDepth 20000 in
theorem wr_odds {p0 p1 p2 : Int32} (hc : cCall 130 [.int p0, .int p1, .int p2] r s) (hr : cRep s P I A) (h : ∀ P2 I2 A2, cRep r.2 P2 I2 A2 → wQ [("java/util/NoSuchElementException", 1), ("java/lang/IllegalArgumentException", 2)] cvL Q f (fun g => lW g P2 I2 A2 P' I' A') r.1) : ssL (d + 60) 276 [.ref 0, .int p0, .int p1, .int p2, .ref 81] (lW f P I A P' I' A') Q X := by
  have hm : ∀ k, gMono (gTab (tw_odds (ssM (d + 60))) k) := tw_mono (M := 276) (by decide) (by decide) (d + 60)
  refine Or.inr ⟨by decide, by decide, Nat.le_of_ble_eq_true rfl, ?_⟩
  show gWp (gTab (tw_odds (ssM (d + 60)))) Q (fun _ _ => False) 0 [some (.ref 0), some (.int p0), some (.int p1), some (.int p2), some (.ref 81), none] [] (lW f P I A P' I' A')
  refine x_aload hm (show gTab (tw_odds (ssM (d + 60))) 0 = gi_aload 2 4 from rfl) rfl (x_st hm (show gTab (tw_odds (ssM (d + 60))) 2 = gi_st 3 (gf_push (.int 0)) from rfl) rfl (x_aload hm (show gTab (tw_odds (ssM (d + 60))) 3 = gi_aload 4 0 from rfl) rfl (x_iload hm (show gTab (tw_odds (ssM (d + 60))) 4 = gi_iload 5 1 from rfl) rfl (x_iload hm (show gTab (tw_odds (ssM (d + 60))) 5 = gi_iload 6 2 from rfl) rfl (x_iload hm (show gTab (tw_odds (ssM (d + 60))) 6 = gi_iload 7 3 from rfl) rfl (x_callvH hm (show gTab (tw_odds (ssM (d + 60))) 7 = gi_callvH (ssM (d + 60) 130) 9 10 4 [("java/util/NoSuchElementException", 1), ("java/lang/IllegalArgumentException", 2)] from rfl) (as := .ref 0 :: [.int p0, .int p1, .int p2]) (rest := [.int 0, .ref 81]) rfl rfl (Nat.le_of_ble_eq_true rfl) (Nat.le_of_ble_eq_true rfl) lW_r0 ⟨by decide, ?_⟩))))))
  refine hc d _ _ _ 0 P I A hr (fun P2 I2 A2 q => ?_)
  have h2 := h P2 I2 A2 q
  cases hv : r.1 with
  | inl v =>
    rw [hv] at h2
    obtain ⟨b, ha, hq⟩ := h2
    cases v <;> try cases ha
    skip
    show gWp (gTab (tw_odds (ssM (d + 60)))) Q (fun _ _ => False) 10 [some (.ref 0), some (.int p0), some (.int p1), some (.int p2), some (.ref 81), none] [.long b, .int 0, .ref 81] (lW f P2 I2 A2 P' I' A')
    exact x_lastW hm (show gTab (tw_odds (ssM (d + 60))) 10 = gi_last 11 from rfl) (x_goto hm (show gTab (tw_odds (ssM (d + 60))) 11 = gi_goto 22 from rfl) (x_st hm (show gTab (tw_odds (ssM (d + 60))) 22 = gi_st 23 (gf_push (.int 0)) from rfl) rfl (x_iret hm (show gTab (tw_odds (ssM (d + 60))) 23 = gi_iret from rfl) hq)))
  | inr E =>
    rw [hv] at h2
    exact h2
set_option maxRecDepth 20000 in
theorem wr_speak {p0 p1 : Int32} (hc : cCall 131 [.int p0, .int p1] r s) (hr : cRep s P I A) (h : ∀ P2 I2 A2, cRep r.2 P2 I2 A2 → wQ [("java/lang/IllegalArgumentException", 1)] cvI Q f (fun g => lW g P2 I2 A2 P' I' A') r.1) : ssL (d + 60) 277 [.ref 0, .int p0, .int p1, .ref 81] (lW f P I A P' I' A') Q X := by
  have hm : ∀ k, gMono (gTab (tw_speak (ssM (d + 60))) k) := tw_mono (M := 277) (by decide) (by decide) (d + 60)
  refine Or.inr ⟨by decide, by decide, Nat.le_of_ble_eq_true rfl, ?_⟩
  show gWp (gTab (tw_speak (ssM (d + 60)))) Q (fun _ _ => False) 0 [some (.ref 0), some (.int p0), some (.int p1), some (.ref 81), none] [] (lW f P I A P' I' A')
  refine x_aload hm (show gTab (tw_speak (ssM (d + 60))) 0 = gi_aload 1 3 from rfl) rfl (x_st hm (show gTab (tw_speak (ssM (d + 60))) 1 = gi_st 2 (gf_push (.int 0)) from rfl) rfl (x_aload hm (show gTab (tw_speak (ssM (d + 60))) 2 = gi_aload 3 0 from rfl) rfl (x_iload hm (show gTab (tw_speak (ssM (d + 60))) 3 = gi_iload 4 1 from rfl) rfl (x_iload hm (show gTab (tw_speak (ssM (d + 60))) 4 = gi_iload 5 2 from rfl) rfl (x_callvH hm (show gTab (tw_speak (ssM (d + 60))) 5 = gi_callvH (ssM (d + 60) 131) 9 8 3 [("java/lang/IllegalArgumentException", 1)] from rfl) (as := .ref 0 :: [.int p0, .int p1]) (rest := [.int 0, .ref 81]) rfl rfl (Nat.le_of_ble_eq_true rfl) (Nat.le_of_ble_eq_true rfl) lW_r0 ⟨by decide, ?_⟩)))))
  refine hc d _ _ _ 0 P I A hr (fun P2 I2 A2 q => ?_)
  have h2 := h P2 I2 A2 q
  cases hv : r.1 with
  | inl v =>
    rw [hv] at h2
    obtain ⟨b, ha, hq⟩ := h2
    cases v <;> try cases ha
    rename_i a
    show gWp (gTab (tw_speak (ssM (d + 60)))) Q (fun _ _ => False) 8 [some (.ref 0), some (.int p0), some (.int p1), some (.ref 81), none] [.int a, .int 0, .ref 81] (lW f P2 I2 A2 P' I' A')
    exact x_st hm (show gTab (tw_speak (ssM (d + 60))) 8 = gi_st 9 gf_i2l from rfl) rfl (x_lastW hm (show gTab (tw_speak (ssM (d + 60))) 9 = gi_last 10 from rfl) (x_goto hm (show gTab (tw_speak (ssM (d + 60))) 10 = gi_goto 17 from rfl) (x_st hm (show gTab (tw_speak (ssM (d + 60))) 17 = gi_st 18 (gf_push (.int 0)) from rfl) rfl (x_iret hm (show gTab (tw_speak (ssM (d + 60))) 18 = gi_iret from rfl) hq))))
  | inr E =>
    rw [hv] at h2
    exact h2
set_option maxRecDepth 20000 in
theorem wr_bread {p0 p1 p2 : Int32} (hc : cCall 132 [.int p0, .int p1, .int p2] r s) (hr : cRep s P I A) (h : ∀ P2 I2 A2, cRep r.2 P2 I2 A2 → wQ [("java/util/NoSuchElementException", 1), ("java/lang/IllegalArgumentException", 2)] cvI Q f (fun g => lW g P2 I2 A2 P' I' A') r.1) : ssL (d + 60) 278 [.ref 0, .int p0, .int p1, .int p2, .ref 81] (lW f P I A P' I' A') Q X := by
  have hm : ∀ k, gMono (gTab (tw_bread (ssM (d + 60))) k) := tw_mono (M := 278) (by decide) (by decide) (d + 60)
  refine Or.inr ⟨by decide, by decide, Nat.le_of_ble_eq_true rfl, ?_⟩
  show gWp (gTab (tw_bread (ssM (d + 60)))) Q (fun _ _ => False) 0 [some (.ref 0), some (.int p0), some (.int p1), some (.int p2), some (.ref 81), none] [] (lW f P I A P' I' A')
  refine x_aload hm (show gTab (tw_bread (ssM (d + 60))) 0 = gi_aload 2 4 from rfl) rfl (x_st hm (show gTab (tw_bread (ssM (d + 60))) 2 = gi_st 3 (gf_push (.int 0)) from rfl) rfl (x_aload hm (show gTab (tw_bread (ssM (d + 60))) 3 = gi_aload 4 0 from rfl) rfl (x_iload hm (show gTab (tw_bread (ssM (d + 60))) 4 = gi_iload 5 1 from rfl) rfl (x_iload hm (show gTab (tw_bread (ssM (d + 60))) 5 = gi_iload 6 2 from rfl) rfl (x_iload hm (show gTab (tw_bread (ssM (d + 60))) 6 = gi_iload 7 3 from rfl) rfl (x_callvH hm (show gTab (tw_bread (ssM (d + 60))) 7 = gi_callvH (ssM (d + 60) 132) 9 10 4 [("java/util/NoSuchElementException", 1), ("java/lang/IllegalArgumentException", 2)] from rfl) (as := .ref 0 :: [.int p0, .int p1, .int p2]) (rest := [.int 0, .ref 81]) rfl rfl (Nat.le_of_ble_eq_true rfl) (Nat.le_of_ble_eq_true rfl) lW_r0 ⟨by decide, ?_⟩))))))
  refine hc d _ _ _ 0 P I A hr (fun P2 I2 A2 q => ?_)
  have h2 := h P2 I2 A2 q
  cases hv : r.1 with
  | inl v =>
    rw [hv] at h2
    obtain ⟨b, ha, hq⟩ := h2
    cases v <;> try cases ha
    rename_i a
    show gWp (gTab (tw_bread (ssM (d + 60)))) Q (fun _ _ => False) 10 [some (.ref 0), some (.int p0), some (.int p1), some (.int p2), some (.ref 81), none] [.int a, .int 0, .ref 81] (lW f P2 I2 A2 P' I' A')
    exact x_st hm (show gTab (tw_bread (ssM (d + 60))) 10 = gi_st 11 gf_i2l from rfl) rfl (x_lastW hm (show gTab (tw_bread (ssM (d + 60))) 11 = gi_last 12 from rfl) (x_goto hm (show gTab (tw_bread (ssM (d + 60))) 12 = gi_goto 23 from rfl) (x_st hm (show gTab (tw_bread (ssM (d + 60))) 23 = gi_st 24 (gf_push (.int 0)) from rfl) rfl (x_iret hm (show gTab (tw_bread (ssM (d + 60))) 24 = gi_iret from rfl) hq))))
  | inr E =>
    rw [hv] at h2
    exact h2
set_option maxRecDepth 20000 in
theorem wr_closest {p0 : Int32} (hc : cCall 114 [.int p0] r s) (hr : cRep s P I A) (h : ∀ P2 I2 A2, cRep r.2 P2 I2 A2 → wQ [("java/lang/IllegalArgumentException", 1)] cvI Q f (fun g => lW g P2 I2 A2 P' I' A') r.1) : ssL (d + 60) 279 [.ref 0, .int p0, .ref 81] (lW f P I A P' I' A') Q X := by
  have hm : ∀ k, gMono (gTab (tw_closest (ssM (d + 60))) k) := tw_mono (M := 279) (by decide) (by decide) (d + 60)
  refine Or.inr ⟨by decide, by decide, Nat.le_of_ble_eq_true rfl, ?_⟩
  show gWp (gTab (tw_closest (ssM (d + 60)))) Q (fun _ _ => False) 0 [some (.ref 0), some (.int p0), some (.ref 81), none] [] (lW f P I A P' I' A')
  refine x_aload hm (show gTab (tw_closest (ssM (d + 60))) 0 = gi_aload 1 2 from rfl) rfl (x_st hm (show gTab (tw_closest (ssM (d + 60))) 1 = gi_st 2 (gf_push (.int 0)) from rfl) rfl (x_aload hm (show gTab (tw_closest (ssM (d + 60))) 2 = gi_aload 3 0 from rfl) rfl (x_iload hm (show gTab (tw_closest (ssM (d + 60))) 3 = gi_iload 4 1 from rfl) rfl (x_callvH hm (show gTab (tw_closest (ssM (d + 60))) 4 = gi_callvH (ssM (d + 60) 114) 9 7 2 [("java/lang/IllegalArgumentException", 1)] from rfl) (as := .ref 0 :: [.int p0]) (rest := [.int 0, .ref 81]) rfl rfl (Nat.le_of_ble_eq_true rfl) (Nat.le_of_ble_eq_true rfl) lW_r0 ⟨by decide, ?_⟩))))
  refine hc d _ _ _ 0 P I A hr (fun P2 I2 A2 q => ?_)
  have h2 := h P2 I2 A2 q
  cases hv : r.1 with
  | inl v =>
    rw [hv] at h2
    obtain ⟨b, ha, hq⟩ := h2
    cases v <;> try cases ha
    rename_i a
    show gWp (gTab (tw_closest (ssM (d + 60)))) Q (fun _ _ => False) 7 [some (.ref 0), some (.int p0), some (.ref 81), none] [.int a, .int 0, .ref 81] (lW f P2 I2 A2 P' I' A')
    exact x_st hm (show gTab (tw_closest (ssM (d + 60))) 7 = gi_st 8 gf_i2l from rfl) rfl (x_lastW hm (show gTab (tw_closest (ssM (d + 60))) 8 = gi_last 9 from rfl) (x_goto hm (show gTab (tw_closest (ssM (d + 60))) 9 = gi_goto 15 from rfl) (x_st hm (show gTab (tw_closest (ssM (d + 60))) 15 = gi_st 16 (gf_push (.int 0)) from rfl) rfl (x_iret hm (show gTab (tw_closest (ssM (d + 60))) 16 = gi_iret from rfl) hq))))
  | inr E =>
    rw [hv] at h2
    exact h2
set_option maxRecDepth 20000 in
theorem wr_safest {p0 : Int32} (hc : cCall 115 [.int p0] r s) (hr : cRep s P I A) (h : ∀ P2 I2 A2, cRep r.2 P2 I2 A2 → wQ [("java/lang/IllegalArgumentException", 1)] cvI Q f (fun g => lW g P2 I2 A2 P' I' A') r.1) : ssL (d + 60) 280 [.ref 0, .int p0, .ref 81] (lW f P I A P' I' A') Q X := by
  have hm : ∀ k, gMono (gTab (tw_safest (ssM (d + 60))) k) := tw_mono (M := 280) (by decide) (by decide) (d + 60)
  refine Or.inr ⟨by decide, by decide, Nat.le_of_ble_eq_true rfl, ?_⟩
  show gWp (gTab (tw_safest (ssM (d + 60)))) Q (fun _ _ => False) 0 [some (.ref 0), some (.int p0), some (.ref 81), none] [] (lW f P I A P' I' A')
  refine x_aload hm (show gTab (tw_safest (ssM (d + 60))) 0 = gi_aload 1 2 from rfl) rfl (x_st hm (show gTab (tw_safest (ssM (d + 60))) 1 = gi_st 2 (gf_push (.int 0)) from rfl) rfl (x_aload hm (show gTab (tw_safest (ssM (d + 60))) 2 = gi_aload 3 0 from rfl) rfl (x_iload hm (show gTab (tw_safest (ssM (d + 60))) 3 = gi_iload 4 1 from rfl) rfl (x_callvH hm (show gTab (tw_safest (ssM (d + 60))) 4 = gi_callvH (ssM (d + 60) 115) 9 7 2 [("java/lang/IllegalArgumentException", 1)] from rfl) (as := .ref 0 :: [.int p0]) (rest := [.int 0, .ref 81]) rfl rfl (Nat.le_of_ble_eq_true rfl) (Nat.le_of_ble_eq_true rfl) lW_r0 ⟨by decide, ?_⟩))))
  refine hc d _ _ _ 0 P I A hr (fun P2 I2 A2 q => ?_)
  have h2 := h P2 I2 A2 q
  cases hv : r.1 with
  | inl v =>
    rw [hv] at h2
    obtain ⟨b, ha, hq⟩ := h2
    cases v <;> try cases ha
    rename_i a
    show gWp (gTab (tw_safest (ssM (d + 60)))) Q (fun _ _ => False) 7 [some (.ref 0), some (.int p0), some (.ref 81), none] [.int a, .int 0, .ref 81] (lW f P2 I2 A2 P' I' A')
    exact x_st hm (show gTab (tw_safest (ssM (d + 60))) 7 = gi_st 8 gf_i2l from rfl) rfl (x_lastW hm (show gTab (tw_safest (ssM (d + 60))) 8 = gi_last 9 from rfl) (x_goto hm (show gTab (tw_safest (ssM (d + 60))) 9 = gi_goto 15 from rfl) (x_st hm (show gTab (tw_safest (ssM (d + 60))) 15 = gi_st 16 (gf_push (.int 0)) from rfl) rfl (x_iret hm (show gTab (tw_safest (ssM (d + 60))) 16 = gi_iret from rfl) hq))))
  | inr E =>
    rw [hv] at h2
    exact h2
set_option maxRecDepth 20000 in
theorem wr_till {p0 : Int32} (hc : cCall 118 [.int p0] r s) (hr : cRep s P I A) (h : ∀ P2 I2 A2, cRep r.2 P2 I2 A2 → wQ [("java/lang/IllegalArgumentException", 1)] cvI Q f (fun g => lW g P2 I2 A2 P' I' A') r.1) : ssL (d + 60) 281 [.ref 0, .int p0, .ref 81] (lW f P I A P' I' A') Q X := by
  have hm : ∀ k, gMono (gTab (tw_till (ssM (d + 60))) k) := tw_mono (M := 281) (by decide) (by decide) (d + 60)
  refine Or.inr ⟨by decide, by decide, Nat.le_of_ble_eq_true rfl, ?_⟩
  show gWp (gTab (tw_till (ssM (d + 60)))) Q (fun _ _ => False) 0 [some (.ref 0), some (.int p0), some (.ref 81), none] [] (lW f P I A P' I' A')
  refine x_aload hm (show gTab (tw_till (ssM (d + 60))) 0 = gi_aload 1 2 from rfl) rfl (x_st hm (show gTab (tw_till (ssM (d + 60))) 1 = gi_st 2 (gf_push (.int 0)) from rfl) rfl (x_aload hm (show gTab (tw_till (ssM (d + 60))) 2 = gi_aload 3 0 from rfl) rfl (x_iload hm (show gTab (tw_till (ssM (d + 60))) 3 = gi_iload 4 1 from rfl) rfl (x_callvH hm (show gTab (tw_till (ssM (d + 60))) 4 = gi_callvH (ssM (d + 60) 118) 9 7 2 [("java/lang/IllegalArgumentException", 1)] from rfl) (as := .ref 0 :: [.int p0]) (rest := [.int 0, .ref 81]) rfl rfl (Nat.le_of_ble_eq_true rfl) (Nat.le_of_ble_eq_true rfl) lW_r0 ⟨by decide, ?_⟩))))
  refine hc d _ _ _ 0 P I A hr (fun P2 I2 A2 q => ?_)
  have h2 := h P2 I2 A2 q
  cases hv : r.1 with
  | inl v =>
    rw [hv] at h2
    obtain ⟨b, ha, hq⟩ := h2
    cases v <;> try cases ha
    rename_i a
    show gWp (gTab (tw_till (ssM (d + 60)))) Q (fun _ _ => False) 7 [some (.ref 0), some (.int p0), some (.ref 81), none] [.int a, .int 0, .ref 81] (lW f P2 I2 A2 P' I' A')
    exact x_st hm (show gTab (tw_till (ssM (d + 60))) 7 = gi_st 8 gf_i2l from rfl) rfl (x_lastW hm (show gTab (tw_till (ssM (d + 60))) 8 = gi_last 9 from rfl) (x_goto hm (show gTab (tw_till (ssM (d + 60))) 9 = gi_goto 15 from rfl) (x_st hm (show gTab (tw_till (ssM (d + 60))) 15 = gi_st 16 (gf_push (.int 0)) from rfl) rfl (x_iret hm (show gTab (tw_till (ssM (d + 60))) 16 = gi_iret from rfl) hq))))
  | inr E =>
    rw [hv] at h2
    exact h2
set_option maxRecDepth 20000 in
theorem wr_most {p0 p1 : Int32} (hc : cCall 111 [.int p0, .int p1] r s) (hr : cRep s P I A) (h : ∀ P2 I2 A2, cRep r.2 P2 I2 A2 → wQ [("java/util/NoSuchElementException", 1)] cvI Q f (fun g => lW g P2 I2 A2 P' I' A') r.1) : ssL (d + 60) 282 [.ref 0, .int p0, .int p1, .ref 81] (lW f P I A P' I' A') Q X := by
  have hm : ∀ k, gMono (gTab (tw_most (ssM (d + 60))) k) := tw_mono (M := 282) (by decide) (by decide) (d + 60)
  refine Or.inr ⟨by decide, by decide, Nat.le_of_ble_eq_true rfl, ?_⟩
  show gWp (gTab (tw_most (ssM (d + 60)))) Q (fun _ _ => False) 0 [some (.ref 0), some (.int p0), some (.int p1), some (.ref 81), none] [] (lW f P I A P' I' A')
  refine x_aload hm (show gTab (tw_most (ssM (d + 60))) 0 = gi_aload 1 3 from rfl) rfl (x_st hm (show gTab (tw_most (ssM (d + 60))) 1 = gi_st 2 (gf_push (.int 0)) from rfl) rfl (x_aload hm (show gTab (tw_most (ssM (d + 60))) 2 = gi_aload 3 0 from rfl) rfl (x_iload hm (show gTab (tw_most (ssM (d + 60))) 3 = gi_iload 4 1 from rfl) rfl (x_iload hm (show gTab (tw_most (ssM (d + 60))) 4 = gi_iload 5 2 from rfl) rfl (x_callvH hm (show gTab (tw_most (ssM (d + 60))) 5 = gi_callvH (ssM (d + 60) 111) 9 8 3 [("java/util/NoSuchElementException", 1)] from rfl) (as := .ref 0 :: [.int p0, .int p1]) (rest := [.int 0, .ref 81]) rfl rfl (Nat.le_of_ble_eq_true rfl) (Nat.le_of_ble_eq_true rfl) lW_r0 ⟨by decide, ?_⟩)))))
  refine hc d _ _ _ 0 P I A hr (fun P2 I2 A2 q => ?_)
  have h2 := h P2 I2 A2 q
  cases hv : r.1 with
  | inl v =>
    rw [hv] at h2
    obtain ⟨b, ha, hq⟩ := h2
    cases v <;> try cases ha
    rename_i a
    show gWp (gTab (tw_most (ssM (d + 60)))) Q (fun _ _ => False) 8 [some (.ref 0), some (.int p0), some (.int p1), some (.ref 81), none] [.int a, .int 0, .ref 81] (lW f P2 I2 A2 P' I' A')
    exact x_st hm (show gTab (tw_most (ssM (d + 60))) 8 = gi_st 9 gf_i2l from rfl) rfl (x_lastW hm (show gTab (tw_most (ssM (d + 60))) 9 = gi_last 10 from rfl) (x_goto hm (show gTab (tw_most (ssM (d + 60))) 10 = gi_goto 17 from rfl) (x_st hm (show gTab (tw_most (ssM (d + 60))) 17 = gi_st 18 (gf_push (.int 0)) from rfl) rfl (x_iret hm (show gTab (tw_most (ssM (d + 60))) 18 = gi_iret from rfl) hq))))
  | inr E =>
    rw [hv] at h2
    exact h2
set_option maxRecDepth 20000 in
theorem wr_sides {p0 : Int32} (hc : cCall 112 [.int p0] r s) (hr : cRep s P I A) (h : ∀ P2 I2 A2, cRep r.2 P2 I2 A2 → wQ [("java/lang/IllegalArgumentException", 1)] cvI Q f (fun g => lW g P2 I2 A2 P' I' A') r.1) : ssL (d + 60) 283 [.ref 0, .int p0, .ref 81] (lW f P I A P' I' A') Q X := by
  have hm : ∀ k, gMono (gTab (tw_sides (ssM (d + 60))) k) := tw_mono (M := 283) (by decide) (by decide) (d + 60)
  refine Or.inr ⟨by decide, by decide, Nat.le_of_ble_eq_true rfl, ?_⟩
  show gWp (gTab (tw_sides (ssM (d + 60)))) Q (fun _ _ => False) 0 [some (.ref 0), some (.int p0), some (.ref 81), none] [] (lW f P I A P' I' A')
  refine x_aload hm (show gTab (tw_sides (ssM (d + 60))) 0 = gi_aload 1 2 from rfl) rfl (x_st hm (show gTab (tw_sides (ssM (d + 60))) 1 = gi_st 2 (gf_push (.int 0)) from rfl) rfl (x_aload hm (show gTab (tw_sides (ssM (d + 60))) 2 = gi_aload 3 0 from rfl) rfl (x_iload hm (show gTab (tw_sides (ssM (d + 60))) 3 = gi_iload 4 1 from rfl) rfl (x_callvH hm (show gTab (tw_sides (ssM (d + 60))) 4 = gi_callvH (ssM (d + 60) 112) 9 7 2 [("java/lang/IllegalArgumentException", 1)] from rfl) (as := .ref 0 :: [.int p0]) (rest := [.int 0, .ref 81]) rfl rfl (Nat.le_of_ble_eq_true rfl) (Nat.le_of_ble_eq_true rfl) lW_r0 ⟨by decide, ?_⟩))))
  refine hc d _ _ _ 0 P I A hr (fun P2 I2 A2 q => ?_)
  have h2 := h P2 I2 A2 q
  cases hv : r.1 with
  | inl v =>
    rw [hv] at h2
    obtain ⟨b, ha, hq⟩ := h2
    cases v <;> try cases ha
    rename_i a
    show gWp (gTab (tw_sides (ssM (d + 60)))) Q (fun _ _ => False) 7 [some (.ref 0), some (.int p0), some (.ref 81), none] [.int a, .int 0, .ref 81] (lW f P2 I2 A2 P' I' A')
    exact x_st hm (show gTab (tw_sides (ssM (d + 60))) 7 = gi_st 8 gf_i2l from rfl) rfl (x_lastW hm (show gTab (tw_sides (ssM (d + 60))) 8 = gi_last 9 from rfl) (x_goto hm (show gTab (tw_sides (ssM (d + 60))) 9 = gi_goto 15 from rfl) (x_st hm (show gTab (tw_sides (ssM (d + 60))) 15 = gi_st 16 (gf_push (.int 0)) from rfl) rfl (x_iret hm (show gTab (tw_sides (ssM (d + 60))) 16 = gi_iret from rfl) hq))))
  | inr E =>
    rw [hv] at h2
    exact h2
set_option maxRecDepth 20000 in
theorem wr_lightest {p0 : Int32} (hc : cCall 116 [.int p0] r s) (hr : cRep s P I A) (h : ∀ P2 I2 A2, cRep r.2 P2 I2 A2 → wQ [("java/lang/IllegalArgumentException", 1)] cvI Q f (fun g => lW g P2 I2 A2 P' I' A') r.1) : ssL (d + 60) 284 [.ref 0, .int p0, .ref 81] (lW f P I A P' I' A') Q X := by
  have hm : ∀ k, gMono (gTab (tw_lightest (ssM (d + 60))) k) := tw_mono (M := 284) (by decide) (by decide) (d + 60)
  refine Or.inr ⟨by decide, by decide, Nat.le_of_ble_eq_true rfl, ?_⟩
  show gWp (gTab (tw_lightest (ssM (d + 60)))) Q (fun _ _ => False) 0 [some (.ref 0), some (.int p0), some (.ref 81), none] [] (lW f P I A P' I' A')
  refine x_aload hm (show gTab (tw_lightest (ssM (d + 60))) 0 = gi_aload 1 2 from rfl) rfl (x_st hm (show gTab (tw_lightest (ssM (d + 60))) 1 = gi_st 2 (gf_push (.int 0)) from rfl) rfl (x_aload hm (show gTab (tw_lightest (ssM (d + 60))) 2 = gi_aload 3 0 from rfl) rfl (x_iload hm (show gTab (tw_lightest (ssM (d + 60))) 3 = gi_iload 4 1 from rfl) rfl (x_callvH hm (show gTab (tw_lightest (ssM (d + 60))) 4 = gi_callvH (ssM (d + 60) 116) 9 7 2 [("java/lang/IllegalArgumentException", 1)] from rfl) (as := .ref 0 :: [.int p0]) (rest := [.int 0, .ref 81]) rfl rfl (Nat.le_of_ble_eq_true rfl) (Nat.le_of_ble_eq_true rfl) lW_r0 ⟨by decide, ?_⟩))))
  refine hc d _ _ _ 0 P I A hr (fun P2 I2 A2 q => ?_)
  have h2 := h P2 I2 A2 q
  cases hv : r.1 with
  | inl v =>
    rw [hv] at h2
    obtain ⟨b, ha, hq⟩ := h2
    cases v <;> try cases ha
    rename_i a
    show gWp (gTab (tw_lightest (ssM (d + 60)))) Q (fun _ _ => False) 7 [some (.ref 0), some (.int p0), some (.ref 81), none] [.int a, .int 0, .ref 81] (lW f P2 I2 A2 P' I' A')
    exact x_st hm (show gTab (tw_lightest (ssM (d + 60))) 7 = gi_st 8 gf_i2l from rfl) rfl (x_lastW hm (show gTab (tw_lightest (ssM (d + 60))) 8 = gi_last 9 from rfl) (x_goto hm (show gTab (tw_lightest (ssM (d + 60))) 9 = gi_goto 15 from rfl) (x_st hm (show gTab (tw_lightest (ssM (d + 60))) 15 = gi_st 16 (gf_push (.int 0)) from rfl) rfl (x_iret hm (show gTab (tw_lightest (ssM (d + 60))) 16 = gi_iret from rfl) hq))))
  | inr E =>
    rw [hv] at h2
    exact h2
set_option maxRecDepth 20000 in
theorem wr_term {p0 p1 p2 p3 : Int32} (hc : cCall 119 [.int p0, .int p1, .int p2, .int p3] r s) (hr : cRep s P I A) (h : ∀ P2 I2 A2, cRep r.2 P2 I2 A2 → wQ [("java/lang/IllegalArgumentException", 1)] cvI Q f (fun g => lW g P2 I2 A2 P' I' A') r.1) : ssL (d + 60) 285 [.ref 0, .int p0, .int p1, .int p2, .int p3, .ref 81] (lW f P I A P' I' A') Q X := by
  have hm : ∀ k, gMono (gTab (tw_term (ssM (d + 60))) k) := tw_mono (M := 285) (by decide) (by decide) (d + 60)
  refine Or.inr ⟨by decide, by decide, Nat.le_of_ble_eq_true rfl, ?_⟩
  show gWp (gTab (tw_term (ssM (d + 60)))) Q (fun _ _ => False) 0 [some (.ref 0), some (.int p0), some (.int p1), some (.int p2), some (.int p3), some (.ref 81), none] [] (lW f P I A P' I' A')
  refine x_aload hm (show gTab (tw_term (ssM (d + 60))) 0 = gi_aload 2 5 from rfl) rfl (x_st hm (show gTab (tw_term (ssM (d + 60))) 2 = gi_st 3 (gf_push (.int 0)) from rfl) rfl (x_aload hm (show gTab (tw_term (ssM (d + 60))) 3 = gi_aload 4 0 from rfl) rfl (x_iload hm (show gTab (tw_term (ssM (d + 60))) 4 = gi_iload 5 1 from rfl) rfl (x_iload hm (show gTab (tw_term (ssM (d + 60))) 5 = gi_iload 6 2 from rfl) rfl (x_iload hm (show gTab (tw_term (ssM (d + 60))) 6 = gi_iload 7 3 from rfl) rfl (x_iload hm (show gTab (tw_term (ssM (d + 60))) 7 = gi_iload 9 4 from rfl) rfl (x_callvH hm (show gTab (tw_term (ssM (d + 60))) 9 = gi_callvH (ssM (d + 60) 119) 9 12 5 [("java/lang/IllegalArgumentException", 1)] from rfl) (as := .ref 0 :: [.int p0, .int p1, .int p2, .int p3]) (rest := [.int 0, .ref 81]) rfl rfl (Nat.le_of_ble_eq_true rfl) (Nat.le_of_ble_eq_true rfl) lW_r0 ⟨by decide, ?_⟩)))))))
  refine hc d _ _ _ 0 P I A hr (fun P2 I2 A2 q => ?_)
  have h2 := h P2 I2 A2 q
  cases hv : r.1 with
  | inl v =>
    rw [hv] at h2
    obtain ⟨b, ha, hq⟩ := h2
    cases v <;> try cases ha
    rename_i a
    show gWp (gTab (tw_term (ssM (d + 60)))) Q (fun _ _ => False) 12 [some (.ref 0), some (.int p0), some (.int p1), some (.int p2), some (.int p3), some (.ref 81), none] [.int a, .int 0, .ref 81] (lW f P2 I2 A2 P' I' A')
    exact x_st hm (show gTab (tw_term (ssM (d + 60))) 12 = gi_st 13 gf_i2l from rfl) rfl (x_lastW hm (show gTab (tw_term (ssM (d + 60))) 13 = gi_last 14 from rfl) (x_goto hm (show gTab (tw_term (ssM (d + 60))) 14 = gi_goto 21 from rfl) (x_st hm (show gTab (tw_term (ssM (d + 60))) 21 = gi_st 22 (gf_push (.int 0)) from rfl) rfl (x_iret hm (show gTab (tw_term (ssM (d + 60))) 22 = gi_iret from rfl) hq))))
  | inr E =>
    rw [hv] at h2
    exact h2
set_option maxRecDepth 20000 in
theorem wr_span {p0 p1 p2 p3 p4 : Int32} (hc : cCall 120 [.int p0, .int p1, .int p2, .int p3, .int p4] r s) (hr : cRep s P I A) (h : ∀ P2 I2 A2, cRep r.2 P2 I2 A2 → wQ [("java/lang/IllegalArgumentException", 1)] cvI Q f (fun g => lW g P2 I2 A2 P' I' A') r.1) : ssL (d + 60) 286 [.ref 0, .int p0, .int p1, .int p2, .int p3, .int p4, .ref 81] (lW f P I A P' I' A') Q X := by
  have hm : ∀ k, gMono (gTab (tw_span (ssM (d + 60))) k) := tw_mono (M := 286) (by decide) (by decide) (d + 60)
  refine Or.inr ⟨by decide, by decide, Nat.le_of_ble_eq_true rfl, ?_⟩
  show gWp (gTab (tw_span (ssM (d + 60)))) Q (fun _ _ => False) 0 [some (.ref 0), some (.int p0), some (.int p1), some (.int p2), some (.int p3), some (.int p4), some (.ref 81), none] [] (lW f P I A P' I' A')
  refine x_aload hm (show gTab (tw_span (ssM (d + 60))) 0 = gi_aload 2 6 from rfl) rfl (x_st hm (show gTab (tw_span (ssM (d + 60))) 2 = gi_st 3 (gf_push (.int 0)) from rfl) rfl (x_aload hm (show gTab (tw_span (ssM (d + 60))) 3 = gi_aload 4 0 from rfl) rfl (x_iload hm (show gTab (tw_span (ssM (d + 60))) 4 = gi_iload 5 1 from rfl) rfl (x_iload hm (show gTab (tw_span (ssM (d + 60))) 5 = gi_iload 6 2 from rfl) rfl (x_iload hm (show gTab (tw_span (ssM (d + 60))) 6 = gi_iload 7 3 from rfl) rfl (x_iload hm (show gTab (tw_span (ssM (d + 60))) 7 = gi_iload 9 4 from rfl) rfl (x_iload hm (show gTab (tw_span (ssM (d + 60))) 9 = gi_iload 11 5 from rfl) rfl (x_callvH hm (show gTab (tw_span (ssM (d + 60))) 11 = gi_callvH (ssM (d + 60) 120) 9 14 6 [("java/lang/IllegalArgumentException", 1)] from rfl) (as := .ref 0 :: [.int p0, .int p1, .int p2, .int p3, .int p4]) (rest := [.int 0, .ref 81]) rfl rfl (Nat.le_of_ble_eq_true rfl) (Nat.le_of_ble_eq_true rfl) lW_r0 ⟨by decide, ?_⟩))))))))
  refine hc d _ _ _ 0 P I A hr (fun P2 I2 A2 q => ?_)
  have h2 := h P2 I2 A2 q
  cases hv : r.1 with
  | inl v =>
    rw [hv] at h2
    obtain ⟨b, ha, hq⟩ := h2
    cases v <;> try cases ha
    rename_i a
    show gWp (gTab (tw_span (ssM (d + 60)))) Q (fun _ _ => False) 14 [some (.ref 0), some (.int p0), some (.int p1), some (.int p2), some (.int p3), some (.int p4), some (.ref 81), none] [.int a, .int 0, .ref 81] (lW f P2 I2 A2 P' I' A')
    exact x_st hm (show gTab (tw_span (ssM (d + 60))) 14 = gi_st 15 gf_i2l from rfl) rfl (x_lastW hm (show gTab (tw_span (ssM (d + 60))) 15 = gi_last 16 from rfl) (x_goto hm (show gTab (tw_span (ssM (d + 60))) 16 = gi_goto 23 from rfl) (x_st hm (show gTab (tw_span (ssM (d + 60))) 23 = gi_st 24 (gf_push (.int 0)) from rfl) rfl (x_iret hm (show gTab (tw_span (ssM (d + 60))) 24 = gi_iret from rfl) hq))))
  | inr E =>
    rw [hv] at h2
    exact h2
end LWR
