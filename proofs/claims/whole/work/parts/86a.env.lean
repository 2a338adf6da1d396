/-! ===== the law's start: what lies outside, classes, links ===== -/
theorem gst_len : ∀ i, i < 22 → (gTxtL.map List.length).getD i 0 < 2 ^ 31 := by decide +kernel
theorem gst_all : gStrs.length = 22 := by decide +kernel
theorem gcs_tbl : ∀ w ∈ gCastL, w ∈ lw_tbl := by decide +kernel
theorem gcs_on : ∀ w ∈ gCastL, w.onTables = true := by decide +kernel
theorem gne_tbl : ∀ w ∈ gNestL, w ∈ lw_tbl := by decide +kernel
theorem gne_on : ∀ w ∈ gNestL, w.onTables = true := by decide +kernel
theorem gst_c1 : Cond.laysStatic "java/lang/String" "COMPACT_STRINGS" "Z" ∈ lw_tbl ∧ Cond.initialized "java/lang/String" ∈ lw_tbl ∧ Cond.eq (.static "java/lang/String" "COMPACT_STRINGS" "Z") (.int 1) ∈ flatC (Cond.and given_1 narrow_1) := by decide +kernel
theorem gst_c2 : Cond.laysStatic "jdk/internal/util/Preconditions" "SIOOBE_FORMATTER" "Ljava/util/function/BiFunction;" ∈ lw_tbl ∧ Cond.initialized "jdk/internal/util/Preconditions" ∈ lw_tbl ∧ Cond.isRef (.static "jdk/internal/util/Preconditions" "SIOOBE_FORMATTER" "Ljava/util/function/BiFunction;") ∈ flatC (Cond.and given_1 narrow_1) := by decide +kernel
theorem gst_c3 : Cond.laysStatic Bundle.tN "UNASSIGNED_STACK" Bundle.steD ∈ lw_tbl ∧ Cond.initialized Bundle.tN ∈ lw_tbl ∧ Cond.isRef (.static Bundle.tN "UNASSIGNED_STACK" Bundle.steD) ∈ flatC (Cond.and given_1 narrow_1) := by decide +kernel
theorem gst_c4 : Cond.laysStatic Bundle.tN "SUPPRESSED_SENTINEL" Bundle.listD ∈ lw_tbl ∧ Cond.isRef (.static Bundle.tN "SUPPRESSED_SENTINEL" Bundle.listD) ∈ flatC (Cond.and given_1 narrow_1) := by decide +kernel
theorem gst_c5 : Cond.not (.castable "java/lang/IllegalArgumentException" "java/util/NoSuchElementException") ∈ flatC (Cond.and given_1 narrow_1) := by decide +kernel
theorem gNest_of {args : Array Value} {s : State} (hts : ∀ w ∈ lw_tbl, w.before args s = true) : gNest s := fun w hw => va_Nw.of (gne_on w hw) (hts w (gne_tbl w hw))
theorem gCast_of {args : Array Value} {s : State} (hts : ∀ w ∈ lw_tbl, w.before args s = true) : gCast s := fun a w hw => va_tabs (gcs_on w hw) rfl (hts w (gcs_tbl w hw))
def adS (b0 b a3 : Nat) (adK adV : Nat → Nat) : Nat → Nat := fun h => if h < 1000000 then b0 + h else if h < 2000000 then adK (h - 1000000) else if h < 3000000 then adV (h - 2000000) else if h = 3000000 then a3 else b
theorem adS_0 {b0 b a3 : Nat} {adK adV : Nat → Nat} {h : Nat} (hh : h < 1000000) : adS b0 b a3 adK adV h = b0 + h := if_pos hh
theorem adS_1 {b0 b a3 : Nat} {adK adV : Nat → Nat} {i : Nat} (hh : i < 22) : adS b0 b a3 adK adV (1000000 + i) = adK i := by
  unfold adS
  rw [if_neg (by omega), if_pos (by omega), Nat.add_sub_cancel_left]
theorem adS_2 {b0 b a3 : Nat} {adK adV : Nat → Nat} {i : Nat} (hh : i < 22) : adS b0 b a3 adK adV (2000000 + i) = adV i := by
  unfold adS
  rw [if_neg (by omega), if_neg (by omega), if_pos (by omega), Nat.add_sub_cancel_left]
theorem adS_3 {b0 b a3 : Nat} {adK adV : Nat → Nat} : adS b0 b a3 adK adV 3000000 = a3 := by
  unfold adS
  rw [if_neg (by omega), if_neg (by omega), if_neg (by omega), if_pos rfl]
theorem adS_4 {b0 b a3 : Nat} {adK adV : Nat → Nat} : adS b0 b a3 adK adV 4000000 = b := by
  unfold adS
  rw [if_neg (by omega), if_neg (by omega), if_neg (by omega), if_neg (by omega)]
theorem ex_start {args : Array Value} {s : State} {b L : Nat} {xs : Nat → Int32} (hts : ∀ w ∈ lw_tbl, w.before args s = true) (hgv : (Cond.and given_1 narrow_1).before args s = true) (hX : va_X b L xs s s.heap) (hbl : b < s.heap.size) :
    ∃ ad : Nat → Nat, (∀ h, h < 82 → ad h = s.heap.size + h) ∧ ad 4000000 = b ∧ gEXv L xs ad (fun q => s.heap.size ≤ q) s s.heap := by
  have hA : ∀ a : Nat, a < s.heap.size → ¬ (fun q : Nat => s.heap.size ≤ q) a := fun a h => Nat.not_le.mpr h
  have hfl := flat_of_before _ hgv
  obtain ⟨adK, adV, hS, hev⟩ := vk_Sof (args := args) (s := s) (N := 22) (tm := gTm) (len := gTxtL.map List.length) (byt := gTxtL) (A := fun q => s.heap.size ≤ q) gst_len (fun i hi => hfl _ (gst_ex i hi)) (fun i hi => hfl _ (gst_co i hi)) (fun i hi => hfl _ (gst_ar i hi)) (fun i hi => hfl _ (gst_le i hi)) (fun i hi j hj => hfl _ (gst_el i hi j hj)) (fun i j hi hj h => (gst_ne i hi j hj h).imp (hfl _) (hfl _)) hA
  have hZ := va_Zqof (A := fun q => s.heap.size ≤ q) (hts _ gst_c2.1) (hts _ gst_c2.2.1) (hfl _ gst_c2.2.2) hA
  obtain ⟨a3, hZ3⟩ : ∃ a3 : Nat, va_Z "jdk/internal/util/Preconditions" "SIOOBE_FORMATTER" "Ljava/util/function/BiFunction;" .null (fun q => s.heap.size ≤ q) s s.heap ∨ va_Z "jdk/internal/util/Preconditions" "SIOOBE_FORMATTER" "Ljava/util/function/BiFunction;" (.ref a3) (fun q => s.heap.size ≤ q) s s.heap := by
    rcases hZ with h | ⟨t, h⟩
    · exact ⟨0, Or.inl h⟩
    · exact ⟨t, Or.inr h⟩
  refine ⟨adS s.heap.size b a3 adK adV, fun h hh => adS_0 (by omega), adS_4, ⟨?_, va_Zof (hts _ gst_c1.1) (hts _ gst_c1.2.1) (va_eqt (hfl _ gst_c1.2.2)) hA, ?_⟩, ?_, ⟨⟨vx_Zqof (hts _ gst_c3.1) (hts _ gst_c3.2.1) (hfl _ gst_c3.2.2) hA, vx_Zqof (hts _ gst_c4.1) (hts _ gst_c3.2.1) (hfl _ gst_c4.2) hA⟩, gCast_of hts⟩, va_Nc.of (hfl _ gst_c5), ?_⟩
  · refine ⟨fun i hi => ?_, fun i j hi hj e => ?_⟩
    · have hi2 : i < 22 := hi
      show va_O _ (adS s.heap.size b a3 adK adV (1000000 + i)) _ _ _ ∧ va_OF _ _ _ _ (adS s.heap.size b a3 adK adV (1000000 + i)) _ _ _ ∧ va_OF _ _ _ (.ref (adS s.heap.size b a3 adK adV (2000000 + i))) (adS s.heap.size b a3 adK adV (1000000 + i)) _ _ _ ∧ va_T _ (adS s.heap.size b a3 adK adV (2000000 + i)) _ _ _ _ _
      rw [adS_1 hi2, adS_2 hi2]
      exact hS.1 i hi
    · have hi2 : i < 22 := hi
      have hj2 : j < 22 := hj
      have e : adS s.heap.size b a3 adK adV (1000000 + i) = adS s.heap.size b a3 adK adV (1000000 + j) := e
      rw [adS_1 hi2, adS_1 hj2] at e
      exact hS.2 i j hi hj e
  · rw [adS_3]
    exact hZ3
  · intro own idx tx h0 hm
    obtain ⟨i, hi, he⟩ := List.mem_iff_getElem?.mp hm |>.elim (fun i hi => (⟨i, (List.getElem?_eq_some_iff.mp hi).1, hi⟩ : ∃ i, ∃ _ : i < gStrs.length, gStrs[i]? = some (own, idx, tx, h0)))
    rw [gst_all] at hi
    have hg : gStrs.getD i ("", 0, "", 0) = (own, idx, tx, h0) := by
      rw [List.getD_eq_getElem?_getD, he]
      rfl
    have h1 := gst_h i hi
    have h2 := gst_rf i hi
    have h3 := hev i hi
    unfold gTm at h3
    rw [hg] at h1 h2 h3
    have h1 : h0 = 1000000 + i := h1
    rw [h1, adS_1 hi]
    exact vk_R.of (hts _ h2) h3
  · rw [adS_4]
    exact ⟨hX, hbl, fun q => absurd hbl (Nat.not_lt.mpr q)⟩
