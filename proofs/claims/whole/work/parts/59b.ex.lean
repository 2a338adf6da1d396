/-! ===== what lies outside: texts, the JDK's statics, the script ===== -/
def gEXv (Ls : Nat) (xs : Nat → Int32) : gEX := fun ad A s H =>
  (vk_S gNT (gTxtL.map List.length) gTxtL (fun i => ad (1000000 + i)) (fun i => ad (2000000 + i)) A s H ∧ va_Z "java/lang/String" "COMPACT_STRINGS" "Z" (.int 1) A s H ∧
    (va_Z "jdk/internal/util/Preconditions" "SIOOBE_FORMATTER" "Ljava/util/function/BiFunction;" .null A s H ∨ va_Z "jdk/internal/util/Preconditions" "SIOOBE_FORMATTER" "Ljava/util/function/BiFunction;" (.ref (ad 3000000)) A s H)) ∧
  (∀ (own : String) (idx : Nat) (tx : String) (h0 : Nat), (own, idx, tx, h0) ∈ gStrs → vk_R own idx tx (ad h0) s) ∧
  ((vx_Zq Bundle.tN "UNASSIGNED_STACK" Bundle.steD A s H ∧ vx_Zq Bundle.tN "SUPPRESSED_SENTINEL" Bundle.listD A s H) ∧ gCast s) ∧
  va_Nc "java/lang/IllegalArgumentException" "java/util/NoSuchElementException" s ∧
  (va_X (ad 4000000) Ls xs s H ∧ ad 4000000 < H.size ∧ ¬ A (ad 4000000))
theorem gEXv_str (Ls : Nat) (xs : Nat → Int32) : gStrOk (gEXv Ls xs) := fun own idx tx h0 hm ad A s h => h.2.1 own idx tx h0 hm
theorem gEXv_x (Ls : Nat) (xs : Nat → Int32) : gXok (gEXv Ls xs) := fun ad A s h => h.1
theorem gEXv_th (Ls : Nat) (xs : Nat → Int32) : gThE (gEXv Ls xs) := fun ad A s h => h.2.2.1
theorem gCast_moved {s T : State} (hvm : s.vm.Alike T.vm) (h : gCast s) : gCast T := by
  intro a w hw
  have hs : w.before a (s.setVm T.vm) = w.before a s := by
    simp only [gCastL, List.mem_cons, List.not_mem_nil, or_false] at hw
    rcases hw with rfl | rfl | rfl | rfl | rfl
    · exact Cond.castable_setVm hvm _ _
    · exact Cond.castable_setVm hvm _ _
    · exact Cond.declares_setVm hvm _
    · exact Cond.declares_setVm hvm _
    · exact Cond.declares_setVm hvm _
  have h1 : w.before a (s.setVm T.vm) = true := hs.trans (h a w hw)
  have h2 : w.onTables = true := by
    simp only [gCastL, List.mem_cons, List.not_mem_nil, or_false] at hw
    rcases hw with rfl | rfl | rfl | rfl | rfl <;> rfl
  rw [Cond.onTables_vm (A' := a) (U' := T) T.vm w h2] at h1
  exact h1
theorem gEXv_ok (Ls : Nat) (xs : Nat → Int32) : gExOk (gEXv Ls xs) := by
  intro ad A B s T hW h hq hAB
  obtain ⟨⟨h1, h2, h3⟩, h4, ⟨⟨h5, h6⟩, h7⟩, h8, h9, h10, h11⟩ := h
  have hv := hW.alike
  have hb : T.heap[ad 4000000]? = s.heap[ad 4000000]? := hq _ h10 h11
  refine ⟨⟨((h1.kept hq).moved hv).narrow hAB, ((h2.kept hq).moved hv).narrow hAB, ?_⟩, fun own idx tx h0 hm => (h4 own idx tx h0 hm).warm hW, ⟨⟨((h5.kept hq).moved hv).narrow hAB, ((h6.kept hq).moved hv).narrow hAB⟩, gCast_moved hv h7⟩, h8.moved hv, (h9.kept hb).moved hv, ?_, fun z => h11 (hAB _ z)⟩
  · rcases h3 with h3 | h3
    · exact Or.inl (((h3.kept hq).moved hv).narrow hAB)
    · exact Or.inr (((h3.kept hq).moved hv).narrow hAB)
  · obtain ⟨scr, e, -⟩ := h9
    rw [e] at hb
    exact (Array.getElem?_eq_some_iff.mp hb).1
-- the script's own instructions
def gi_sld (Ls : Nat) (xs : Nat → Int32) (k : Nat) : gI := fun K _ _ L st H => match st with
  | .int i :: .ref h :: st => h = 4000000 ∧ vp_in i Ls ∧ K k L (.int (xs i.toNatClampNeg) :: st) H
  | _ => False
def gi_slen (Ls : Nat) (k : Nat) : gI := fun K _ _ L st H => match st with
  | .ref h :: st => h = 4000000 ∧ K k L (.int (Int32.ofNat Ls) :: st) H
  | _ => False
theorem gm_sld {Ls : Nat} {xs : Nat → Int32} {k : Nat} : gMono (gi_sld Ls xs k) := by
  intro K K' Q Q' X X' L L' st H hK hQ hX hL
  rcases st with _ | ⟨v, _ | ⟨w, st⟩⟩
  · exact fun h => h
  · cases v <;> exact fun h => h
  · cases v <;> cases w <;> first | exact fun h => ⟨h.1, h.2.1, hK _ _ _ _ _ hL h.2.2⟩ | exact fun h => h
theorem gm_slen {Ls : Nat} {k : Nat} : gMono (gi_slen Ls k) := by
  intro K K' Q Q' X X' L L' st H hK hQ hX hL
  rcases st with _ | ⟨v, st⟩
  · exact fun h => h
  · cases v <;> first | exact fun h => ⟨h.1, hK _ _ _ _ _ hL h.2⟩ | exact fun h => h
section GKY
variable {inf : Nat → gInf} {cl : List vw_C} {U : List Cond} {SS : Nat → gS} {d : Nat} {TH : Nat → String → Prop} {cc : ByteArray} {nL : Nat} {own : String} {rt : Option FieldType} {z : Nat → Nat} {mc k Ls : Nat} {xs : Nat → Int32}
theorem gs_sld (hd : decode cc k = .ok (.iaload, 1)) (hz : z k ≤ z (k + 1)) : gOk (gEXv Ls xs) inf cl U SS d TH cc nL own rt z mc k (gi_sld Ls xs (k + 1)) := by
  refine ⟨gm_sld, ?_⟩
  intro p l e R s m args below meth c D cA ad n A Q X Qf hC hE hN L st H h Hc locs ls hR hlv
  rcases st with _ | ⟨v, _ | ⟨w, st⟩⟩
  · exact h.elim
  · cases v <;> exact h.elim
  · cases v <;> cases w <;> try exact h.elim
    obtain ⟨rfl, h1, h2⟩ := h
    obtain ⟨h9, h10, h11⟩ := hE.2.1.2.2.2.2
    exact va_sld hC.1 hC.2.1 h9 h10 h11 hR.2.2.2 h1 hd (W.widen hz (by omega) (h2 Hc locs ls hR hlv))
theorem gs_slen (hd : decode cc k = .ok (.arraylength, 1)) (hz : z k ≤ z (k + 1)) : gOk (gEXv Ls xs) inf cl U SS d TH cc nL own rt z mc k (gi_slen Ls (k + 1)) := by
  refine ⟨gm_slen, ?_⟩
  intro p l e R s m args below meth c D cA ad n A Q X Qf hC hE hN L st H h Hc locs ls hR hlv
  rcases st with _ | ⟨v, st⟩
  · exact h.elim
  · cases v <;> try exact h.elim
    obtain ⟨rfl, h2⟩ := h
    obtain ⟨h9, h10, h11⟩ := hE.2.1.2.2.2.2
    exact va_slen hC.1 hC.2.1 h9 h10 h11 hR.2.2.2 hd (W.widen hz (by omega) (h2 Hc locs ls hR hlv))
end GKY
-- the texts out of the Statement's premises
def gTm (i : Nat) : Term := .string (gStrs.getD i ("", 0, "", 0)).1 (gStrs.getD i ("", 0, "", 0)).2.1
theorem gst_ex : ∀ i, i < 22 → Cond.exactly (gTm i) "java/lang/String" ∈ flatC (Cond.and given_1 narrow_1) := by decide +kernel
theorem gst_co : ∀ i, i < 22 → Cond.eq (.field (gTm i) "java/lang/String" "coder" "B") (.int 0) ∈ flatC (Cond.and given_1 narrow_1) := by decide +kernel
theorem gst_ar : ∀ i, i < 22 → Cond.arrayOf (.field (gTm i) "java/lang/String" "value" "[B") .byte ∈ flatC (Cond.and given_1 narrow_1) := by decide +kernel
theorem gst_le : ∀ i, i < 22 → Cond.eq (.length (.field (gTm i) "java/lang/String" "value" "[B")) (.int (Int32.ofNat ((gTxtL.map List.length).getD i 0))) ∈ flatC (Cond.and given_1 narrow_1) := by decide +kernel
def gFl : List Cond := flatC (Cond.and given_1 narrow_1)
def gPos : List Nat := [35, 190, 151, 55, 76, 218, 231, 245, 295, 316, 337, 358, 381, 403, 427, 449, 261, 278, 474, 499, 526, 554]
def gNeP : List (List Nat) := [[0, 214, 187, 75, 149, 226, 239, 254, 306, 326, 346, 368, 389, 412, 433, 457, 270, 286, 481, 507, 534, 563], [214, 0, 217, 215, 216, 230, 243, 258, 310, 330, 350, 372, 393, 416, 437, 461, 274, 290, 485, 511, 538, 567], [187, 217, 0, 188, 189, 229, 242, 257, 309, 329, 349, 371, 392, 415, 436, 460, 273, 289, 484, 510, 537, 566], [75, 215, 188, 0, 150, 227, 240, 255, 307, 327, 347, 369, 390, 413, 434, 458, 271, 287, 482, 508, 535, 564], [149, 216, 189, 150, 0, 228, 241, 256, 308, 328, 348, 370, 391, 414, 435, 459, 272, 288, 483, 509, 536, 565], [226, 230, 229, 227, 228, 0, 244, 259, 311, 331, 351, 373, 394, 417, 438, 462, 275, 291, 486, 512, 539, 568], [239, 243, 242, 240, 241, 244, 0, 260, 312, 332, 352, 374, 395, 418, 439, 463, 276, 292, 487, 513, 540, 569], [254, 258, 257, 255, 256, 259, 260, 0, 313, 333, 353, 375, 396, 419, 440, 464, 277, 293, 488, 514, 541, 570], [306, 310, 309, 307, 308, 311, 312, 313, 0, 336, 356, 378, 399, 422, 443, 467, 314, 315, 491, 517, 544, 573], [326, 330, 329, 327, 328, 331, 332, 333, 336, 0, 357, 379, 400, 423, 444, 468, 334, 335, 492, 518, 545, 574], [346, 350, 349, 347, 348, 351, 352, 353, 356, 357, 0, 380, 401, 424, 445, 469, 354, 355, 493, 519, 546, 575], [368, 372, 371, 369, 370, 373, 374, 375, 378, 379, 380, 0, 402, 425, 446, 470, 376, 377, 494, 520, 547, 576], [389, 393, 392, 390, 391, 394, 395, 396, 399, 400, 401, 402, 0, 426, 447, 471, 397, 398, 495, 521, 548, 577], [412, 416, 415, 413, 414, 417, 418, 419, 422, 423, 424, 425, 426, 0, 448, 472, 420, 421, 496, 522, 549, 578], [433, 437, 436, 434, 435, 438, 439, 440, 443, 444, 445, 446, 447, 448, 0, 473, 441, 442, 497, 523, 550, 579], [457, 461, 460, 458, 459, 462, 463, 464, 467, 468, 469, 470, 471, 472, 473, 0, 465, 466, 498, 524, 551, 580], [270, 274, 273, 271, 272, 275, 276, 277, 314, 334, 354, 376, 397, 420, 441, 465, 0, 294, 489, 515, 542, 571], [286, 290, 289, 287, 288, 291, 292, 293, 315, 335, 355, 377, 398, 421, 442, 466, 294, 0, 490, 516, 543, 572], [481, 485, 484, 482, 483, 486, 487, 488, 491, 492, 493, 494, 495, 496, 497, 498, 489, 490, 0, 525, 552, 581], [507, 511, 510, 508, 509, 512, 513, 514, 517, 518, 519, 520, 521, 522, 523, 524, 515, 516, 525, 0, 553, 582], [534, 538, 537, 535, 536, 539, 540, 541, 544, 545, 546, 547, 548, 549, 550, 551, 542, 543, 552, 553, 0, 583], [563, 567, 566, 564, 565, 568, 569, 570, 573, 574, 575, 576, 577, 578, 579, 580, 571, 572, 581, 582, 583, 0]]
theorem gst_elq : ∀ i, i < 22 → (List.range ((gTxtL.map List.length).getD i 0)).map (fun j => Cond.eq (.elem (.field (gTm i) "java/lang/String" "value" "[B") (.int (Int32.ofNat j))) (.int ((gTxtL.getD i []).getD j 0))) = (gFl.drop (gPos.getD i 0 + 4)).take ((gTxtL.map List.length).getD i 0) := by decide +kernel
theorem gst_el (i : Nat) (hi : i < 22) (j : Nat) (hj : j < (gTxtL.map List.length).getD i 0) : Cond.eq (.elem (.field (gTm i) "java/lang/String" "value" "[B") (.int (Int32.ofNat j))) (.int ((gTxtL.getD i []).getD j 0)) ∈ flatC (Cond.and given_1 narrow_1) :=
  va_run (L := gFl) (f := fun j => Cond.eq (.elem (.field (gTm i) "java/lang/String" "value" "[B") (.int (Int32.ofNat j))) (.int ((gTxtL.getD i []).getD j 0))) (gst_elq i hi) j hj
theorem gst_neq : ∀ i, i < 22 → ∀ j, j < 22 → i ≠ j → (gFl[(gNeP.getD i []).getD j 0]? = some (Cond.not (Cond.eq (gTm i) (gTm j))) ∨ gFl[(gNeP.getD i []).getD j 0]? = some (Cond.not (Cond.eq (gTm j) (gTm i)))) := by decide +kernel
theorem gst_ne (i : Nat) (hi : i < 22) (j : Nat) (hj : j < 22) (h : i ≠ j) : Cond.not (Cond.eq (gTm i) (gTm j)) ∈ flatC (Cond.and given_1 narrow_1) ∨ Cond.not (Cond.eq (gTm j) (gTm i)) ∈ flatC (Cond.and given_1 narrow_1) :=
  (gst_neq i hi j hj h).imp List.mem_of_getElem? List.mem_of_getElem?
theorem gst_rf : ∀ i, i < 22 → Cond.stringRef (gStrs.getD i ("", 0, "", 0)).1 (gStrs.getD i ("", 0, "", 0)).2.1 (gStrs.getD i ("", 0, "", 0)).2.2.1 ∈ lw_tbl := by decide +kernel
theorem gst_h : ∀ i, i < 22 → (gStrs.getD i ("", 0, "", 0)).2.2.2 = 1000000 + i := by decide +kernel
