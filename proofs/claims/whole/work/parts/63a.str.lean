/-! ===== L2: texts: length, charAt ===== -/
theorem shr_0 (x : Int32) : x >>> ((0 : Int32) &&& 31) = x := by
  rw [show ((0 : Int32) &&& 31) = 0 from rfl]
  simp
section GRX
variable {t : List (List gI)} {Q : gQ} {X : gX} {k : Nat} {L : gL} {st : List Value} {H : gH}
theorem x_xval {k' h : Nat} (hm : ∀ k, gMono (gTab t k)) (e : gTab t k = gi_xval k') (h1 : 1000000 ≤ h) (h2 : h < 1000022) (kk : gWp (gTab t) Q X k' L (.ref (1000000 + h) :: st) H) : gWp (gTab t) Q X k L (.ref h :: st) H := by
  refine gWp_in hm ?_
  rw [e]
  exact ⟨h1, h2, kk⟩
theorem x_xcod {k' h : Nat} (hm : ∀ k, gMono (gTab t k)) (e : gTab t k = gi_xcod k') (h1 : 1000000 ≤ h) (h2 : h < 1000022) (kk : gWp (gTab t) Q X k' L (.int 0 :: st) H) : gWp (gTab t) Q X k L (.ref h :: st) H := by
  refine gWp_in hm ?_
  rw [e]
  exact ⟨h1, h2, kk⟩
theorem x_xlen {k' h : Nat} (hm : ∀ k, gMono (gTab t k)) (e : gTab t k = gi_xlen k') (h1 : 2000000 ≤ h) (h2 : h < 2000022) (kk : gWp (gTab t) Q X k' L (.int (nI (gtx (h - 2000000)).length) :: st) H) : gWp (gTab t) Q X k L (.ref h :: st) H := by
  refine gWp_in hm ?_
  rw [e]
  exact ⟨h1, h2, kk⟩
theorem x_xbald {k' h : Nat} {i : Int32} (hm : ∀ k, gMono (gTab t k)) (e : gTab t k = gi_xbald k') (h1 : 2000000 ≤ h) (h2 : h < 2000022) (h3 : vp_in i (gtx (h - 2000000)).length) (kk : gWp (gTab t) Q X k' L (.int ((gtx (h - 2000000)).getD i.toNatClampNeg 0) :: st) H) : gWp (gTab t) Q X k L (.int i :: .ref h :: st) H := by
  refine gWp_in hm ?_
  rw [e]
  exact ⟨h1, h2, h3, kk⟩
end GRX
section L2S
variable {d i j : Nat} {Q : gQ} {X : gX} {H : gH}
theorem sp_coder (hi : i < 22) (h : Q (some (.int 0)) H) : meth (d + 1) 253 [.ref (1000000 + i)] H Q X := by
  have hm := @mo_String_coder (meth d) (meth_smono d)
  refine (show _ ∧ _ from ⟨Nat.le_of_ble_eq_true rfl, ?_⟩)
  show gWp (gTab (tb_String_coder (meth d))) Q X 0 [some (.ref (1000000 + i))] [] H
  refine gWp_in hm ?_
  show gWp (gTab (tb_String_coder (meth d))) Q X 3 [some (.ref (1000000 + i))] [.int 1] H
  refine x_if hm (show gTab (tb_String_coder (meth d)) 3 = gi_if 6 13 (fun x => x = 0) from rfl) (fun c => absurd c (by decide)) (fun _ => ?_)
  refine x_aload hm (show gTab (tb_String_coder (meth d)) 6 = gi_aload 7 0 from rfl) rfl ?_
  refine x_xcod hm (show gTab (tb_String_coder (meth d)) 7 = gi_xcod 10 from rfl) (by omega) (by omega) ?_
  refine x_goto hm (show gTab (tb_String_coder (meth d)) 10 = gi_goto 14 from rfl) ?_
  exact x_zret hm (show gTab (tb_String_coder (meth d)) 14 = gi_zret .byte from rfl) rfl h
theorem sp_length (hi : i < 22) (h : Q (some (.int (nI (gtx i).length))) H) : meth (d + 2) 251 [.ref (1000000 + i)] H Q X := by
  have hm := @mo_String_length (meth (d + 1)) (meth_smono (d + 1))
  refine (show _ ∧ _ from ⟨Nat.le_of_ble_eq_true rfl, ?_⟩)
  show gWp (gTab (tb_String_length (meth (d + 1)))) Q X 0 [some (.ref (1000000 + i))] [] H
  refine x_aload hm (show gTab (tb_String_length (meth (d + 1))) 0 = gi_aload 1 0 from rfl) rfl ?_
  refine x_xval hm (show gTab (tb_String_length (meth (d + 1))) 1 = gi_xval 4 from rfl) (by omega) (by omega) ?_
  refine x_xlen hm (show gTab (tb_String_length (meth (d + 1))) 4 = gi_xlen 5 from rfl) (by omega) (by omega) ?_
  rw [show 1000000 + (1000000 + i) - 2000000 = i by omega]
  refine x_aload hm (show gTab (tb_String_length (meth (d + 1))) 5 = gi_aload 6 0 from rfl) rfl ?_
  refine x_callx hm (show gTab (tb_String_length (meth (d + 1))) 6 = gi_callx (meth (d + 1) 253) 9 1 from rfl) rfl rfl (Nat.le_of_ble_eq_true rfl) (Nat.le_of_ble_eq_true rfl) (show 1000000 ≤ 1000000 + i ∧ 1000000 + i < 1000000 + 22 from ⟨by omega, by omega⟩) ?_
  refine sp_coder hi ?_
  refine x_st hm (show gTab (tb_String_length (meth (d + 1))) 9 = gi_st 10 (gf_i2 (fun x y => x >>> (y &&& 31))) from rfl) rfl ?_
  show gWp _ Q X 10 _ [Value.int (nI (gtx i).length >>> ((0 : Int32) &&& 31))] H
  rw [shr_0]
  exact x_iret hm (show gTab (tb_String_length (meth (d + 1))) 10 = gi_iret from rfl) h
theorem sp_isLatin1 (hi : i < 22) (h : Q (some (.int 1)) H) : meth (d + 1) 254 [.ref (1000000 + i)] H Q X := by
  have hm := @mo_String_isLatin1 (meth d) (meth_smono d)
  refine (show _ ∧ _ from ⟨Nat.le_of_ble_eq_true rfl, ?_⟩)
  show gWp (gTab (tb_String_isLatin1 (meth d))) Q X 0 [some (.ref (1000000 + i))] [] H
  refine gWp_in hm ?_
  show gWp (gTab (tb_String_isLatin1 (meth d))) Q X 3 [some (.ref (1000000 + i))] [.int 1] H
  refine x_if hm (show gTab (tb_String_isLatin1 (meth d)) 3 = gi_if 6 17 (fun x => x = 0) from rfl) (fun c => absurd c (by decide)) (fun _ => ?_)
  refine x_aload hm (show gTab (tb_String_isLatin1 (meth d)) 6 = gi_aload 7 0 from rfl) rfl ?_
  refine x_xcod hm (show gTab (tb_String_isLatin1 (meth d)) 7 = gi_xcod 10 from rfl) (by omega) (by omega) ?_
  refine x_if hm (show gTab (tb_String_isLatin1 (meth d)) 10 = gi_if 13 17 (fun x => ¬ x = 0) from rfl) (fun c => absurd rfl c) (fun _ => ?_)
  refine x_st hm (show gTab (tb_String_isLatin1 (meth d)) 13 = gi_st 14 (gf_push (.int 1)) from rfl) rfl ?_
  refine x_goto hm (show gTab (tb_String_isLatin1 (meth d)) 14 = gi_goto 18 from rfl) ?_
  exact x_zret hm (show gTab (tb_String_isLatin1 (meth d)) 18 = gi_zret .boolean from rfl) rfl h
theorem sp_pre {v : Value} {a b : Int32} (hv : v = .null ∨ v = .ref 3000000) (h0 : ¬ a < 0) (h1 : a < b) (h : Q (some (.int a)) H) : meth (d + 1) 257 [.int a, .int b, v] H Q X := by
  have hm := @mo_Preconditions_checkIndex (meth d) (meth_smono d)
  have hg : gWp (gTab (tb_Preconditions_checkIndex (meth d))) Q X 0 [some (.int a), some (.int b), some v] [] H := by
    refine x_iload hm (show gTab (tb_Preconditions_checkIndex (meth d)) 0 = gi_iload 1 0 from rfl) rfl ?_
    refine x_if hm (show gTab (tb_Preconditions_checkIndex (meth d)) 1 = gi_if 4 9 (fun x => x < 0) from rfl) (fun c => absurd c h0) (fun _ => ?_)
    refine x_iload hm (show gTab (tb_Preconditions_checkIndex (meth d)) 4 = gi_iload 5 0 from rfl) rfl ?_
    refine x_iload hm (show gTab (tb_Preconditions_checkIndex (meth d)) 5 = gi_iload 6 1 from rfl) rfl ?_
    refine x_icmp hm (show gTab (tb_Preconditions_checkIndex (meth d)) 6 = gi_icmp 9 16 (fun x y => x < y) from rfl) (fun _ => ?_) (fun c => absurd h1 c)
    refine x_iload hm (show gTab (tb_Preconditions_checkIndex (meth d)) 16 = gi_iload 17 0 from rfl) rfl ?_
    exact x_iret hm (show gTab (tb_Preconditions_checkIndex (meth d)) 17 = gi_iret from rfl) h
  rcases hv with rfl | rfl <;> exact (show _ ∧ _ from ⟨Nat.le_of_ble_eq_true rfl, hg⟩)
theorem sp_checkIndex {a b : Int32} (h0 : ¬ a < 0) (h1 : a < b) (h : Q none H) : meth (d + 2) 256 [.int a, .int b] H Q X := by
  have hm := @mo_String_checkIndex (meth (d + 1)) (meth_smono (d + 1))
  refine (show _ ∧ _ from ⟨Nat.le_of_ble_eq_true rfl, ?_⟩)
  show gWp (gTab (tb_String_checkIndex (meth (d + 1)))) Q X 0 [some (.int a), some (.int b)] [] H
  refine x_iload hm (show gTab (tb_String_checkIndex (meth (d + 1))) 0 = gi_iload 1 0 from rfl) rfl ?_
  refine x_iload hm (show gTab (tb_String_checkIndex (meth (d + 1))) 1 = gi_iload 2 1 from rfl) rfl ?_
  have key : ∀ v : Value, (v = .null ∨ v = .ref 3000000) → gWp (gTab (tb_String_checkIndex (meth (d + 1)))) Q X 5 [some (.int a), some (.int b)] [v, .int b, .int a] H := by
    intro v hv
    refine x_calls hm (show gTab (tb_String_checkIndex (meth (d + 1))) 5 = gi_calls (meth (d + 1) 257) 8 3 from rfl) rfl rfl (Nat.le_of_ble_eq_true rfl) (Nat.le_of_ble_eq_true rfl) ?_
    refine sp_pre hv h0 h1 ?_
    refine x_st hm (show gTab (tb_String_checkIndex (meth (d + 1))) 8 = gi_st 9 gf_pop from rfl) rfl ?_
    exact x_vret hm (show gTab (tb_String_checkIndex (meth (d + 1))) 9 = gi_vret from rfl) h
  refine gWp_in hm ?_
  rw [show gTab (tb_String_checkIndex (meth (d + 1))) 2 = gi_xany 5 from rfl]
  exact ⟨key _ (Or.inl rfl), key _ (Or.inr rfl)⟩
theorem gtx_lt : ∀ i, i < 22 → (gtx i).length < 100 := by decide +kernel
theorem gtx_ch : ∀ i, i < 22 → ∀ j, j < (gtx i).length → ((((gtx i).getD j 0) &&& 255).toUInt32 % 65536).toInt32 = (gtx i).getD j 0 := by decide +kernel
theorem gtx_nc : ∀ i, i < 22 → ∀ j, j < (gtx i).length → narrow .char (.int ((gtx i).getD j 0)) = .int ((gtx i).getD j 0) := by
  intro i hi j hj
  rw [← gtx_ch i hi j hj]
  exact pk_nc _
theorem sp_latCharAt (hi : i < 22) (hj : j < (gtx i).length) (h : Q (some (.int ((gtx i).getD j 0))) H) : meth (d + 3) 255 [.ref (2000000 + i), .int (nI j)] H Q X := by
  have hm := @mo_StringLatin1_charAt (meth (d + 2)) (meth_smono (d + 2))
  have hl := gtx_lt i hi
  refine (show _ ∧ _ from ⟨Nat.le_of_ble_eq_true rfl, ?_⟩)
  show gWp (gTab (tb_StringLatin1_charAt (meth (d + 2)))) Q X 0 [some (.ref (2000000 + i)), some (.int (nI j))] [] H
  refine x_iload hm (show gTab (tb_StringLatin1_charAt (meth (d + 2))) 0 = gi_iload 1 1 from rfl) rfl ?_
  refine x_aload hm (show gTab (tb_StringLatin1_charAt (meth (d + 2))) 1 = gi_aload 2 0 from rfl) rfl ?_
  refine x_xlen hm (show gTab (tb_StringLatin1_charAt (meth (d + 2))) 2 = gi_xlen 3 from rfl) (by omega) (by omega) ?_
  rw [show 2000000 + i - 2000000 = i by omega]
  refine x_calls hm (show gTab (tb_StringLatin1_charAt (meth (d + 2))) 3 = gi_calls (meth (d + 2) 256) 6 2 from rfl) rfl rfl (Nat.le_of_ble_eq_true rfl) (Nat.le_of_ble_eq_true rfl) ?_
  refine sp_checkIndex (nI_pos (by omega)) (nI_lt hj (by omega)) ?_
  refine x_aload hm (show gTab (tb_StringLatin1_charAt (meth (d + 2))) 6 = gi_aload 7 0 from rfl) rfl ?_
  refine x_iload hm (show gTab (tb_StringLatin1_charAt (meth (d + 2))) 7 = gi_iload 8 1 from rfl) rfl ?_
  refine x_xbald hm (show gTab (tb_StringLatin1_charAt (meth (d + 2))) 8 = gi_xbald 9 from rfl) (by omega) (by omega) (by rw [show 2000000 + i - 2000000 = i by omega]; exact vp_in_nI hj (by omega)) ?_
  rw [show 2000000 + i - 2000000 = i by omega, nI_clamp (by omega)]
  refine x_st hm (show gTab (tb_StringLatin1_charAt (meth (d + 2))) 9 = gi_st 12 (gf_push (.int 255)) from rfl) rfl ?_
  refine x_st hm (show gTab (tb_StringLatin1_charAt (meth (d + 2))) 12 = gi_st 13 (gf_i2 (fun x y => x &&& y)) from rfl) rfl ?_
  refine x_st hm (show gTab (tb_StringLatin1_charAt (meth (d + 2))) 13 = gi_st 14 (gf_i1 (fun x => (x.toUInt32 % 65536).toInt32)) from rfl) rfl ?_
  show gWp _ Q X 14 _ [Value.int ((((gtx i).getD j 0) &&& 255).toUInt32 % 65536).toInt32] H
  rw [gtx_ch i hi j hj]
  exact x_zret hm (show gTab (tb_StringLatin1_charAt (meth (d + 2))) 14 = gi_zret .char from rfl) (gtx_nc i hi j hj) h
theorem sp_charAt (hi : i < 22) (hj : j < (gtx i).length) (h : Q (some (.int ((gtx i).getD j 0))) H) : meth (d + 4) 252 [.ref (1000000 + i), .int (nI j)] H Q X := by
  have hm := @mo_String_charAt (meth (d + 3)) (meth_smono (d + 3))
  refine (show _ ∧ _ from ⟨Nat.le_of_ble_eq_true rfl, ?_⟩)
  show gWp (gTab (tb_String_charAt (meth (d + 3)))) Q X 0 [some (.ref (1000000 + i)), some (.int (nI j))] [] H
  refine x_aload hm (show gTab (tb_String_charAt (meth (d + 3))) 0 = gi_aload 1 0 from rfl) rfl ?_
  refine x_callx hm (show gTab (tb_String_charAt (meth (d + 3))) 1 = gi_callx (meth (d + 3) 254) 4 1 from rfl) rfl rfl (Nat.le_of_ble_eq_true rfl) (Nat.le_of_ble_eq_true rfl) (show 1000000 ≤ 1000000 + i ∧ 1000000 + i < 1000000 + 22 from ⟨by omega, by omega⟩) ?_
  refine sp_isLatin1 hi ?_
  refine x_if hm (show gTab (tb_String_charAt (meth (d + 3))) 4 = gi_if 7 16 (fun x => x = 0) from rfl) (fun c => absurd c (by decide)) (fun _ => ?_)
  refine x_aload hm (show gTab (tb_String_charAt (meth (d + 3))) 7 = gi_aload 8 0 from rfl) rfl ?_
  refine x_xval hm (show gTab (tb_String_charAt (meth (d + 3))) 8 = gi_xval 11 from rfl) (by omega) (by omega) ?_
  refine x_iload hm (show gTab (tb_String_charAt (meth (d + 3))) 11 = gi_iload 12 1 from rfl) rfl ?_
  rw [show 1000000 + (1000000 + i) = 2000000 + i by omega]
  refine x_calls hm (show gTab (tb_String_charAt (meth (d + 3))) 12 = gi_calls (meth (d + 3) 255) 15 2 from rfl) rfl rfl (Nat.le_of_ble_eq_true rfl) (Nat.le_of_ble_eq_true rfl) ?_
  refine sp_latCharAt hi hj ?_
  exact x_zret hm (show gTab (tb_String_charAt (meth (d + 3))) 15 = gi_zret .char from rfl) (gtx_nc i hi j hj) h
end L2S
