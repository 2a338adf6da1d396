/-! ===== the cases of the law's loop ===== -/
def lL3 (i : Nat) (a b c : Option Value) : gL := [some (.ref 4000000), some (.ref 0), some (.ref 52), some (.ref 81), some (.int (nI i)), a, b, c]
abbrev lT (Ls : Nat) (xs : Nat → Int32) (E : gL → List Value → gH → Prop) (d : Nat) : List (List gI) := tb_law Ls xs E (ssL (d + 60))
def lA (xs : Nat → Int32) (i : Nat) (j : Int32) : Int32 := xs (nI i + j).toNatClampNeg
/-- what the loop goes on with -/
def lK (Ls : Nat) (xs : Nat → Int32) (E : gL → List Value → gH → Prop) (d : Nat) (Q : gQ) (X : gX) (i : Nat) (P' : Nat → Nat) : Prop :=
  ∀ (s : ST) (f : Nat → Int64) (P : Nat → Nat) (I A I' A' : Nat → Nat → Int32), sOk s → cRep s P I A → rRep s I' A' → gWp (gTab (lT Ls xs E d)) Q X 2438 (lL3 i none none none) [] (lW f P I A P' I' A')
theorem lw_in {i Ls j : Nat} (hi : i + 11 ≤ Ls) (hL : Ls ≤ 5632) (hj : j < 11) : vp_in (nI i + nI j) Ls := by
  rw [nI_add]
  exact vp_in_nI (by omega) (by omega)
theorem lL_le {i : Nat} {a b c : Option Value} : gLe (lL3 i none none none) (lL3 i a b c) := gLe_c (gLe_c (gLe_c (gLe_c (gLe_c (gLe_d (gLe_d (gLe_d gLe_n)))))))
theorem cmp_r (a : Int64) : lg_cmp a a = 0 := by
  unfold lg_cmp
  rw [if_neg (fun q : a > a => Int64.lt_irrefl q), if_pos rfl]
section LCL
variable {d : Nat} {Q : gQ} {X : gX} {f : Nat → Int64} {P : Nat → Nat} {I A : Nat → Nat → Int32} {P' : Nat → Nat} {I' A' : Nat → Nat → Int32} {s : ST} {r : (Value ⊕ String) × ST}
theorem cCall_L {M : Nat} {as : List Value} (hc : cCall M as r s) (hM : M < 258) (hr : cRep s P I A) (h : ∀ P2 I2 A2, cRep r.2 P2 I2 A2 → oQ Q X r.1 (lW f P2 I2 A2 P' I' A')) : ssL (d + 60) M (.ref 0 :: as) (lW f P I A P' I' A') Q X := by
  refine Or.inl ⟨hM, ?_⟩
  have := hc (d + 1) Q X (gset (lH f) 52 mck P' I' A') 0 P I A hr h
  rw [show d + 1 + 60 = d + 60 + 1 by omega] at this
  exact this
theorem rCall_L {M : Nat} {as : List Value} {kc : String → Nat} {z0 : Value} (hc : rCall M as kc z0 r s) (hM : M < 258) (hr : rRep s I' A') (h : ∀ I2 A2 v, rRep r.2 I2 A2 → rOut kc z0 r.1 (I2 0 0) v → Q (some v) (lW f P I A P' I2 A2)) : ssL (d + 60) M (.ref 52 :: as) (lW f P I A P' I' A') Q X := by
  refine Or.inl ⟨hM, ?_⟩
  have := hc (d + 1) Q X (gset (lH f) 0 cck P I A) 52 P' I' A' hr (fun I2 A2 v q o => by rw [← lW_sw]; exact h I2 A2 v q o)
  rw [show d + 1 + 60 = d + 60 + 1 by omega, ← lW_sw] at this
  exact this
theorem thrown_L (h : Q (some (.int (I' 0 0))) (lW f P I A P' I' A')) : ssL (d + 60) 142 [.ref 52] (lW f P I A P' I' A') Q X := by
  refine Or.inl ⟨by decide, ?_⟩
  rw [lW_sw] at h ⊢
  exact rs_thrown (d := d + 60) (x := 52) h
end LCL
/-- a call's answer: a number, or a throw of these -/
def rI (hs : List (String × Int32)) (kc : String → Nat) : Value ⊕ String → Prop
  | .inl v => ∃ a, v = .int a
  | .inr E => ∃ n, (E, n) ∈ hs ∧ n = nI (kc E) ∧ ¬ n = 0
def rJ (hs : List (String × Int32)) (kc : String → Nat) : Value ⊕ String → Prop
  | .inl v => ∃ a, v = .long a
  | .inr E => ∃ n, (E, n) ∈ hs ∧ n = nI (kc E) ∧ ¬ n = 0
/-- wrapper and reference agree -/
def wAg (kc : String → Nat) (cv : Value → Option Int64) (n : Int32) (a : Int64) : Value ⊕ String → Prop
  | .inl v => n = 0 ∧ cv v = some a
  | .inr E => n = nI (kc E) ∧ ¬ n = 0
theorem wAg_th {kc : String → Nat} {cv : Value → Option Int64} {n : Int32} {a : Int64} {w : Value ⊕ String} {z0 v : Value} {th : Int32} (h : wAg kc cv n a w) (o : rOut kc z0 w th v) : th = n := by
  cases w with
  | inl x => exact o.1.trans h.1.symm
  | inr EE => exact o.1.trans h.1.symm
theorem wAg_i {hs : List (String × Int32)} {kc : String → Nat} {cv : Value → Option Int64} {n : Int32} {a : Int64} {w : Value ⊕ String} {v : Value} {th : Int32} (h : wAg kc cv n a w) (hr : rI hs kc w) (o : rOut kc (.int 0) w th v) : ∃ b, v = .int b ∧ (n = 0 → cv (.int b) = some a) := by
  cases w with
  | inl x =>
    obtain ⟨b, rfl⟩ := hr
    obtain ⟨-, rfl⟩ := o
    exact ⟨b, rfl, fun _ => h.2⟩
  | inr EE =>
    obtain ⟨-, rfl⟩ := o
    exact ⟨0, rfl, fun q => absurd q h.2⟩
theorem wAg_l {hs : List (String × Int32)} {kc : String → Nat} {cv : Value → Option Int64} {n : Int32} {a : Int64} {w : Value ⊕ String} {v : Value} {th : Int32} (h : wAg kc cv n a w) (hr : rJ hs kc w) (o : rOut kc (.long 0) w th v) : ∃ b, v = .long b ∧ (n = 0 → cv (.long b) = some a) := by
  cases w with
  | inl x =>
    obtain ⟨b, rfl⟩ := hr
    obtain ⟨-, rfl⟩ := o
    exact ⟨b, rfl, fun _ => h.2⟩
  | inr EE =>
    obtain ⟨-, rfl⟩ := o
    exact ⟨0, rfl, fun q => absurd q h.2⟩
theorem wQ_of {hs : List (String × Int32)} {kc : String → Nat} {cv : Value → Option Int64} {Q : gQ} {f : Nat → Int64} {HH : (Nat → Int64) → gH} {w : Value ⊕ String} (hr : rI hs kc w) (hcv : ∀ a, ∃ b, cv (.int a) = some b) (h : ∀ n g, wAg kc cv n (g 0) w → Q (some (.int n)) (HH g)) : wQ hs cv Q f HH w := by
  cases w with
  | inl x =>
    obtain ⟨a, rfl⟩ := hr
    obtain ⟨b, hb⟩ := hcv a
    exact ⟨b, hb, h 0 _ ⟨rfl, hb.trans (by simp [vp_updL])⟩⟩
  | inr EE =>
    obtain ⟨n, h1, h2, h3⟩ := hr
    exact ⟨n, h1, h n f ⟨h2, h3⟩⟩
theorem wQ_ofL {hs : List (String × Int32)} {kc : String → Nat} {Q : gQ} {f : Nat → Int64} {HH : (Nat → Int64) → gH} {w : Value ⊕ String} (hr : rJ hs kc w) (h : ∀ n g, wAg kc cvL n (g 0) w → Q (some (.int n)) (HH g)) : wQ hs cvL Q f HH w := by
  cases w with
  | inl x =>
    obtain ⟨a, rfl⟩ := hr
    exact ⟨a, rfl, h 0 _ ⟨rfl, by simp [vp_updL, cvL]⟩⟩
  | inr EE =>
    obtain ⟨n, h1, h2, h3⟩ := hr
    exact ⟨n, h1, h n f ⟨h2, h3⟩⟩
section LCC
variable {Ls : Nat} {xs : Nat → Int32} {E : gL → List Value → gH → Prop} {d i : Nat} {Q : gQ} {X : gX} {f : Nat → Int64} {P : Nat → Nat} {I A : Nat → Nat → Int32} {P' : Nat → Nat} {I' A' : Nat → Nat → Int32} {s : ST} {r : (Value ⊕ String) × ST}
set_option maxRecDepth 40000 in
theorem lc_feed (hm : ∀ k, gMono (gTab (lT Ls xs E d) k)) (hi : i + 11 ≤ Ls) (hL : Ls ≤ 5632) (hc : cRep s P I A) (hr : rRep s I' A') (hC : cCall 98 [.int (lA xs i 1), .int (lA xs i 2), .int (lA xs i 3), .int (lA xs i 4), .int (lA xs i 5)] r s) (hR : rCall 145 [.int (lA xs i 1), .int (lA xs i 2), .int (lA xs i 3), .int (lA xs i 4), .int (lA xs i 5)] kA (.int 0) r s) (ho : sOk r.2) (hx : rI []  kA r.1) (hk : lK Ls xs E d Q X i P') : gWp (gTab (lT Ls xs E d)) Q X 212 (lL3 i none none none) [] (lW f P I A P' I' A') := by
  refine x_aload hm (show gTab (lT Ls xs E d) 212 = gi_aload 213 1 from rfl) rfl (x_aload hm (show gTab (lT Ls xs E d) 213 = gi_aload 214 0 from rfl) rfl (x_iload hm (show gTab (lT Ls xs E d) 214 = gi_iload 216 4 from rfl) rfl (x_st hm (show gTab (lT Ls xs E d) 216 = gi_st 217 (gf_push (.int 1)) from rfl) rfl (x_st hm (show gTab (lT Ls xs E d) 217 = gi_st 218 (gf_i2 (fun x y => x + y)) from rfl) rfl (x_sld hm (show gTab (lT Ls xs E d) 218 = gi_sld Ls xs 219 from rfl) (lw_in (j := 1) hi hL (by decide)) (x_aload hm (show gTab (lT Ls xs E d) 219 = gi_aload 220 0 from rfl) rfl (x_iload hm (show gTab (lT Ls xs E d) 220 = gi_iload 222 4 from rfl) rfl (x_st hm (show gTab (lT Ls xs E d) 222 = gi_st 223 (gf_push (.int 2)) from rfl) rfl (x_st hm (show gTab (lT Ls xs E d) 223 = gi_st 224 (gf_i2 (fun x y => x + y)) from rfl) rfl (x_sld hm (show gTab (lT Ls xs E d) 224 = gi_sld Ls xs 225 from rfl) (lw_in (j := 2) hi hL (by decide)) (x_aload hm (show gTab (lT Ls xs E d) 225 = gi_aload 226 0 from rfl) rfl (x_iload hm (show gTab (lT Ls xs E d) 226 = gi_iload 228 4 from rfl) rfl (x_st hm (show gTab (lT Ls xs E d) 228 = gi_st 229 (gf_push (.int 3)) from rfl) rfl (x_st hm (show gTab (lT Ls xs E d) 229 = gi_st 230 (gf_i2 (fun x y => x + y)) from rfl) rfl (x_sld hm (show gTab (lT Ls xs E d) 230 = gi_sld Ls xs 231 from rfl) (lw_in (j := 3) hi hL (by decide)) (x_aload hm (show gTab (lT Ls xs E d) 231 = gi_aload 232 0 from rfl) rfl (x_iload hm (show gTab (lT Ls xs E d) 232 = gi_iload 234 4 from rfl) rfl (x_st hm (show gTab (lT Ls xs E d) 234 = gi_st 235 (gf_push (.int 4)) from rfl) rfl (x_st hm (show gTab (lT Ls xs E d) 235 = gi_st 236 (gf_i2 (fun x y => x + y)) from rfl) rfl (x_sld hm (show gTab (lT Ls xs E d) 236 = gi_sld Ls xs 237 from rfl) (lw_in (j := 4) hi hL (by decide)) (x_aload hm (show gTab (lT Ls xs E d) 237 = gi_aload 238 0 from rfl) rfl (x_iload hm (show gTab (lT Ls xs E d) 238 = gi_iload 240 4 from rfl) rfl (x_st hm (show gTab (lT Ls xs E d) 240 = gi_st 241 (gf_push (.int 5)) from rfl) rfl (x_st hm (show gTab (lT Ls xs E d) 241 = gi_st 242 (gf_i2 (fun x y => x + y)) from rfl) rfl (x_sld hm (show gTab (lT Ls xs E d) 242 = gi_sld Ls xs 243 from rfl) (lw_in (j := 5) hi hL (by decide)) (x_callvR hm (show gTab (lT Ls xs E d) 243 = gi_callv (ssL (d + 60) 98) 9 246 6 from rfl) (as := .ref 0 :: [.int (lA xs i 1), .int (lA xs i 2), .int (lA xs i 3), .int (lA xs i 4), .int (lA xs i 5)]) (rest := []) rfl rfl (Nat.le_of_ble_eq_true rfl) (Nat.le_of_ble_eq_true rfl) lW_r0 (cCall_L hC (by decide) hc (fun P2 I2 A2 q => ?_))))))))))))))))))))))))))))
  cases hv : r.1 with
  | inr EE =>
    rw [hv] at hx
    obtain ⟨_, h1, _⟩ := hx
    cases h1
  | inl v =>
    rw [hv] at hx
    obtain ⟨a, rfl⟩ := hx
    show gWp (gTab (lT Ls xs E d)) Q X 246 (lL3 i none none none) [.int a] (lW f P2 I2 A2 P' I' A')
    refine x_aload hm (show gTab (lT Ls xs E d) 246 = gi_aload 247 2 from rfl) rfl (x_aload hm (show gTab (lT Ls xs E d) 247 = gi_aload 248 0 from rfl) rfl (x_iload hm (show gTab (lT Ls xs E d) 248 = gi_iload 250 4 from rfl) rfl (x_st hm (show gTab (lT Ls xs E d) 250 = gi_st 251 (gf_push (.int 1)) from rfl) rfl (x_st hm (show gTab (lT Ls xs E d) 251 = gi_st 252 (gf_i2 (fun x y => x + y)) from rfl) rfl (x_sld hm (show gTab (lT Ls xs E d) 252 = gi_sld Ls xs 253 from rfl) (lw_in (j := 1) hi hL (by decide)) (x_aload hm (show gTab (lT Ls xs E d) 253 = gi_aload 254 0 from rfl) rfl (x_iload hm (show gTab (lT Ls xs E d) 254 = gi_iload 256 4 from rfl) rfl (x_st hm (show gTab (lT Ls xs E d) 256 = gi_st 257 (gf_push (.int 2)) from rfl) rfl (x_st hm (show gTab (lT Ls xs E d) 257 = gi_st 258 (gf_i2 (fun x y => x + y)) from rfl) rfl (x_sld hm (show gTab (lT Ls xs E d) 258 = gi_sld Ls xs 259 from rfl) (lw_in (j := 2) hi hL (by decide)) (x_aload hm (show gTab (lT Ls xs E d) 259 = gi_aload 260 0 from rfl) rfl (x_iload hm (show gTab (lT Ls xs E d) 260 = gi_iload 262 4 from rfl) rfl (x_st hm (show gTab (lT Ls xs E d) 262 = gi_st 263 (gf_push (.int 3)) from rfl) rfl (x_st hm (show gTab (lT Ls xs E d) 263 = gi_st 264 (gf_i2 (fun x y => x + y)) from rfl) rfl (x_sld hm (show gTab (lT Ls xs E d) 264 = gi_sld Ls xs 265 from rfl) (lw_in (j := 3) hi hL (by decide)) (x_aload hm (show gTab (lT Ls xs E d) 265 = gi_aload 266 0 from rfl) rfl (x_iload hm (show gTab (lT Ls xs E d) 266 = gi_iload 268 4 from rfl) rfl (x_st hm (show gTab (lT Ls xs E d) 268 = gi_st 269 (gf_push (.int 4)) from rfl) rfl (x_st hm (show gTab (lT Ls xs E d) 269 = gi_st 270 (gf_i2 (fun x y => x + y)) from rfl) rfl (x_sld hm (show gTab (lT Ls xs E d) 270 = gi_sld Ls xs 271 from rfl) (lw_in (j := 4) hi hL (by decide)) (x_aload hm (show gTab (lT Ls xs E d) 271 = gi_aload 272 0 from rfl) rfl (x_iload hm (show gTab (lT Ls xs E d) 272 = gi_iload 274 4 from rfl) rfl (x_st hm (show gTab (lT Ls xs E d) 274 = gi_st 275 (gf_push (.int 5)) from rfl) rfl (x_st hm (show gTab (lT Ls xs E d) 275 = gi_st 276 (gf_i2 (fun x y => x + y)) from rfl) rfl (x_sld hm (show gTab (lT Ls xs E d) 276 = gi_sld Ls xs 277 from rfl) (lw_in (j := 5) hi hL (by decide)) (x_callvR hm (show gTab (lT Ls xs E d) 277 = gi_callv (ssL (d + 60) 145) 10 280 6 from rfl) (as := .ref 52 :: [.int (lA xs i 1), .int (lA xs i 2), .int (lA xs i 3), .int (lA xs i 4), .int (lA xs i 5)]) (rest := [.int a]) rfl rfl (Nat.le_of_ble_eq_true rfl) (Nat.le_of_ble_eq_true rfl) lW_r52 (rCall_L hR (by decide) hr (fun I3 A3 v q3 o => ?_))))))))))))))))))))))))))))
    rw [hv] at o
    obtain ⟨-, rfl⟩ := o
    show gWp (gTab (lT Ls xs E d)) Q X 280 (lL3 i none none none) [.int a, .int a] (lW f P2 I2 A2 P' I3 A3)
    exact x_icmp hm (show gTab (lT Ls xs E d) 280 = gi_icmp 283 2438 (fun x y => x = y) from rfl) (fun _ => hk r.2 f P2 I2 A2 I3 A3 ho q q3) (fun q => absurd rfl q)
set_option maxRecDepth 40000 in
theorem lc_state (hm : ∀ k, gMono (gTab (lT Ls xs E d) k)) (hi : i + 11 ≤ Ls) (hL : Ls ≤ 5632) (hc : cRep s P I A) (hr : rRep s I' A') (hC : cCall 99 [.int (lA xs i 1)] r s) (hR : rCall 167 [.int (lA xs i 1)] kA (.int 0) r s) (ho : sOk r.2) (hx : rI [("java/lang/IllegalArgumentException", 1)] kA r.1) (hk : lK Ls xs E d Q X i P') : gWp (gTab (lT Ls xs E d)) Q X 285 (lL3 i none none none) [] (lW f P I A P' I' A') := by
  refine x_aload hm (show gTab (lT Ls xs E d) 285 = gi_aload 286 1 from rfl) rfl (x_aload hm (show gTab (lT Ls xs E d) 286 = gi_aload 287 0 from rfl) rfl (x_iload hm (show gTab (lT Ls xs E d) 287 = gi_iload 289 4 from rfl) rfl (x_st hm (show gTab (lT Ls xs E d) 289 = gi_st 290 (gf_push (.int 1)) from rfl) rfl (x_st hm (show gTab (lT Ls xs E d) 290 = gi_st 291 (gf_i2 (fun x y => x + y)) from rfl) rfl (x_sld hm (show gTab (lT Ls xs E d) 291 = gi_sld Ls xs 292 from rfl) (lw_in (j := 1) hi hL (by decide)) (x_aload hm (show gTab (lT Ls xs E d) 292 = gi_aload 293 3 from rfl) rfl (x_calls hm (show gTab (lT Ls xs E d) 293 = gi_calls (ssL (d + 60) 258) 296 3 from rfl) (as := [.ref 0, .int (lA xs i 1), .ref 81]) (rest := []) rfl rfl (Nat.le_of_ble_eq_true rfl) (Nat.le_of_ble_eq_true rfl) (wr_state hC hc (fun P2 I2 A2 q => wQ_of hx (fun a => ⟨_, rfl⟩) (fun n g hn => ?_))))))))))
  show gWp (gTab (lT Ls xs E d)) Q X 296 (lL3 i none none none) [.int n] (lW g P2 I2 A2 P' I' A')
  refine x_istore (L' := lL3 i (some (.int n)) none none) hm (show gTab (lT Ls xs E d) 296 = gi_istore 298 5 from rfl) rfl (x_aload hm (show gTab (lT Ls xs E d) 298 = gi_aload 299 2 from rfl) rfl (x_aload hm (show gTab (lT Ls xs E d) 299 = gi_aload 300 0 from rfl) rfl (x_iload hm (show gTab (lT Ls xs E d) 300 = gi_iload 302 4 from rfl) rfl (x_st hm (show gTab (lT Ls xs E d) 302 = gi_st 303 (gf_push (.int 1)) from rfl) rfl (x_st hm (show gTab (lT Ls xs E d) 303 = gi_st 304 (gf_i2 (fun x y => x + y)) from rfl) rfl (x_sld hm (show gTab (lT Ls xs E d) 304 = gi_sld Ls xs 305 from rfl) (lw_in (j := 1) hi hL (by decide)) (x_callvR hm (show gTab (lT Ls xs E d) 305 = gi_callv (ssL (d + 60) 167) 10 308 2 from rfl) (as := .ref 52 :: [.int (lA xs i 1)]) (rest := []) rfl rfl (Nat.le_of_ble_eq_true rfl) (Nat.le_of_ble_eq_true rfl) lW_r52 (rCall_L hR (by decide) hr (fun I3 A3 v q3 o => ?_)))))))))
  have hth := wAg_th hn o
  obtain ⟨w, rfl, hw⟩ := wAg_i hn hx o
  show gWp (gTab (lT Ls xs E d)) Q X 308 (lL3 i (some (.int n)) none none) [.int w] (lW g P2 I2 A2 P' I3 A3)
  refine x_istore (L' := lL3 i (some (.int n)) (some (.int w)) none) hm (show gTab (lT Ls xs E d) 308 = gi_istore 310 6 from rfl) rfl (x_aload hm (show gTab (lT Ls xs E d) 310 = gi_aload 311 2 from rfl) rfl (x_callvR hm (show gTab (lT Ls xs E d) 311 = gi_callv (ssL (d + 60) 142) 10 314 1 from rfl) (as := .ref 52 :: []) (rest := []) rfl rfl (Nat.le_of_ble_eq_true rfl) (Nat.le_of_ble_eq_true rfl) lW_r52 (thrown_L ?_)))
  show gWp (gTab (lT Ls xs E d)) Q X 314 (lL3 i (some (.int n)) (some (.int w)) none) [.int (I3 0 0)] (lW g P2 I2 A2 P' I3 A3)
  rw [hth]
  refine x_iload hm (show gTab (lT Ls xs E d) 314 = gi_iload 316 5 from rfl) rfl (x_icmp hm (show gTab (lT Ls xs E d) 316 = gi_icmp 319 321 (fun x y => x = y) from rfl) (fun _ => x_iload hm (show gTab (lT Ls xs E d) 321 = gi_iload 323 5 from rfl) rfl (x_if hm (show gTab (lT Ls xs E d) 323 = gi_if 326 338 (fun x => ¬ x = 0) from rfl) (fun _ => x_goto hm (show gTab (lT Ls xs E d) 338 = gi_goto 2438 from rfl) (x_weak lL_le (hk r.2 g P2 I2 A2 I3 A3 ho q q3))) (fun hn0 => ?_))) (fun q => absurd rfl q))
  have hn : n = 0 := Classical.not_not.mp hn0
  exact x_aload hm (show gTab (lT Ls xs E d) 326 = gi_aload 327 3 from rfl) rfl (x_st hm (show gTab (lT Ls xs E d) 327 = gi_st 328 (gf_push (.int 0)) from rfl) rfl (x_laldW hm (show gTab (lT Ls xs E d) 328 = gi_lald 329 from rfl) (x_iload hm (show gTab (lT Ls xs E d) 329 = gi_iload 331 6 from rfl) rfl (x_st hm (show gTab (lT Ls xs E d) 331 = gi_st 332 gf_i2l from rfl) rfl (x_st hm (show gTab (lT Ls xs E d) 332 = gi_st 333 gf_lcmp from rfl) rfl (x_if hm (show gTab (lT Ls xs E d) 333 = gi_if 336 338 (fun x => x = 0) from rfl) (fun _ => x_goto hm (show gTab (lT Ls xs E d) 338 = gi_goto 2438 from rfl) (x_weak lL_le (hk r.2 g P2 I2 A2 I3 A3 ho q q3))) (fun q0 => absurd (by show lg_cmp _ _ = 0; rw [← Option.some.inj (hw hn)]; exact cmp_r _) q0)))))))
set_option maxRecDepth 40000 in
theorem lc_law (hm : ∀ k, gMono (gTab (lT Ls xs E d) k)) (hi : i + 11 ≤ Ls) (hL : Ls ≤ 5632) (hc : cRep s P I A) (hr : rRep s I' A') (hC : cCall 100 [.int (lA xs i 1)] r s) (hR : rCall 176 [.int (lA xs i 1)] kA (.int 0) r s) (ho : sOk r.2) (hx : rI [("java/lang/IllegalArgumentException", 1)] kA r.1) (hk : lK Ls xs E d Q X i P') : gWp (gTab (lT Ls xs E d)) Q X 341 (lL3 i none none none) [] (lW f P I A P' I' A') := by
  refine x_aload hm (show gTab (lT Ls xs E d) 341 = gi_aload 342 1 from rfl) rfl (x_aload hm (show gTab (lT Ls xs E d) 342 = gi_aload 343 0 from rfl) rfl (x_iload hm (show gTab (lT Ls xs E d) 343 = gi_iload 345 4 from rfl) rfl (x_st hm (show gTab (lT Ls xs E d) 345 = gi_st 346 (gf_push (.int 1)) from rfl) rfl (x_st hm (show gTab (lT Ls xs E d) 346 = gi_st 347 (gf_i2 (fun x y => x + y)) from rfl) rfl (x_sld hm (show gTab (lT Ls xs E d) 347 = gi_sld Ls xs 348 from rfl) (lw_in (j := 1) hi hL (by decide)) (x_aload hm (show gTab (lT Ls xs E d) 348 = gi_aload 349 3 from rfl) rfl (x_calls hm (show gTab (lT Ls xs E d) 349 = gi_calls (ssL (d + 60) 259) 352 3 from rfl) (as := [.ref 0, .int (lA xs i 1), .ref 81]) (rest := []) rfl rfl (Nat.le_of_ble_eq_true rfl) (Nat.le_of_ble_eq_true rfl) (wr_law hC hc (fun P2 I2 A2 q => wQ_of hx (fun a => ⟨_, rfl⟩) (fun n g hn => ?_))))))))))
  show gWp (gTab (lT Ls xs E d)) Q X 352 (lL3 i none none none) [.int n] (lW g P2 I2 A2 P' I' A')
  refine x_istore (L' := lL3 i (some (.int n)) none none) hm (show gTab (lT Ls xs E d) 352 = gi_istore 354 5 from rfl) rfl (x_aload hm (show gTab (lT Ls xs E d) 354 = gi_aload 355 2 from rfl) rfl (x_aload hm (show gTab (lT Ls xs E d) 355 = gi_aload 356 0 from rfl) rfl (x_iload hm (show gTab (lT Ls xs E d) 356 = gi_iload 358 4 from rfl) rfl (x_st hm (show gTab (lT Ls xs E d) 358 = gi_st 359 (gf_push (.int 1)) from rfl) rfl (x_st hm (show gTab (lT Ls xs E d) 359 = gi_st 360 (gf_i2 (fun x y => x + y)) from rfl) rfl (x_sld hm (show gTab (lT Ls xs E d) 360 = gi_sld Ls xs 361 from rfl) (lw_in (j := 1) hi hL (by decide)) (x_callvR hm (show gTab (lT Ls xs E d) 361 = gi_callv (ssL (d + 60) 176) 10 364 2 from rfl) (as := .ref 52 :: [.int (lA xs i 1)]) (rest := []) rfl rfl (Nat.le_of_ble_eq_true rfl) (Nat.le_of_ble_eq_true rfl) lW_r52 (rCall_L hR (by decide) hr (fun I3 A3 v q3 o => ?_)))))))))
  have hth := wAg_th hn o
  obtain ⟨w, rfl, hw⟩ := wAg_i hn hx o
  show gWp (gTab (lT Ls xs E d)) Q X 364 (lL3 i (some (.int n)) none none) [.int w] (lW g P2 I2 A2 P' I3 A3)
  refine x_istore (L' := lL3 i (some (.int n)) (some (.int w)) none) hm (show gTab (lT Ls xs E d) 364 = gi_istore 366 6 from rfl) rfl (x_aload hm (show gTab (lT Ls xs E d) 366 = gi_aload 367 2 from rfl) rfl (x_callvR hm (show gTab (lT Ls xs E d) 367 = gi_callv (ssL (d + 60) 142) 10 370 1 from rfl) (as := .ref 52 :: []) (rest := []) rfl rfl (Nat.le_of_ble_eq_true rfl) (Nat.le_of_ble_eq_true rfl) lW_r52 (thrown_L ?_)))
  show gWp (gTab (lT Ls xs E d)) Q X 370 (lL3 i (some (.int n)) (some (.int w)) none) [.int (I3 0 0)] (lW g P2 I2 A2 P' I3 A3)
  rw [hth]
  refine x_iload hm (show gTab (lT Ls xs E d) 370 = gi_iload 372 5 from rfl) rfl (x_icmp hm (show gTab (lT Ls xs E d) 372 = gi_icmp 375 377 (fun x y => x = y) from rfl) (fun _ => x_iload hm (show gTab (lT Ls xs E d) 377 = gi_iload 379 5 from rfl) rfl (x_if hm (show gTab (lT Ls xs E d) 379 = gi_if 382 394 (fun x => ¬ x = 0) from rfl) (fun _ => x_goto hm (show gTab (lT Ls xs E d) 394 = gi_goto 2438 from rfl) (x_weak lL_le (hk r.2 g P2 I2 A2 I3 A3 ho q q3))) (fun hn0 => ?_))) (fun q => absurd rfl q))
  have hn : n = 0 := Classical.not_not.mp hn0
  exact x_aload hm (show gTab (lT Ls xs E d) 382 = gi_aload 383 3 from rfl) rfl (x_st hm (show gTab (lT Ls xs E d) 383 = gi_st 384 (gf_push (.int 0)) from rfl) rfl (x_laldW hm (show gTab (lT Ls xs E d) 384 = gi_lald 385 from rfl) (x_iload hm (show gTab (lT Ls xs E d) 385 = gi_iload 387 6 from rfl) rfl (x_st hm (show gTab (lT Ls xs E d) 387 = gi_st 388 gf_i2l from rfl) rfl (x_st hm (show gTab (lT Ls xs E d) 388 = gi_st 389 gf_lcmp from rfl) rfl (x_if hm (show gTab (lT Ls xs E d) 389 = gi_if 392 394 (fun x => x = 0) from rfl) (fun _ => x_goto hm (show gTab (lT Ls xs E d) 394 = gi_goto 2438 from rfl) (x_weak lL_le (hk r.2 g P2 I2 A2 I3 A3 ho q q3))) (fun q0 => absurd (by show lg_cmp _ _ = 0; rw [← Option.some.inj (hw hn)]; exact cmp_r _) q0)))))))
end LCC
