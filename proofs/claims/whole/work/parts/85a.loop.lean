/-! ===== the law's loop on the machine ===== -/
/-- what holds where the loop goes round -/
def lE (Ls i : Nat) (P' : Nat → Nat) : gL → List Value → gH → Prop := fun L st H => st = [] ∧ gLe (lL3 (i + 11) none none none) L ∧ i + 11 ≤ Ls ∧ ∃ (s : ST) (f : Nat → Int64) (P : Nat → Nat) (I A I' A' : Nat → Nat → Int32), sOk s ∧ cRep s P I A ∧ rRep s I' A' ∧ H = lW f P I A P' I' A'
theorem lE_mono {Ls i : Nat} {P' : Nat → Nat} : gMono (gi_ext (lE Ls i P')) := by
  intro K K' Q Q' X X' L L' st H hK hQ hX hL h
  obtain ⟨h1, h2, h3⟩ := h
  exact ⟨h1, ⟨h2.1.trans hL.1, fun j v q => hL.2 j v (h2.2 j v q)⟩, h3⟩
set_option maxRecDepth 40000 in
theorem lT_ext {Ls : Nat} {xs : Nat → Int32} {E : gL → List Value → gH → Prop} {d : Nat} : gTab (lT Ls xs E d) 2441 = gi_ext E := rfl
theorem lT_ok {Ls : Nat} {xs : Nat → Int32} {E : gL → List Value → gH → Prop} {d c mc k : Nat} (hk : k ≠ 2441) : gOk (gEXv Ls xs) gInfW gCl gU (ssL (d + 60)) (d + 60 + 1) (fun _ _ => False) cL_law_ 8 RL (some .boolean) (lawZ c) mc k (gTab (lT Ls xs E d) k) :=
  gTab_ok (P := gOkE (gEXv Ls xs) gInfW gCl gU (ssL (d + 60)) (d + 60 + 1) (fun _ _ => False) cL_law_ 8 RL (some .boolean) (lawZ c) mc) (fun _ _ => gs_bad) (tk_loop (E := E) (ssL_mono (d + 60))) k hk
theorem lT_mono {Ls i : Nat} {xs : Nat → Int32} {P' : Nat → Nat} {d : Nat} (k : Nat) : gMono (gTab (lT Ls xs (lE Ls i P') d) k) := by
  by_cases hk : k = 2441
  · subst hk
    rw [lT_ext]
    exact lE_mono
  · exact (lT_ok (c := 0) (mc := 0) hk).1
set_option maxRecDepth 40000 in
theorem lT_all {Ls i d : Nat} {xs : Nat → Int32} {f : Nat → Int64} {P : Nat → Nat} {I A : Nat → Nat → Int32} {P' : Nat → Nat} {I' A' : Nat → Nat → Int32} {s : ST} (hi : i ≤ 6000) (hL : Ls ≤ 5632) (hs : sOk s) (hc : cRep s P I A) (hr : rRep s I' A') : gWp (gTab (lT Ls xs (lE Ls i P') d)) (fun r _ => r = some (.int 1)) (fun _ _ => False) 23 (lL3 i none none none) [] (lW f P I A P' I' A') := by
  refine lb_body lT_mono hi hL hs hc hr (fun hi2 s2 f2 P2 I2 A2 I3 A3 o1 o2 o3 => ?_) (fun _ => rfl)
  have e : nI i + (11 : Int32) = nI (i + 11) := nI_add i 11
  exact x_iinc (a := nI i) (L' := lL3 (i + 11) none none none) lT_mono (show gTab (lT Ls xs (lE Ls i P') d) 2438 = gi_iinc 2441 4 11 from rfl) rfl (by rw [e]; rfl) (x_ext lT_mono lT_ext ⟨rfl, gLe_r _, hi2, s2, f2, P2, I2, A2, I3, A3, o1, o2, o3, rfl⟩)
theorem lZ_le {c k : Nat} (h : c + 4 ≤ 601024) : lawZ c k ≤ 601024 := by
  unfold lawZ zt
  split <;> omega
theorem lz_2441 {c : Nat} : lawZ c 2441 = c + 4 := by
  unfold lawZ
  rw [show zt 2441 = 4 by decide +kernel]
theorem lz_23 {c : Nat} : lawZ c 23 = c := by
  unfold lawZ
  rw [show zt 23 = 0 by decide +kernel, Nat.add_zero]
section LMC
variable {p : Program} {l : Launch} {e : Env} {s0 : State} {m : MethodId} {args : Array Value} {below : List Frame} {meth : Method} {c0 : Code} {D : va_G} {cA : Nat → ClassId} {ad : Nat → Nat} {AA : Nat → Prop} {Qf : State → Prop} {Ls : Nat} {xs : Nat → Int32} {P' : Nat → Nat}
set_option maxRecDepth 40000 in
theorem loop_ok (hT : gThT (gEXv Ls xs) l) (hL : Ls ≤ 5632) (hC : gCx p s0 m args meth c0 cL_law_ 8 RL (some .boolean) D gCl cA AA gU) (hEX : gEXv Ls xs ad AA s0 s0.heap)
    (hN : ∀ z, gEnd p l e room_1 s0 m args below meth c0 cL_law_ 8 (some .boolean) (fun _ _ => False) D gCl cA ad 82 AA z 601024 (fun r _ => r = some (.int 1)) (fun _ _ => False) Qf) :
    ∀ (n i c : Nat), Ls ≤ i + 11 * n → i ≤ 5700 → c + 4 * n + 4 ≤ 601024 → ∀ (s : ST) (f : Nat → Int64) (P : Nat → Nat) (I A I' A' : Nat → Nat → Int32), sOk s → cRep s P I A → rRep s I' A' → gAt p l e room_1 s0 m args below meth c0 8 D gCl cA ad 82 AA (lawZ c) Qf 23 (lL3 i none none none) [] (lW f P I A P' I' A') := by
  intro n
  induction n with
  | zero =>
    intro i c h1 h2 h3 s f P I A I' A' o1 o2 o3
    have hg := lT_all (xs := xs) (f := f) (P' := P') (d := 0) (by omega) hL o1 o2 o3 (i := i)
    refine hg (gAt p l e room_1 s0 m args below meth c0 8 D gCl cA ad 82 AA (lawZ c) Qf) (fun k L L' st H hl h Hc locs ls hR hv => h Hc locs ls hR ⟨hv.1, hv.2.1, fun i v hi => hv.2.2 i v (hl.2 i v hi)⟩) (fun k L st H hi => ?_)
    by_cases hk : k = 2441
    · subst hk
      rw [lT_ext] at hi
      obtain ⟨-, -, q, -⟩ := hi
      omega
    · exact (lT_ok hk).2 p l e room_1 s0 m args below meth c0 D cA ad 82 AA _ _ Qf hC ⟨gEXv_ok Ls xs, hEX, ssL_ok hT (0 + 60), ⟨Nat.le_of_ble_eq_true rfl, Nat.le_of_ble_eq_true rfl⟩, fun k => lZ_le (by omega), Nat.le_of_ble_eq_true rfl, Nat.le_of_ble_eq_true rfl⟩ (hN _) L st H hi
  | succ n ih =>
    intro i c h1 h2 h3 s f P I A I' A' o1 o2 o3
    have hg := lT_all (xs := xs) (f := f) (P' := P') (d := 0) (by omega) hL o1 o2 o3 (i := i)
    refine hg (gAt p l e room_1 s0 m args below meth c0 8 D gCl cA ad 82 AA (lawZ c) Qf) (fun k L L' st H hl h Hc locs ls hR hv => h Hc locs ls hR ⟨hv.1, hv.2.1, fun i v hi => hv.2.2 i v (hl.2 i v hi)⟩) (fun k L st H hi => ?_)
    by_cases hk : k = 2441
    · subst hk
      rw [lT_ext] at hi
      obtain ⟨rfl, hle, hi2, s2, f2, P2, I2, A2, I3, A3, q1, q2, q3, rfl⟩ := hi
      intro Hc locs ls hR hlv
      have hn := ih (i + 11) (c + 4) (by omega) (by omega) (by omega) s2 f2 P2 I2 A2 I3 A3 q1 q2 q3 Hc locs ls hR ⟨hlv.1, hlv.2.1, fun j v hj => hlv.2.2 j v (hle.2 j v hj)⟩
      have e1 : lawZ c 2441 = c + 4 := lz_2441
      have e2 : lawZ (c + 4) 23 = c + 4 := lz_23
      exact lv_goto (tgt := 23) hC.1 hC.2.1 (by decide +kernel : decode cL_law_ 2441 = .ok (.goto (-2418), 3)) (by decide) (W.widen (Nat.le_of_eq (by rw [e1, e2])) (Nat.le_of_eq (by rw [e1, e2])) hn)
    · exact (lT_ok hk).2 p l e room_1 s0 m args below meth c0 D cA ad 82 AA _ _ Qf hC ⟨gEXv_ok Ls xs, hEX, ssL_ok hT (0 + 60), ⟨Nat.le_of_ble_eq_true rfl, Nat.le_of_ble_eq_true rfl⟩, fun k => lZ_le (by omega), Nat.le_of_ble_eq_true rfl, Nat.le_of_ble_eq_true rfl⟩ (hN _) L st H hi
end LMC
