/-! ===== GK 4: rows of the stack's instructions; fields, arrays, ends ===== -/
section GKS
variable {cc : ByteArray} {k t : Nat}
theorem gr_iadd (hd : decode cc k = .ok (.iadd, 1)) : gRow cc k (k + 1) (gf_i2 (fun x y => x + y)) := by
  intro p l e R s m args below meth c H locs cells slots Q ls ad hx hb st st' hf kk
  obtain ⟨x, y, r, rfl, rfl⟩ := gf_i2_inv hf
  exact lv_iadd hx hb hd kk
theorem gr_isub (hd : decode cc k = .ok (.isub, 1)) : gRow cc k (k + 1) (gf_i2 (fun x y => x - y)) := by
  intro p l e R s m args below meth c H locs cells slots Q ls ad hx hb st st' hf kk
  obtain ⟨x, y, r, rfl, rfl⟩ := gf_i2_inv hf
  exact lv_isub hx hb hd kk
theorem gr_imul (hd : decode cc k = .ok (.imul, 1)) : gRow cc k (k + 1) (gf_i2 (fun x y => x * y)) := by
  intro p l e R s m args below meth c H locs cells slots Q ls ad hx hb st st' hf kk
  obtain ⟨x, y, r, rfl, rfl⟩ := gf_i2_inv hf
  exact lv_imul hx hb hd kk
theorem gr_iand (hd : decode cc k = .ok (.iand, 1)) : gRow cc k (k + 1) (gf_i2 (fun x y => x &&& y)) := by
  intro p l e R s m args below meth c H locs cells slots Q ls ad hx hb st st' hf kk
  obtain ⟨x, y, r, rfl, rfl⟩ := gf_i2_inv hf
  exact lv_iand hx hb hd kk
theorem gr_ior (hd : decode cc k = .ok (.ior, 1)) : gRow cc k (k + 1) (gf_i2 (fun x y => x ||| y)) := by
  intro p l e R s m args below meth c H locs cells slots Q ls ad hx hb st st' hf kk
  obtain ⟨x, y, r, rfl, rfl⟩ := gf_i2_inv hf
  exact lv_ior hx hb hd kk
theorem gr_ixor (hd : decode cc k = .ok (.ixor, 1)) : gRow cc k (k + 1) (gf_i2 (fun x y => x ^^^ y)) := by
  intro p l e R s m args below meth c H locs cells slots Q ls ad hx hb st st' hf kk
  obtain ⟨x, y, r, rfl, rfl⟩ := gf_i2_inv hf
  exact lv_ixor hx hb hd kk
theorem gr_ishl (hd : decode cc k = .ok (.ishl, 1)) : gRow cc k (k + 1) (gf_i2 (fun x y => x <<< (y &&& 31))) := by
  intro p l e R s m args below meth c H locs cells slots Q ls ad hx hb st st' hf kk
  obtain ⟨x, y, r, rfl, rfl⟩ := gf_i2_inv hf
  exact lv_ishl hx hb hd kk
theorem gr_ishr (hd : decode cc k = .ok (.ishr, 1)) : gRow cc k (k + 1) (gf_i2 (fun x y => x >>> (y &&& 31))) := by
  intro p l e R s m args below meth c H locs cells slots Q ls ad hx hb st st' hf kk
  obtain ⟨x, y, r, rfl, rfl⟩ := gf_i2_inv hf
  exact lv_ishr hx hb hd kk
theorem gr_iushr (hd : decode cc k = .ok (.iushr, 1)) : gRow cc k (k + 1) (gf_i2 (fun x y => (x.toUInt32 >>> (y.toUInt32 &&& Int32.toUInt32 31)).toInt32)) := by
  intro p l e R s m args below meth c H locs cells slots Q ls ad hx hb st st' hf kk
  obtain ⟨x, y, r, rfl, rfl⟩ := gf_i2_inv hf
  exact lv_iushr hx hb hd rfl kk
theorem gr_idiv (hd : decode cc k = .ok (.idiv, 1)) : gRow cc k (k + 1) (gf_i2z (fun x y => x / y)) := by
  intro p l e R s m args below meth c H locs cells slots Q ls ad hx hb st st' hf kk
  obtain ⟨x, y, r, rfl, rfl, hy⟩ := gf_i2z_inv hf
  exact lv_idiv hx hb hd hy kk
theorem gr_irem (hd : decode cc k = .ok (.irem, 1)) : gRow cc k (k + 1) (gf_i2z (fun x y => x - x / y * y)) := by
  intro p l e R s m args below meth c H locs cells slots Q ls ad hx hb st st' hf kk
  obtain ⟨x, y, r, rfl, rfl, hy⟩ := gf_i2z_inv hf
  exact lv_irem hx hb hd hy kk
theorem gr_ladd (hd : decode cc k = .ok (.ladd, 1)) : gRow cc k (k + 1) (gf_l2 (fun x y => x + y)) := by
  intro p l e R s m args below meth c H locs cells slots Q ls ad hx hb st st' hf kk
  obtain ⟨x, y, r, rfl, rfl⟩ := gf_l2_inv hf
  exact lv_ladd hx hb hd kk
theorem gr_lmul (hd : decode cc k = .ok (.lmul, 1)) : gRow cc k (k + 1) (gf_l2 (fun x y => x * y)) := by
  intro p l e R s m args below meth c H locs cells slots Q ls ad hx hb st st' hf kk
  obtain ⟨x, y, r, rfl, rfl⟩ := gf_l2_inv hf
  exact lv_lmul hx hb hd kk
theorem gr_ldiv (hd : decode cc k = .ok (.ldiv, 1)) : gRow cc k (k + 1) (gf_l2z (fun x y => x / y)) := by
  intro p l e R s m args below meth c H locs cells slots Q ls ad hx hb st st' hf kk
  obtain ⟨x, y, r, rfl, rfl, hy⟩ := gf_l2z_inv hf
  exact lv_ldiv hx hb hd hy kk
theorem gr_lrem (hd : decode cc k = .ok (.lrem, 1)) : gRow cc k (k + 1) (gf_l2z (fun x y => x - x / y * y)) := by
  intro p l e R s m args below meth c H locs cells slots Q ls ad hx hb st st' hf kk
  obtain ⟨x, y, r, rfl, rfl, hy⟩ := gf_l2z_inv hf
  exact lv_lrem hx hb hd hy kk
theorem gr_ineg (hd : decode cc k = .ok (.ineg, 1)) : gRow cc k (k + 1) (gf_i1 (fun x => -x)) := by
  intro p l e R s m args below meth c H locs cells slots Q ls ad hx hb st st' hf kk
  obtain ⟨x, r, rfl, rfl⟩ := gf_i1_inv hf
  exact lv_ineg hx hb hd kk
theorem gr_lcmp (hd : decode cc k = .ok (.lcmp, 1)) : gRow cc k (k + 1) gf_lcmp := by
  intro p l e R s m args below meth c H locs cells slots Q ls ad hx hb st st' hf kk
  rcases st with _ | ⟨v, _ | ⟨w, st⟩⟩
  · cases hf
  · cases v <;> cases hf
  · cases v <;> cases w <;> first | (cases hf; exact W.lcmp hx hb hd kk) | cases hf
theorem gr_i2l (hd : decode cc k = .ok (.i2l, 1)) : gRow cc k (k + 1) gf_i2l := by
  intro p l e R s m args below meth c H locs cells slots Q ls ad hx hb st st' hf kk
  rcases st with _ | ⟨v, st⟩
  · cases hf
  · cases v <;> first | (cases hf; exact lv_i2l hx hb hd rfl kk) | cases hf
theorem gr_l2i (hd : decode cc k = .ok (.l2i, 1)) : gRow cc k (k + 1) gf_l2i := by
  intro p l e R s m args below meth c H locs cells slots Q ls ad hx hb st st' hf kk
  rcases st with _ | ⟨v, st⟩
  · cases hf
  · cases v <;> first | (cases hf; exact lv_l2i hx hb hd rfl kk) | cases hf
theorem gr_dup (hd : decode cc k = .ok (.dup, 1)) : gRow cc k (k + 1) gf_dup := by
  intro p l e R s m args below meth c H locs cells slots Q ls ad hx hb st st' hf kk
  rcases st with _ | ⟨v, st⟩
  · cases hf
  · cases v <;> first | (cases hf; exact lv_dup hx hb hd rfl kk) | cases hf
theorem gr_dup2 (hd : decode cc k = .ok (.dup2, 1)) : gRow cc k (k + 1) gf_dup2 := by
  intro p l e R s m args below meth c H locs cells slots Q ls ad hx hb st st' hf kk
  rcases st with _ | ⟨v, _ | ⟨w, st⟩⟩
  · cases hf
  · cases v <;> cases hf
  · cases v <;> cases w <;> first | (cases hf; exact lv_dup2_11 hx hb hd rfl rfl kk) | cases hf
theorem gr_pop (hd : decode cc k = .ok (.pop, 1)) : gRow cc k (k + 1) gf_pop := by
  intro p l e R s m args below meth c H locs cells slots Q ls ad hx hb st st' hf kk
  rcases st with _ | ⟨v, st⟩
  · cases hf
  · cases v <;> first | (cases hf; exact lv_pop (va := .int _) hx hb hd rfl kk) | (cases hf; exact lv_pop (va := .ref _) hx hb hd rfl kk) | cases hf
theorem gr_iconst {n : Int} {v : Int32} (hd : decode cc k = .ok (.iconst n, 1)) (hv : Int32.ofInt n = v) : gRow cc k (k + 1) (gf_push (.int v)) := by
  intro p l e R s m args below meth c H locs cells slots Q ls ad hx hb st st' hf kk
  cases hf
  exact lv_iconst hx hb hd hv kk
theorem gr_bipush {n : Int} {v : Int32} (hd : decode cc k = .ok (.bipush n, 2)) (hv : (Int8.ofInt n).toInt32 = v) : gRow cc k (k + 2) (gf_push (.int v)) := by
  intro p l e R s m args below meth c H locs cells slots Q ls ad hx hb st st' hf kk
  cases hf
  exact lv_bipush hx hb hd hv kk
theorem gr_sipush {n : Int} {v : Int32} (hd : decode cc k = .ok (.sipush n, 3)) (hv : (Int16.ofInt n).toInt32 = v) : gRow cc k (k + 3) (gf_push (.int v)) := by
  intro p l e R s m args below meth c H locs cells slots Q ls ad hx hb st st' hf kk
  cases hf
  exact lv_sipush hx hb hd hv kk
theorem gr_lconst {n : Fin 2} {v : Int64} (hd : decode cc k = .ok (.lconst n, 1)) (hv : Int64.ofNat (n : Nat) = v) : gRow cc k (k + 1) (gf_push (.long v)) := by
  intro p l e R s m args below meth c H locs cells slots Q ls ad hx hb st st' hf kk
  cases hf
  exact lv_lconst hx hb hd hv kk
theorem gr_ifeq {off : Int} (hd : decode cc k = .ok (.ifCond .eq off, 3)) (ht : (k : Int) + off = (t : Int)) : gIfRow cc k (k + 3) t (fun x => x = 0) := by
  intro p l e R s m args below meth c H locs cells slots Q ls hx hb x rest kt kf
  exact lv_if_eq hx hb hd ht kt kf
theorem gr_icmpeq {off : Int} (hd : decode cc k = .ok (.if_icmp .eq off, 3)) (ht : (k : Int) + off = (t : Int)) : gCmpRow cc k (k + 3) t (fun x y => x = y) := by
  intro p l e R s m args below meth c H locs cells slots Q ls hx hb x y rest kt kf
  exact lv_icmp_eq hx hb hd ht kt kf
theorem gr_ifne {off : Int} (hd : decode cc k = .ok (.ifCond .ne off, 3)) (ht : (k : Int) + off = (t : Int)) : gIfRow cc k (k + 3) t (fun x => ¬ x = 0) := by
  intro p l e R s m args below meth c H locs cells slots Q ls hx hb x rest kt kf
  exact lv_if_ne hx hb hd ht kt (fun q => kf (fun w => w q))
theorem gr_icmpne {off : Int} (hd : decode cc k = .ok (.if_icmp .ne off, 3)) (ht : (k : Int) + off = (t : Int)) : gCmpRow cc k (k + 3) t (fun x y => ¬ x = y) := by
  intro p l e R s m args below meth c H locs cells slots Q ls hx hb x y rest kt kf
  exact lv_icmp_ne hx hb hd ht kt (fun q => kf (fun w => w q))
theorem gr_iflt {off : Int} (hd : decode cc k = .ok (.ifCond .lt off, 3)) (ht : (k : Int) + off = (t : Int)) : gIfRow cc k (k + 3) t (fun x => x < 0) := by
  intro p l e R s m args below meth c H locs cells slots Q ls hx hb x rest kt kf
  exact lv_if_lt hx hb hd ht kt kf
theorem gr_icmplt {off : Int} (hd : decode cc k = .ok (.if_icmp .lt off, 3)) (ht : (k : Int) + off = (t : Int)) : gCmpRow cc k (k + 3) t (fun x y => x < y) := by
  intro p l e R s m args below meth c H locs cells slots Q ls hx hb x y rest kt kf
  exact lv_icmp_lt hx hb hd ht kt kf
theorem gr_ifge {off : Int} (hd : decode cc k = .ok (.ifCond .ge off, 3)) (ht : (k : Int) + off = (t : Int)) : gIfRow cc k (k + 3) t (fun x => 0 ≤ x) := by
  intro p l e R s m args below meth c H locs cells slots Q ls hx hb x rest kt kf
  exact lv_if_ge hx hb hd ht kt kf
theorem gr_icmpge {off : Int} (hd : decode cc k = .ok (.if_icmp .ge off, 3)) (ht : (k : Int) + off = (t : Int)) : gCmpRow cc k (k + 3) t (fun x y => y ≤ x) := by
  intro p l e R s m args below meth c H locs cells slots Q ls hx hb x y rest kt kf
  exact lv_icmp_ge hx hb hd ht kt kf
theorem gr_ifgt {off : Int} (hd : decode cc k = .ok (.ifCond .gt off, 3)) (ht : (k : Int) + off = (t : Int)) : gIfRow cc k (k + 3) t (fun x => 0 < x) := by
  intro p l e R s m args below meth c H locs cells slots Q ls hx hb x rest kt kf
  exact lv_if_gt hx hb hd ht kt kf
theorem gr_icmpgt {off : Int} (hd : decode cc k = .ok (.if_icmp .gt off, 3)) (ht : (k : Int) + off = (t : Int)) : gCmpRow cc k (k + 3) t (fun x y => y < x) := by
  intro p l e R s m args below meth c H locs cells slots Q ls hx hb x y rest kt kf
  exact lv_icmp_gt hx hb hd ht kt kf
theorem gr_ifle {off : Int} (hd : decode cc k = .ok (.ifCond .le off, 3)) (ht : (k : Int) + off = (t : Int)) : gIfRow cc k (k + 3) t (fun x => x ≤ 0) := by
  intro p l e R s m args below meth c H locs cells slots Q ls hx hb x rest kt kf
  exact lv_if_le hx hb hd ht kt kf
theorem gr_icmple {off : Int} (hd : decode cc k = .ok (.if_icmp .le off, 3)) (ht : (k : Int) + off = (t : Int)) : gCmpRow cc k (k + 3) t (fun x y => x ≤ y) := by
  intro p l e R s m args below meth c H locs cells slots Q ls hx hb x y rest kt kf
  exact lv_icmp_le hx hb hd ht kt kf
end GKS
theorem gfld_inv {H : gH} {h ci f : Nat} {v : Value} (q : gfld H h ci f = some v) : ∃ fs, H h = some (.inr (ci, fs)) ∧ gn fs f = some v := by
  unfold gfld at q
  rcases hh : H h with _ | e
  · rw [hh] at q; cases q
  · rw [hh] at q
    rcases e with a | ⟨c, fs⟩
    · cases q
    · dsimp only at q
      by_cases hc : c = ci
      · rw [if_pos hc] at q
        exact ⟨fs, by rw [hc], q⟩
      · rw [if_neg hc] at q; cases q
theorem gput_inv {H H' : gH} {h ci f : Nat} {v : Value} (q : gput H h ci f v = some H') : ∃ fs, H h = some (.inr (ci, fs)) ∧ f < fs.length ∧ H' = gu H h (.inr (ci, gns fs f v)) := by
  unfold gput at q
  rcases hh : H h with _ | e
  · rw [hh] at q; cases q
  · rw [hh] at q
    rcases e with a | ⟨c, fs⟩
    · cases q
    · dsimp only at q
      by_cases hc : c = ci
      · rw [if_pos hc] at q
        rcases hg : gn fs f with _ | w
        · rw [hg] at q; cases q
        · rw [hg] at q
          rw [gn_eq] at hg
          exact ⟨fs, by rw [hc], (List.getElem?_eq_some_iff.mp hg).1, by rw [← hc]; exact (Option.some.inj q).symm⟩
      · rw [if_neg hc] at q; cases q
theorem gai_inv {H : gH} {h n : Nat} {f : Nat → Int32} (q : gai H h = some (n, f)) : H h = some (.inl (0, (n, .inl f))) := by
  unfold gai at q
  split at q
  · rename_i hh
    cases q
    exact hh
  · cases q
theorem gal_inv {H : gH} {h n : Nat} {f : Nat → Int64} (q : gal H h = some (n, f)) : H h = some (.inl (1, (n, .inr (.inl f)))) := by
  unfold gal at q
  split at q
  · rename_i hh
    cases q
    exact hh
  · cases q
section GKF
variable {EX : gEX} {inf : Nat → gInf} {cl : List vw_C} {U : List Cond} {SS : Nat → gS} {d : Nat} {TH : Nat → String → Prop} {cc : ByteArray} {nL : Nat} {own : String} {rt : Option FieldType} {z : Nat → Nat} {mc k k' t : Nat}
theorem gs_get {ci f idx N : Nat} {C : String} {T : u_T} (hc : cl[ci]? = some (C, T, N)) (hin : ∀ w ∈ u_ws C T N, w ∈ U) (hf : f < N) (hl : Cond.fieldLink own idx (T f).1 (T f).2.1 (T f).2.2.1 ∈ U) (hd : decode cc k = .ok (.getfield idx, 3)) (hz : z k ≤ z (k + 3)) : gOk EX inf cl U SS d TH cc nL own rt z mc k (gi_get (k + 3) ci f) := by
  refine ⟨gm_get, ?_⟩
  intro p l e R s m args below meth c D cA ad n A Q X Qf hC hE hN L st H h Hc locs ls hR hlv
  obtain ⟨hx, hb, hml, hown, hts, hK, -⟩ := hC
  rcases st with _ | ⟨v, st⟩
  · exact h.elim
  · cases v <;> try exact h.elim
    rename_i x
    have h : (match gfld H x ci f with | some v => gAt p l e R s m args below meth c nL D cl cA ad n A z Qf (k + 3) L (v :: st) H | none => False) := h
    cases hq : gfld H x ci f with
    | none => rw [hq] at h; exact h.elim
    | some v =>
      rw [hq] at h
      obtain ⟨fs, h1, h2⟩ := gfld_inv hq
      refine va_get (v := gv ad v) hx hb hts hin hown hK hR.2.1 x (gws_get (hR.1.lt h1) h1) hc f hf (hts _ hl) (fun _ w => w) ?_ hd (W.widen hz (by omega) (h Hc locs ls hR hlv))
      rw [List.getElem?_map, ← gn_eq, h2]
      rfl
theorem gs_puti {ci f idx N : Nat} {C : String} {T : u_T} {ty0 : Nat → FieldType} (hc : cl[ci]? = some (C, T, N)) (hin : ∀ w ∈ u_ws C T N, w ∈ U) (hty : ∀ j, j < N → parseFieldDescriptor (T j).2.2.1 = some (ty0 j)) (hnm : ∀ a, a < N → ∀ b, b < N → a ≠ b → (T a).2.1 ≠ (T b).2.1) (hf : f < N) (hfin : (T f).2.2.2 = false) (hfty : ty0 f = .int)
    (hl : Cond.fieldLink own idx (T f).1 (T f).2.1 (T f).2.2.1 ∈ U) (hd : decode cc k = .ok (.putfield idx, 3)) (hz : z k ≤ z (k + 3)) : gOk EX inf cl U SS d TH cc nL own rt z mc k (gi_puti (k + 3) ci f) := by
  refine ⟨gm_puti, ?_⟩
  intro p l e R s m args below meth c D cA ad n A Q X Qf hC hE hN L st H h Hc locs ls hR hlv
  obtain ⟨hx, hb, hml, hown, hts, hK, -⟩ := hC
  rcases st with _ | ⟨v, _ | ⟨w, st⟩⟩
  · exact h.elim
  · cases v <;> exact h.elim
  · cases v <;> cases w <;> try exact h.elim
    rename_i a x
    have h : (match gput H x ci f (.int a) with | some H' => gAt p l e R s m args below meth c nL D cl cA ad n A z Qf (k + 3) L st H' | none => False) := h
    cases hq : gput H x ci f (.int a) with
    | none => rw [hq] at h; exact h.elim
    | some H' =>
      rw [hq] at h
      obtain ⟨fs, h1, h2, rfl⟩ := gput_inv hq
      refine va_put (v := .int a) (ty := .int) hx hb hts hin ty0 hty hnm hown hK hR.2.1 hR.2.2.1 hR.2.2.2 x (gws_get (hR.1.lt h1) h1) hc f hf (hts _ hl) (fun _ w => w) hfin (by rw [hty f hf, hfty]) rfl rfl (by rw [List.length_map]; exact h2) hd (fun H1 locs1 p1 p2 p3 => W.widen hz (by omega) (h H1 locs1 ls (hR.put h1 ?_ ?_ p3) hlv))
      · rw [gns_eq]
        show va_P D cl ((gws ad cA n H).set x (ad x, .inr (ci, (fs.set f (.int a)).map (gv ad)))) H1
        rw [List.map_set]
        exact p1
      · rw [gns_eq]
        show va_D A ((gws ad cA n H).set x (ad x, .inr (ci, (fs.set f (.int a)).map (gv ad))))
        rw [List.map_set]
        exact p2
theorem gs_putr {ci f idx N : Nat} {C C2 : String} {T : u_T} {ty0 : Nat → FieldType} (hc : cl[ci]? = some (C, T, N)) (hin : ∀ w ∈ u_ws C T N, w ∈ U) (hty : ∀ j, j < N → parseFieldDescriptor (T j).2.2.1 = some (ty0 j)) (hnm : ∀ a, a < N → ∀ b, b < N → a ≠ b → (T a).2.1 ≠ (T b).2.1) (hf : f < N) (hfin : (T f).2.2.2 = false) (hfty : ty0 f = .object C2)
    (hl : Cond.fieldLink own idx (T f).1 (T f).2.1 (T f).2.2.1 ∈ U) (hd : decode cc k = .ok (.putfield idx, 3)) (hz : z k ≤ z (k + 3)) : gOk EX inf cl U SS d TH cc nL own rt z mc k (gi_putr (k + 3) ci f) := by
  refine ⟨gm_putr, ?_⟩
  intro p l e R s m args below meth c D cA ad n A Q X Qf hC hE hN L st H h Hc locs ls hR hlv
  obtain ⟨hx, hb, hml, hown, hts, hK, -⟩ := hC
  rcases st with _ | ⟨v, _ | ⟨w, st⟩⟩
  · exact h.elim
  · cases v <;> exact h.elim
  · cases v <;> cases w <;> try exact h.elim
    rename_i a x
    have h : (match gput H x ci f (.ref a) with | some H' => gAt p l e R s m args below meth c nL D cl cA ad n A z Qf (k + 3) L st H' | none => False) := h
    cases hq : gput H x ci f (.ref a) with
    | none => rw [hq] at h; exact h.elim
    | some H' =>
      rw [hq] at h
      obtain ⟨fs, h1, h2, rfl⟩ := gput_inv hq
      refine va_put (v := .ref (ad a)) (ty := .object C2) hx hb hts hin ty0 hty hnm hown hK hR.2.1 hR.2.2.1 hR.2.2.2 x (gws_get (hR.1.lt h1) h1) hc f hf (hts _ hl) (fun _ w => w) hfin (by rw [hty f hf, hfty]) rfl rfl (by rw [List.length_map]; exact h2) hd (fun H1 locs1 p1 p2 p3 => W.widen hz (by omega) (h H1 locs1 ls (hR.put h1 ?_ ?_ p3) hlv))
      · rw [gns_eq]
        show va_P D cl ((gws ad cA n H).set x (ad x, .inr (ci, (fs.set f (.ref a)).map (gv ad)))) H1
        rw [List.map_set]
        exact p1
      · rw [gns_eq]
        show va_D A ((gws ad cA n H).set x (ad x, .inr (ci, (fs.set f (.ref a)).map (gv ad))))
        rw [List.map_set]
        exact p2
theorem gs_iald (hd : decode cc k = .ok (.iaload, 1)) (hz : z k ≤ z (k + 1)) : gOk EX inf cl U SS d TH cc nL own rt z mc k (gi_iald (k + 1)) := by
  refine ⟨gm_iald, ?_⟩
  intro p l e R s m args below meth c D cA ad n A Q X Qf hC hE hN L st H h Hc locs ls hR hlv
  rcases st with _ | ⟨v, _ | ⟨w, st⟩⟩
  · exact h.elim
  · cases v <;> exact h.elim
  · cases v <;> cases w <;> try exact h.elim
    rename_i i x
    have h : (match gai H x with | some (n', f) => vp_in i n' ∧ gAt p l e R s m args below meth c nL D cl cA ad n A z Qf (k + 1) L (.int (f i.toNatClampNeg) :: st) H | none => False) := h
    rcases hq : gai H x with _ | ⟨n', f⟩
    · rw [hq] at h; exact h.elim
    · rw [hq] at h
      have h1 := gai_inv hq
      exact va_iald hC.1 hC.2.1 hC.2.2.2.2.2.1 hR.2.1 x 0 (gws_get (hR.1.lt h1) h1) rfl h.1 hd (W.widen hz (by omega) (h.2 Hc locs ls hR hlv))
theorem gs_lald (hd : decode cc k = .ok (.laload, 1)) (hz : z k ≤ z (k + 1)) : gOk EX inf cl U SS d TH cc nL own rt z mc k (gi_lald (k + 1)) := by
  refine ⟨gm_lald, ?_⟩
  intro p l e R s m args below meth c D cA ad n A Q X Qf hC hE hN L st H h Hc locs ls hR hlv
  rcases st with _ | ⟨v, _ | ⟨w, st⟩⟩
  · exact h.elim
  · cases v <;> exact h.elim
  · cases v <;> cases w <;> try exact h.elim
    rename_i i x
    have h : (match gal H x with | some (n', f) => vp_in i n' ∧ gAt p l e R s m args below meth c nL D cl cA ad n A z Qf (k + 1) L (.long (f i.toNatClampNeg) :: st) H | none => False) := h
    rcases hq : gal H x with _ | ⟨n', f⟩
    · rw [hq] at h; exact h.elim
    · rw [hq] at h
      have h1 := gal_inv hq
      exact va_lald hC.1 hC.2.1 hC.2.2.2.2.2.1 hR.2.1 x 1 (gws_get (hR.1.lt h1) h1) rfl h.1 hd (W.widen hz (by omega) (h.2 Hc locs ls hR hlv))
theorem gs_alen (hd : decode cc k = .ok (.arraylength, 1)) (hz : z k ≤ z (k + 1)) : gOk EX inf cl U SS d TH cc nL own rt z mc k (gi_alen (k + 1)) := by
  refine ⟨gm_alen, ?_⟩
  intro p l e R s m args below meth c D cA ad n A Q X Qf hC hE hN L st H h Hc locs ls hR hlv
  rcases st with _ | ⟨v, st⟩
  · exact h.elim
  · cases v <;> try exact h.elim
    rename_i x
    have h : (match gai H x with | some (n', _) => gAt p l e R s m args below meth c nL D cl cA ad n A z Qf (k + 1) L (.int (Int32.ofNat n') :: st) H | none => False) := h
    rcases hq : gai H x with _ | ⟨n', f⟩
    · rw [hq] at h; exact h.elim
    · rw [hq] at h
      have h1 := gai_inv hq
      exact va_alen hC.1 hC.2.1 hC.2.2.2.2.2.1 hR.2.1 x 0 (gws_get (hR.1.lt h1) h1) rfl rfl hd (W.widen hz (by omega) (h Hc locs ls hR hlv))
theorem gs_iast (hd : decode cc k = .ok (.iastore, 1)) (hz : z k ≤ z (k + 1)) : gOk EX inf cl U SS d TH cc nL own rt z mc k (gi_iast (k + 1)) := by
  refine ⟨gm_iast, ?_⟩
  intro p l e R s m args below meth c D cA ad n A Q X Qf hC hE hN L st H h Hc locs ls hR hlv
  rcases st with _ | ⟨v, _ | ⟨w, _ | ⟨u, st⟩⟩⟩
  · exact h.elim
  · cases v <;> exact h.elim
  · cases v <;> cases w <;> exact h.elim
  · cases v <;> cases w <;> cases u <;> try exact h.elim
    rename_i a i x
    have h : (match gai H x with | some (n', f) => vp_in i n' ∧ gAt p l e R s m args below meth c nL D cl cA ad n A z Qf (k + 1) L st (gu H x (.inl (0, (n', .inl (upd f i.toNatClampNeg a))))) | none => False) := h
    rcases hq : gai H x with _ | ⟨n', f⟩
    · rw [hq] at h; exact h.elim
    · rw [hq] at h
      have h1 := gai_inv hq
      exact va_iast hC.1 hC.2.1 hC.2.2.2.2.2.1 hR.2.1 hR.2.2.1 hR.2.2.2 x 0 (gws_get (hR.1.lt h1) h1) rfl h.1 hd (fun H1 locs1 p1 p2 p3 => W.widen hz (by omega) (h.2 H1 locs1 ls (hR.put h1 p1 p2 p3) hlv))
theorem gs_last (hd : decode cc k = .ok (.lastore, 1)) (hz : z k ≤ z (k + 1)) : gOk EX inf cl U SS d TH cc nL own rt z mc k (gi_last (k + 1)) := by
  refine ⟨gm_last, ?_⟩
  intro p l e R s m args below meth c D cA ad n A Q X Qf hC hE hN L st H h Hc locs ls hR hlv
  rcases st with _ | ⟨v, _ | ⟨w, _ | ⟨u, st⟩⟩⟩
  · exact h.elim
  · cases v <;> exact h.elim
  · cases v <;> cases w <;> exact h.elim
  · cases v <;> cases w <;> cases u <;> try exact h.elim
    rename_i a i x
    have h : (match gal H x with | some (n', f) => vp_in i n' ∧ gAt p l e R s m args below meth c nL D cl cA ad n A z Qf (k + 1) L st (gu H x (.inl (1, (n', .inr (.inl (vp_updL f i.toNatClampNeg a)))))) | none => False) := h
    rcases hq : gal H x with _ | ⟨n', f⟩
    · rw [hq] at h; exact h.elim
    · rw [hq] at h
      have h1 := gal_inv hq
      exact va_last hC.1 hC.2.1 hC.2.2.2.2.2.1 hR.2.1 hR.2.2.1 hR.2.2.2 x 1 (gws_get (hR.1.lt h1) h1) rfl h.1 hd (fun H1 locs1 p1 p2 p3 => W.widen hz (by omega) (h.2 H1 locs1 ls (hR.put h1 p1 p2 p3) hlv))
-- constants of the pool
theorem gs_ldc {idx : Nat} {v : Int32} (hw : Cond.constant own idx v ∈ U) (hd : decode cc k = .ok (.ldc idx, 2)) (hz : z k ≤ z (k + 2)) : gOk EX inf cl U SS d TH cc nL own rt z mc k (gi_st (k + 2) (gf_push (.int v))) := by
  refine ⟨gm_st, ?_⟩
  intro p l e R s m args below meth c D cA ad n A Q X Qf hC hE hN L st H h Hc locs ls hR hlv
  exact lv_ldc hC.1 hC.2.1 hC.2.2.2.1 (hC.2.2.2.2.1 _ hw) hd (W.widen hz (by omega) (h Hc locs ls hR hlv))
theorem gs_ldcw {idx : Nat} {v : Int32} (hw : Cond.constant own idx v ∈ U) (hd : decode cc k = .ok (.ldc_w idx, 3)) (hz : z k ≤ z (k + 3)) : gOk EX inf cl U SS d TH cc nL own rt z mc k (gi_st (k + 3) (gf_push (.int v))) := by
  refine ⟨gm_st, ?_⟩
  intro p l e R s m args below meth c D cA ad n A Q X Qf hC hE hN L st H h Hc locs ls hR hlv
  exact lv_ldcw hC.1 hC.2.1 hC.2.2.2.1 (hC.2.2.2.2.1 _ hw) hd (W.widen hz (by omega) (h Hc locs ls hR hlv))
theorem gs_ldc2 {idx : Nat} {v : Int64} (hw : Cond.constantLong own idx v ∈ U) (hd : decode cc k = .ok (.ldc2_w idx, 3)) (hz : z k ≤ z (k + 3)) : gOk EX inf cl U SS d TH cc nL own rt z mc k (gi_st (k + 3) (gf_push (.long v))) := by
  refine ⟨gm_st, ?_⟩
  intro p l e R s m args below meth c D cA ad n A Q X Qf hC hE hN L st H h Hc locs ls hR hlv
  exact lv_ldc2 hC.1 hC.2.1 hC.2.2.2.1 (hC.2.2.2.2.1 _ hw) hd (W.widen hz (by omega) (h Hc locs ls hR hlv))
-- ends
theorem gs_vret (hr : rt = none) (hd : decode cc k = .ok (.return_, 1)) : gOk EX inf cl U SS d TH cc nL own rt z mc k gi_vret := by
  refine ⟨gm_vret, ?_⟩
  intro p l e R s m args below meth c D cA ad n A Q X Qf hC hE hN L st H h Hc locs ls hR hlv
  have hz := hE.2.2.2.2.1 k
  rcases st with _ | ⟨v, st⟩
  · exact W.widen hz (by omega) (hN.1 k ls Hc locs none H h hR ⟨hr, hd⟩)
  · exact h.elim
theorem gs_iret (hr : rt = some .int) (hd : decode cc k = .ok (.ireturn, 1)) : gOk EX inf cl U SS d TH cc nL own rt z mc k gi_iret := by
  refine ⟨gm_iret, ?_⟩
  intro p l e R s m args below meth c D cA ad n A Q X Qf hC hE hN L st H h Hc locs ls hR hlv
  have hz := hE.2.2.2.2.1 k
  rcases st with _ | ⟨v, _ | ⟨w, st⟩⟩
  · exact h.elim
  · cases v <;> try exact h.elim
    exact W.widen hz (by omega) (hN.1 k ls Hc locs (some (.int _)) H h hR ⟨⟨.int, hr, rfl⟩, hd⟩)
  · cases v <;> exact h.elim
theorem gs_zret {ty : FieldType} (hr : rt = some ty) (hd : decode cc k = .ok (.ireturn, 1)) : gOk EX inf cl U SS d TH cc nL own rt z mc k (gi_zret ty) := by
  refine ⟨gm_zret, ?_⟩
  intro p l e R s m args below meth c D cA ad n A Q X Qf hC hE hN L st H h Hc locs ls hR hlv
  have hz := hE.2.2.2.2.1 k
  rcases st with _ | ⟨v, _ | ⟨w, st⟩⟩
  · exact h.elim
  · cases v <;> try exact h.elim
    exact W.widen hz (by omega) (hN.1 k ls Hc locs (some (.int _)) H h.2 hR ⟨⟨ty, hr, h.1⟩, hd⟩)
  · cases v <;> exact h.elim
theorem gs_lret (hr : rt = some .long) (hd : decode cc k = .ok (.lreturn, 1)) : gOk EX inf cl U SS d TH cc nL own rt z mc k gi_lret := by
  refine ⟨gm_lret, ?_⟩
  intro p l e R s m args below meth c D cA ad n A Q X Qf hC hE hN L st H h Hc locs ls hR hlv
  have hz := hE.2.2.2.2.1 k
  rcases st with _ | ⟨v, _ | ⟨w, st⟩⟩
  · exact h.elim
  · cases v <;> try exact h.elim
    exact W.widen hz (by omega) (hN.1 k ls Hc locs (some (.long _)) H h hR ⟨hr, hd⟩)
  · cases v <;> exact h.elim
theorem gs_throw {E : String} (ht : TH k E) (hz : z k + 1 ≤ mc) : gOk EX inf cl U SS d TH cc nL own rt z mc k (gi_throw E) := by
  refine ⟨gm_throw, ?_⟩
  intro p l e R s m args below meth c D cA ad n A Q X Qf hC hE hN L st H h Hc locs ls hR hlv
  obtain ⟨rfl, h⟩ := h
  exact hN.2.2 k ls Hc locs E H ht h hR hlv.1 hz
end GKF
