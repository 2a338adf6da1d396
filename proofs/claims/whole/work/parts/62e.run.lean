/-! ===== L2: a work runs ===== -/
theorem fhold_ok {b v : Nat} {m : Int32} (hv : v < 2 ^ 31) : ∃ b', b' ≤ v ∧ fhold (nI b) (nI v) m = nI b' := by
  have hh := held_eq (u := nI b + m) (v := nI v) (nI_pos' hv)
  unfold fhold
  rw [← hh]
  by_cases h1 : 0 ≤ nI b + m
  · rw [if_pos h1]
    by_cases h2 : nI b + m ≤ nI v
    · rw [if_pos h2]
      exact nI_of2 (nI_toInt hv) (fun q => by rw [Int32.le_iff_toInt_le] at h1; rw [Int32.lt_iff_toInt_lt] at q; omega) h2
    · rw [if_neg h2]; exact ⟨v, Nat.le_refl v, rfl⟩
  · rw [if_neg h1]; exact ⟨0, Nat.zero_le v, rfl⟩
theorem wvote_ok {ev : (Nat → Int32) → Int32} {C N : Nat → Int32} {n : Nat} {w : WS} (h : wOk n w) : wOk n (wvote ev C N n w) := by
  intro t ht
  obtain ⟨v, b, v1, v9, bv, e1, e2⟩ := h t ht
  obtain ⟨b', hb, e3⟩ := fhold_ok (b := b) (v := v) (m := wsway ev C N n w t) (by omega)
  refine ⟨v, b', v1, v9, hb, e1, ?_⟩
  show wB1 ev C N n w t = _
  unfold wB1
  rw [rs_at ht, e1, e2, e3]
theorem wmove_ok {n a c : Nat} {w : WS} {k : Int32} (h : wOk n w) (ha : a < n) (hc : c < n) (hk : wcanI w a c k ≠ 0) : wOk n (wmove w a c k) := by
  obtain ⟨v, b, v1, v9, bv, e1, e2⟩ := h a ha
  obtain ⟨u, b2, u1, u9, bu, e3, e4⟩ := h c hc
  unfold wcanI at hk
  by_cases hx : 1 ≤ k ∧ k ≤ nI (wmost w a c)
  · have hm99 := wmost_99 w a c
    obtain ⟨j, hj, rfl⟩ := nI_of2 (M := nI (wmost w a c)) (n := wmost w a c) (nI_toInt (by omega)) (x := k) (fun q => by have h1 := hx.1; rw [Int32.le_iff_toInt_le] at h1; rw [Int32.lt_iff_toInt_lt] at q; have e0 : (0 : Int32).toInt = 0 := rfl; have e1 : (1 : Int32).toInt = 1 := rfl; omega) hx.2
    have j1 : 1 ≤ j := (nI_leI (a := 1) (by omega) (by omega)).mp hx.1
    have hac : a ≠ c := fun q => by
      unfold wmost at hj
      rw [if_pos q] at hj
      omega
    unfold wmost at hj
    rw [if_neg hac, e1, e2, e3, nI_clamp (by omega), nI_clamp (by omega), nI_clamp (by omega)] at hj
    intro t ht
    by_cases t1 : t = c
    · subst t1
      refine ⟨u + j, b2 + j, by omega, by omega, by omega, ?_, ?_⟩
      · show mv (wV w) a t (nI j) t = _
        unfold mv
        rw [upd_at, upd_ne (Ne.symm hac), e3, nI_add]
      · show mv (wB w) a t (nI j) t = _
        unfold mv
        rw [upd_at, upd_ne (Ne.symm hac), e4, nI_add]
    · by_cases t2 : t = a
      · subst t2
        refine ⟨v - j, b - j, by omega, by omega, by omega, ?_, ?_⟩
        · show mv (wV w) t c (nI j) t = _
          unfold mv
          rw [upd_ne t1, upd_at, e1, nI_sub (by omega)]
        · show mv (wB w) t c (nI j) t = _
          unfold mv
          rw [upd_ne t1, upd_at, e2, nI_sub (by omega)]
      · obtain ⟨v', b', q1, q2, q3, q4, q5⟩ := h t ht
        refine ⟨v', b', q1, q2, q3, ?_, ?_⟩
        · show mv (wV w) a c (nI j) t = _
          unfold mv
          rw [upd_ne t1, upd_ne t2, q4]
        · show mv (wB w) a c (nI j) t = _
          unfold mv
          rw [upd_ne t1, upd_ne t2, q5]
  · rw [if_neg hx] at hk
    exact absurd rfl hk
theorem wstep_ok {ev : (Nat → Int32) → Int32} {C N : Nat → Int32} {n s a c : Nat} {w : WS} {k : Int32} (h : wOk n w) (hy : wYok w) (ha : s ≤ 1 → a < n) (hc : s = 0 → c < n) : wOk n (wstep ev C N n w s a c k).1 ∧ wYok (wstep ev C N n w s a c k).1 := by
  match s, ha, hc with
  | 0, ha, hc =>
    show wOk n (if wcanI w a c k = 0 then (w, (0 : Int32)) else (wmove w a c k, 1)).1 ∧ wYok (if wcanI w a c k = 0 then (w, (0 : Int32)) else (wmove w a c k, 1)).1
    by_cases hk : wcanI w a c k = 0
    · rw [if_pos hk]; exact ⟨h, hy⟩
    · rw [if_neg hk]; exact ⟨wmove_ok h (ha (by omega)) (hc rfl) hk, hy⟩
  | 1, _, _ => exact ⟨h, hy⟩
  | 2, _, _ => exact ⟨h, hy⟩
  | 3, _, _ => exact ⟨wvote_ok h, hy⟩
  | _ + 4, _, _ =>
    show wOk n (if wYear w = 400 then (w, (0 : Int32)) else (wnext w, 1)).1 ∧ wYok (if wYear w = 400 then (w, (0 : Int32)) else (wnext w, 1)).1
    by_cases hk : wYear w = 400
    · rw [if_pos hk]; exact ⟨h, hy⟩
    · rw [if_neg hk]
      obtain ⟨y, y4, ey⟩ := hy
      have : y ≠ 400 := fun q => hk (by rw [ey, q]; rfl)
      exact ⟨h, ⟨y + 1, by omega, by show wYear w + 1 = _; rw [ey, nI_1]⟩⟩
/-- a program: kind, first, second, third of each step, an again's second is the step behind its last one -/
abbrev PG : Type := (Nat → Nat) × (Nat → Nat) × (Nat → Nat) × (Nat → Int32)
/-- world, begun, done, refused -/
abbrev PS : Type := WS × Nat × Int32 × Int32
def pwf (n : Nat) (g : PG) : Nat → Nat → Nat → Nat → Prop
  | 0, _, i, to => i = to
  | f + 1, dep, i, to => i = to ∨ (i < to ∧ ((g.1 i = 5 ∧ 1 ≤ dep ∧ g.2.1 i ≤ 30 ∧ i + 1 ≤ g.2.2.1 i ∧ g.2.2.1 i ≤ to ∧ pwf n g f (dep - 1) (i + 1) (g.2.2.1 i) ∧ pwf n g f dep (g.2.2.1 i) to) ∨ (g.1 i ≤ 4 ∧ (g.1 i ≤ 1 → g.2.1 i < n) ∧ (g.1 i = 0 → g.2.2.1 i < n) ∧ pwf n g f dep (i + 1) to)))
def prep (f : PS → PS) : Nat → PS → PS
  | 0, z => z
  | t + 1, z => prep f t (f z)
def pone (ev : (Nat → Int32) → Int32) (C N : Nat → Int32) (n : Nat) (g : PG) (i : Nat) (z : PS) : PS :=
  ((wstep ev C N n z.1 (g.1 i) (g.2.1 i) (g.2.2.1 i) (g.2.2.2 i)).1, z.2.1 + 1, z.2.2.1 + (if (wstep ev C N n z.1 (g.1 i) (g.2.1 i) (g.2.2.1 i) (g.2.2.2 i)).2 = 0 then 0 else 1), z.2.2.2 + (if (wstep ev C N n z.1 (g.1 i) (g.2.1 i) (g.2.2.1 i) (g.2.2.2 i)).2 = 0 then 1 else 0))
def prun (ev : (Nat → Int32) → Int32) (C N : Nat → Int32) (n : Nat) (g : PG) : Nat → Nat → Nat → PS → PS
  | 0, _, _, z => z
  | f + 1, i, to, z => if to ≤ i ∨ 200 ≤ z.2.1 then z else if g.1 i = 5 then prun ev C N n g f (g.2.2.1 i) to (prep (prun ev C N n g f (i + 1) (g.2.2.1 i)) (g.2.1 i) (z.1, z.2.1 + 1, z.2.2.1, z.2.2.2)) else prun ev C N n g f (i + 1) to (pone ev C N n g i z)
def pOk (n : Nat) (z : PS) : Prop := wOk n z.1 ∧ wYok z.1 ∧ z.2.1 ≤ 200
theorem prep_ok {n : Nat} {f : PS → PS} (hf : ∀ z, pOk n z → pOk n (f z)) : ∀ t z, pOk n z → pOk n (prep f t z)
  | 0, _, h => h
  | t + 1, z, h => prep_ok hf t (f z) (hf z h)
theorem prun_ok {ev : (Nat → Int32) → Int32} {C N : Nat → Int32} {n : Nat} {g : PG} : ∀ (f dep i to : Nat), pwf n g f dep i to → ∀ z, pOk n z → pOk n (prun ev C N n g f i to z)
  | 0, _, _, _, _, _, hz => hz
  | f + 1, dep, i, to, hp, z, hz => by
    unfold prun
    by_cases c : to ≤ i ∨ 200 ≤ z.2.1
    · rw [if_pos c]; exact hz
    · rw [if_neg c]
      rcases hp with hp | ⟨_, ⟨h5, _, _, _, _, p1, p2⟩ | ⟨h4, ha, hc, p2⟩⟩
      · omega
      · rw [if_pos h5]
        exact prun_ok f dep _ to p2 _ (prep_ok (fun z hz => prun_ok f (dep - 1) _ _ p1 z hz) _ _ ⟨hz.1, hz.2.1, by show z.2.1 + 1 ≤ 200; omega⟩)
      · rw [if_neg (by omega)]
        have hs := wstep_ok (ev := ev) (C := C) (N := N) (k := g.2.2.2 i) hz.1 hz.2.1 ha hc
        exact prun_ok f dep _ to p2 _ ⟨hs.1, hs.2, by show z.2.1 + 1 ≤ 200; omega⟩
theorem prun_full {ev : (Nat → Int32) → Int32} {C N : Nat → Int32} {n : Nat} {g : PG} {f i to : Nat} {z : PS} (h : 200 ≤ z.2.1) : prun ev C N n g f i to z = z := by
  cases f with
  | zero => rfl
  | succ f => unfold prun; rw [if_pos (Or.inr h)]
theorem prep_full {f : PS → PS} {z : PS} (h : f z = z) : ∀ t, prep f t z = z
  | 0 => rfl
  | t + 1 => by unfold prep; rw [h]; exact prep_full h t
