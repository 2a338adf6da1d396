/-! ===== L2: frames; the state of a world as both sides have it ===== -/
def Fr (S : List Nat) (A A' : Nat → Nat → Int32) : Prop := ∀ j, j ∉ S → A' j = A j
theorem fr_r {S : List Nat} {A : Nat → Nat → Int32} : Fr S A A := fun _ _ => rfl
theorem fr_t {S : List Nat} {A A' A'' : Nat → Nat → Int32} (h : Fr S A A') (k : Fr S A' A'') : Fr S A A'' := fun j hj => (k j hj).trans (h j hj)
theorem fr_m {S S' : List Nat} {A A' : Nat → Nat → Int32} (h : Fr S A A') (hs : ∀ j ∈ S, j ∈ S') : Fr S' A A' := fun j hj => h j (fun q => hj (hs j q))
theorem fr_C {S : List Nat} {A A' : Nat → Nat → Int32} {o : Nat} {g : Nat → Int32} (h : Fr S A A') (ho : o ∈ S) : Fr S A (upC A' o g) := fun j hj => by
  have hn : j ≠ o := fun q => hj (q ▸ ho)
  show (if j = o then g else A' j) = A j
  rw [if_neg hn]
  exact h j hj
theorem fr_A {S : List Nat} {A A' : Nat → Nat → Int32} {o i : Nat} {a : Int32} (h : Fr S A A') (ho : o ∈ S) : Fr S A (upA A' o i a) := fun j hj => by
  have hn : j ≠ o := fun q => hj (q ▸ ho)
  show (if j = o then upd (A' j) i a else A' j) = A j
  rw [if_neg hn]
  exact h j hj
theorem fr_I {S : List Nat} {A A' : Nat → Nat → Int32} {o i : Nat} {a : Int32} (h : Fr S A A') (ho : o ∈ S) : Fr S A (upI A' o i a) := fr_A h ho
theorem upA_s {A : Nat → Nat → Int32} {o i : Nat} {a : Int32} : upA A o i a o = upd (A o) i a := by simp [upA]
theorem upA_n {A : Nat → Nat → Int32} {o i j : Nat} {a : Int32} (h : j ≠ o) : upA A o i a j = A j := by simp [upA, h]
theorem upI_o {A : Nat → Nat → Int32} {o i : Nat} {a : Int32} : upI A o i a o = upd (A o) i a := by simp [upI]
theorem upI_n {A : Nat → Nat → Int32} {o i j : Nat} {a : Int32} (h : j ≠ o) : upI A o i a j = A j := by simp [upI, h]
theorem upI_f {A : Nat → Nat → Int32} {o i k : Nat} {a : Int32} (h : k ≠ i) : upI A o i a o k = A o k := by simp [upI, upd, h]
theorem upd_at {f : Nat → Int32} {i : Nat} {a : Int32} : upd f i a i = a := by simp [upd]
theorem upd_ne {f : Nat → Int32} {i j : Nat} {a : Int32} (h : j ≠ i) : upd f i a j = f j := by simp [upd, h]
theorem cck_W {o : Nat} (h : cck o = (8 + 2, 0)) : o = 13 ∨ o = 17 ∨ o = 48 := cck_all (p := fun o => cck o = (8 + 2, 0) → o = 13 ∨ o = 17 ∨ o = 48) (by decide +kernel) (fun o h q => by rw [h] at q; cases q) o h
theorem cck_L {o : Nat} (h : cck o = (3 + 2, 0)) : o = 3 ∨ o = 8 := cck_all (p := fun o => cck o = (3 + 2, 0) → o = 3 ∨ o = 8) (by decide +kernel) (fun o h q => by rw [h] at q; cases q) o h
theorem cck_Q {o : Nat} (h : cck o = (4 + 2, 0)) : o = 21 ∨ o = 25 := cck_all (p := fun o => cck o = (4 + 2, 0) → o = 21 ∨ o = 25) (by decide +kernel) (fun o h q => by rw [h] at q; cases q) o h
theorem cck_K {o : Nat} (h : cck o = (0 + 2, 0)) : o = 29 ∨ o = 32 := cck_all (p := fun o => cck o = (0 + 2, 0) → o = 29 ∨ o = 32) (by decide +kernel) (fun o h q => by rw [h] at q; cases q) o h
def rs (n : Nat) (f : Nat → Int32) : Nat → Int32 := fun t => if t < n then f t else 0
theorem rs_at {n : Nat} {f : Nat → Int32} {t : Nat} (h : t < n) : rs n f t = f t := if_pos h
theorem rs_c {n : Nat} {f g : Nat → Int32} (h : ∀ t, t < n → f t = g t) : rs n f = rs n g := by
  funext t
  unfold rs
  by_cases ht : t < n
  · rw [if_pos ht, if_pos ht, h t ht]
  · rw [if_neg ht, if_neg ht]
theorem rs_e {n : Nat} {f g : Nat → Int32} (h : rs n f = rs n g) {t : Nat} (ht : t < n) : f t = g t := by
  have := congrFun h t
  rwa [rs_at ht, rs_at ht] at this
theorem fsum_c {f g : Nat → Int32} : ∀ {n : Nat}, (∀ t, t < n → f t = g t) → fsum f n = fsum g n
  | 0, _ => rfl
  | n + 1, h => by rw [fsum, fsum, fsum_c (fun t ht => h t (by omega)), h n (by omega)]
theorem fbits_c {p : Int32} {V B V' B' : Nat → Int32} : ∀ {n : Nat}, (∀ t, t < n → V t = V' t) → (∀ t, t < n → B t = B' t) → fbits p V B n = fbits p V' B' n
  | 0, _, _ => rfl
  | n + 1, h, k => by rw [fbits, fbits, fbits_c (fun t ht => h t (by omega)) (fun t ht => k t (by omega)), h n (by omega), k n (by omega)]
theorem bt_fbits {p : Int32} {V B : Nat → Int32} {i : Nat} (hi : i < 32) : ∀ {k : Nat}, k ≤ 32 → bt (fbits p V B k) i = (decide (i < k) && decide (fside (B i) (V i) = p))
  | 0, _ => by rw [fbits, b_0, decide_eq_false (by omega), Bool.false_and]
  | k + 1, hk => by
    rw [fbits, b_or, bt_fbits hi (by omega)]
    by_cases hc : fside (B k) (V k) = p
    · rw [if_pos hc, b_1shl (by omega) hi]
      by_cases hik : i = k
      · subst hik
        rw [decide_eq_true hc, decide_eq_false (by omega), decide_eq_true (rfl : i = i), decide_eq_true (show i < i + 1 by omega)]
        rfl
      · rw [decide_eq_false hik, Bool.or_false]
        by_cases h2 : i < k
        · rw [decide_eq_true h2, decide_eq_true (show i < k + 1 by omega)]
        · rw [decide_eq_false h2, decide_eq_false (show ¬ i < k + 1 by omega)]
    · rw [if_neg hc, b_0, Bool.or_false]
      by_cases hik : i = k
      · subst hik
        rw [decide_eq_false hc, Bool.and_false, Bool.and_false]
      · by_cases h2 : i < k
        · rw [decide_eq_true h2, decide_eq_true (show i < k + 1 by omega)]
        · rw [decide_eq_false h2, decide_eq_false (show ¬ i < k + 1 by omega)]
/-- voters, breathe, parted (of the towns that are there); comma, votes, party, year -/
abbrev WS : Type := (Nat → Int32) × (Nat → Int32) × (Nat → Int32) × Int32 × Int32 × Int32 × Int32
def cW (n : Nat) (I A : Nat → Nat → Int32) (o : Nat) : WS := (rs n (A (o + 1)), rs n (A (o + 2)), rs n (fun t => (I o 3 >>> (nI t &&& 31)) &&& 1), I o 4, I o 5, I o 6, I o 7)
def rW (n : Nat) (s : Nat → Int32) : WS := (rs n s, rs n (fun t => s (8 + t)), rs n (fun t => s (16 + t)), s 24, s 26, s 25, s 27)
def wV (w : WS) : Nat → Int32 := w.1
def wB (w : WS) : Nat → Int32 := w.2.1
def wside (w : WS) (t : Nat) : Int32 := fside (wB w t) (wV w t)
/-- the seats of a party -/
def wseat1 (C : Nat → Int32) (n : Nat) (V B : Nat → Int32) (p : Int32) : Int32 := fsum (fun t => if fside (B t) (V t) = p then C t else 0) n
def wseats (C : Nat → Int32) (n : Nat) (w : WS) (p : Int32) : Int32 := wseat1 C n (wV w) (wB w) p
theorem seats_eq {p : Int32} {V B C : Nat → Int32} {n : Nat} (hn : n ≤ 8) : fsum (fun t => if (fbits p V B n >>> (nI t &&& 31)) &&& 1 = 1 then C t else 0) n = fsum (fun t => if fside (B t) (V t) = p then C t else 0) n := by
  refine fsum_c (fun t ht => ?_)
  have h := @b_at1 (fbits p V B n) t (by omega)
  rw [bt_fbits (by omega) (by omega), decide_eq_true ht, Bool.true_and, decide_eq_true_eq] at h
  by_cases hc : fside (B t) (V t) = p
  · rw [if_pos hc, if_pos (h.mpr hc)]
  · rw [if_neg hc, if_neg (fun q => hc (h.mp q))]
def fhold (b v m : Int32) : Int32 := gmax 0 (gmin v (b + m))
/-- the facts that a law is asked by -/
def fct (v b c cm s nr vt pt t y : Int32) : Nat → Int32
  | 0 => v
  | 1 => b
  | 2 => c
  | 3 => cm
  | 4 => s
  | 5 => nr
  | 6 => vt
  | 7 => pt
  | 8 => t
  | 9 => y
  | _ => 0
def evOk (ev : (Nat → Int32) → Int32) : Prop := ∀ f g, (∀ k, k < 10 → f k = g k) → ev f = ev g
/-- towns near t, by roads N, whose side is 0 -/
def wnear (N : Nat → Int32) (n : Nat) (w : WS) (t : Nat) : Int32 := fsum (fun o => if bt (N t) o = true ∧ wside w o = 0 then 1 else 0) n
def wsway (ev : (Nat → Int32) → Int32) (C N : Nat → Int32) (n : Nat) (w : WS) (t : Nat) : Int32 := ev (fct (wV w t) (wB w t) (C t) w.2.2.2.1 (w.2.2.1 t) (wnear N n w t) w.2.2.2.2.1 w.2.2.2.2.2.1 (nI t) w.2.2.2.2.2.2)
def wB1 (ev : (Nat → Int32) → Int32) (C N : Nat → Int32) (n : Nat) (w : WS) : Nat → Int32 := rs n (fun t => fhold (wB w t) (wV w t) (wsway ev C N n w t))
def wlead (a b p : Int32) : Int32 := if a = b then p else if a ≤ b then 1 else 0
def wvote (ev : (Nat → Int32) → Int32) (C N : Nat → Int32) (n : Nat) (w : WS) : WS :=
  (wV w, wB1 ev C N n w, w.2.2.1, w.2.2.2.1, w.2.2.2.2.1 + 1, wlead (wseat1 C n (wV w) (wB1 ev C N n w) 0) (wseat1 C n (wV w) (wB1 ev C N n w) 1) w.2.2.2.2.2.1, w.2.2.2.2.2.2)
