/-! TRADES: the most pairs of grants whose persons both gain -/
def del (S : Nat → Bool) (v : Nat) : Nat → Bool := fun x => if x = v then false else S x
theorem del_s (S : Nat → Bool) (v : Nat) : del S v v = false := if_pos rfl
theorem del_o {S : Nat → Bool} {v x : Nat} (h : ¬ x = v) : del S v x = S x := if_neg h
theorem del_comm (S : Nat → Bool) (u v : Nat) : del (del S u) v = del (del S v) u := funext fun x => by
  unfold del
  by_cases a : x = u <;> by_cases b : x = v <;> simp [a, b]
theorem del_id {S : Nat → Bool} {v : Nat} (h : S v = false) : del S v = S := funext fun x => by
  unfold del
  by_cases a : x = v
  · rw [if_pos a, a, h]
  · rw [if_neg a]
def mxv (p : Nat → Bool) (g : Nat → Int) : Nat → Nat → Int → Int
  | 0, _, acc => acc
  | k + 1, v, acc => mxv p g k (v + 1) (if p v = true then max acc (g v) else acc)
theorem mxv_le {p : Nat → Bool} {g : Nat → Int} {B : Int} : ∀ (k v : Nat) (acc : Int), mxv p g k v acc ≤ B ↔ acc ≤ B ∧ ∀ w, v ≤ w → w < v + k → p w = true → g w ≤ B
  | 0, v, acc => ⟨fun h => ⟨h, fun w a b => absurd b (by omega)⟩, fun h => h.1⟩
  | k + 1, v, acc => by
    show mxv p g k (v + 1) (if p v = true then max acc (g v) else acc) ≤ B ↔ _
    rw [mxv_le k (v + 1)]
    constructor
    · rintro ⟨h1, h2⟩
      by_cases e : p v = true
      · rw [if_pos e] at h1
        refine ⟨by omega, fun w a b c => ?_⟩
        by_cases ew : w = v
        · rw [ew]
          omega
        · exact h2 w (by omega) (by omega) c
      · rw [if_neg e] at h1
        refine ⟨h1, fun w a b c => ?_⟩
        by_cases ew : w = v
        · rw [ew] at c
          exact absurd c e
        · exact h2 w (by omega) (by omega) c
    · rintro ⟨h1, h2⟩
      refine ⟨?_, fun w a b c => h2 w (by omega) (by omega) c⟩
      by_cases e : p v = true
      · rw [if_pos e]
        have := h2 v (by omega) (by omega) e
        omega
      · rw [if_neg e]
        exact h1
theorem mxv_acc {p : Nat → Bool} {g : Nat → Int} (k v : Nat) (acc : Int) : acc ≤ mxv p g k v acc := ((mxv_le (B := mxv p g k v acc) k v acc).mp (Int.le_refl _)).1
theorem mxv_at {p : Nat → Bool} {g : Nat → Int} (k v : Nat) (acc : Int) {w : Nat} (h1 : v ≤ w) (h2 : w < v + k) (h3 : p w = true) : g w ≤ mxv p g k v acc := ((mxv_le (B := mxv p g k v acc) k v acc).mp (Int.le_refl _)).2 w h1 h2 h3
/-- the most pairs among S from u on: u stays alone, or goes with one ahead of it -/
def mm (E : Nat → Nat → Bool) : Nat → Nat → (Nat → Bool) → Int
  | 0, _, _ => 0
  | k + 1, u, S => if S u = true then mxv (fun v => S v && E u v) (fun v => 1 + mm E k (u + 1) (del (del S u) v)) k (u + 1) (mm E k (u + 1) (del S u)) else mm E k (u + 1) S
theorem mm_t {E : Nat → Nat → Bool} {k u : Nat} {S : Nat → Bool} (h : S u = true) : mm E (k + 1) u S = mxv (fun v => S v && E u v) (fun v => 1 + mm E k (u + 1) (del (del S u) v)) k (u + 1) (mm E k (u + 1) (del S u)) := if_pos h
theorem mm_f {E : Nat → Nat → Bool} {k u : Nat} {S : Nat → Bool} (h : ¬ S u = true) : mm E (k + 1) u S = mm E k (u + 1) S := if_neg h
theorem mm_nn (E : Nat → Nat → Bool) : ∀ (k u : Nat) (S : Nat → Bool), 0 ≤ mm E k u S
  | 0, _, _ => Int.le_refl _
  | k + 1, u, S => by
    by_cases h : S u = true
    · rw [mm_t h]
      exact Int.le_trans (mm_nn E k (u + 1) _) (mxv_acc _ _ _)
    · rw [mm_f h]
      exact mm_nn E k (u + 1) _
theorem mm_mono (E : Nat → Nat → Bool) : ∀ (k u : Nat) (S : Nat → Bool) (v : Nat), mm E k u (del S v) ≤ mm E k u S
  | 0, _, _, _ => Int.le_refl _
  | k + 1, u, S, v => by
    by_cases h : S u = true
    · by_cases e : u = v
      · subst e
        rw [mm_f (S := del S u) (by rw [del_s]; decide), mm_t h]
        exact mxv_acc _ _ _
      · rw [mm_t (S := del S v) (by rw [del_o e]; exact h), mm_t h, mxv_le]
        refine ⟨?_, fun w a b c => ?_⟩
        · rw [del_comm]
          exact Int.le_trans (mm_mono E k (u + 1) (del S u) v) (mxv_acc _ _ _)
        · have c : (del S v w && E u w) = true := c
          rw [Bool.and_eq_true] at c
          have ew : ¬ w = v := fun z => by
            rw [z, del_s] at c
            exact absurd c.1 (by decide)
          rw [del_o ew] at c
          have h1 := mxv_at (p := fun v => S v && E u v) (g := fun v => 1 + mm E k (u + 1) (del (del S u) v)) k (u + 1) (mm E k (u + 1) (del S u)) a b (by rw [Bool.and_eq_true]; exact c)
          have h2 := mm_mono E k (u + 1) (del (del S u) w) v
          have e3 : del (del (del S v) u) w = del (del (del S u) w) v := by rw [del_comm S v u, del_comm (del S u) v w]
          rw [e3]
          omega
    · have h2 : ¬ del S v u = true := by
        unfold del
        split
        · decide
        · exact h
      rw [mm_f h, mm_f h2]
      exact mm_mono E k (u + 1) S v
theorem mm_lip (E : Nat → Nat → Bool) : ∀ (k u : Nat) (S : Nat → Bool) (v : Nat), mm E k u S ≤ 1 + mm E k u (del S v)
  | 0, _, _, _ => by
    show (0 : Int) ≤ 1 + 0
    omega
  | k + 1, u, S, v => by
    by_cases h : S u = true
    · by_cases e : u = v
      · subst e
        rw [mm_f (S := del S u) (by rw [del_s]; decide), mm_t h, mxv_le]
        refine ⟨by omega, fun w a b c => ?_⟩
        have := mm_mono E k (u + 1) (del S u) w
        omega
      · rw [mm_t (S := del S v) (by rw [del_o e]; exact h), mm_t h, mxv_le]
        have ha := mxv_acc (p := fun w => del S v w && E u w) (g := fun w => 1 + mm E k (u + 1) (del (del (del S v) u) w)) k (u + 1) (mm E k (u + 1) (del (del S v) u))
        refine ⟨?_, fun w a b c => ?_⟩
        · have := mm_lip E k (u + 1) (del S u) v
          rw [del_comm] at this
          omega
        · by_cases ew : w = v
          · rw [ew, del_comm S u v]
            omega
          · have c : (S w && E u w) = true := c
            have h1 := mxv_at (p := fun w => del S v w && E u w) (g := fun w => 1 + mm E k (u + 1) (del (del (del S v) u) w)) k (u + 1) (mm E k (u + 1) (del (del S v) u)) a b (by rw [del_o ew]; exact c)
            have h2 := mm_lip E k (u + 1) (del (del S u) w) v
            have e3 : del (del (del S v) u) w = del (del (del S u) w) v := by rw [del_comm S v u, del_comm (del S u) v w]
            rw [e3] at h1
            omega
    · have h2 : ¬ del S v u = true := by
        unfold del
        split
        · decide
        · exact h
      rw [mm_f h, mm_f h2]
      exact mm_lip E k (u + 1) S v
def cnS (S : Nat → Bool) : Nat → Nat → Int
  | 0, _ => 0
  | k + 1, u => (if S u = true then 1 else 0) + cnS S k (u + 1)
theorem cnS_nn (S : Nat → Bool) : ∀ k u, 0 ≤ cnS S k u
  | 0, _ => Int.le_refl _
  | k + 1, u => by
    have := cnS_nn S k (u + 1)
    show 0 ≤ (if S u = true then 1 else 0) + cnS S k (u + 1)
    split <;> omega
theorem cnS_lo {S : Nat → Bool} {v : Nat} : ∀ k u, v < u → cnS (del S v) k u = cnS S k u
  | 0, _, _ => rfl
  | k + 1, u, h => by
    show (if del S v u = true then 1 else 0) + cnS (del S v) k (u + 1) = (if S u = true then 1 else 0) + cnS S k (u + 1)
    rw [del_o (by omega), cnS_lo k (u + 1) (by omega)]
theorem cnS_del {S : Nat → Bool} {v : Nat} : ∀ k u, u ≤ v → v < u + k → S v = true → cnS (del S v) k u = cnS S k u - 1
  | 0, _, _, h, _ => absurd h (by omega)
  | k + 1, u, h0, h1, hs => by
    show (if del S v u = true then 1 else 0) + cnS (del S v) k (u + 1) = (if S u = true then 1 else 0) + cnS S k (u + 1) - 1
    by_cases e : u = v
    · subst e
      rw [del_s, cnS_lo k (u + 1) (by omega), if_pos hs, if_neg (by decide)]
      omega
    · rw [del_o e, cnS_del k (u + 1) (by omega) (by omega) hs]
      omega
theorem mm_bd (E : Nat → Nat → Bool) : ∀ (k u : Nat) (S : Nat → Bool), 2 * mm E k u S ≤ cnS S k u
  | 0, _, _ => by
    show (2 : Int) * 0 ≤ 0
    omega
  | k + 1, u, S => by
    show _ ≤ (if S u = true then 1 else 0) + cnS S k (u + 1)
    by_cases h : S u = true
    · rw [mm_t h, if_pos h]
      have : mxv (fun v => S v && E u v) (fun v => 1 + mm E k (u + 1) (del (del S u) v)) k (u + 1) (mm E k (u + 1) (del S u)) ≤ (1 + cnS S k (u + 1)) / 2 := by
        rw [mxv_le]
        refine ⟨?_, fun w a b c => ?_⟩
        · have := mm_bd E k (u + 1) (del S u)
          rw [cnS_lo k (u + 1) (by omega)] at this
          omega
        · have c : (S w && E u w) = true := c
          rw [Bool.and_eq_true] at c
          have := mm_bd E k (u + 1) (del (del S u) w)
          rw [cnS_del k (u + 1) a b (by rw [del_o (by omega)]; exact c.1), cnS_lo k (u + 1) (by omega)] at this
          omega
      omega
    · rw [mm_f h, if_neg h]
      have := mm_bd E k (u + 1) S
      omega
/-- with one that has a mate ahead, one of its mates is always taken -/
theorem mm_open {E : Nat → Nat → Bool} {k u : Nat} {S : Nat → Bool} (h : S u = true) {v : Nat} (h1 : u + 1 ≤ v) (h2 : v < u + 1 + k) (h3 : (S v && E u v) = true) : mm E (k + 1) u S = mxv (fun v => S v && E u v) (fun v => 1 + mm E k (u + 1) (del (del S u) v)) k (u + 1) 0 := by
  rw [mm_t h]
  apply Int.le_antisymm
  · rw [mxv_le]
    refine ⟨?_, fun w a b c => mxv_at (p := fun v => S v && E u v) (g := fun v => 1 + mm E k (u + 1) (del (del S u) v)) k (u + 1) 0 a b c⟩
    have := mxv_at (p := fun v => S v && E u v) (g := fun v => 1 + mm E k (u + 1) (del (del S u) v)) k (u + 1) 0 h1 h2 h3
    exact Int.le_trans (mm_lip E k (u + 1) (del S u) v) this
  · rw [mxv_le]
    exact ⟨Int.le_trans (mm_nn E k (u + 1) (del S u)) (mxv_acc _ _ _), fun w a b c => mxv_at (p := fun v => S v && E u v) (g := fun v => 1 + mm E k (u + 1) (del (del S u) v)) k (u + 1) _ a b c⟩
theorem mm_shut {E : Nat → Nat → Bool} {k u : Nat} {S : Nat → Bool} (h : ∀ v, u + 1 ≤ v → v < u + 1 + k → S u = true → ¬ (S v && E u v) = true) : mm E (k + 1) u S = mm E k (u + 1) (del S u) := by
  by_cases hs : S u = true
  · rw [mm_t hs]
    apply Int.le_antisymm
    · rw [mxv_le]
      exact ⟨Int.le_refl _, fun w a b c => absurd c (h w a b hs)⟩
    · exact mxv_acc _ _ _
  · rw [mm_f hs, del_id (by rw [Bool.not_eq_true] at hs; exact hs)]
/-- a loop that stops once the bound is reached tells the same -/
theorem mxv_stop {p : Nat → Bool} {g : Nat → Int} {k v : Nat} {acc : Int} (h : ∀ w, v ≤ w → w < v + k → p w = true → g w ≤ acc) : mxv p g k v acc = acc := Int.le_antisymm ((mxv_le k v acc).mpr ⟨Int.le_refl _, h⟩) (mxv_acc _ _ _)
