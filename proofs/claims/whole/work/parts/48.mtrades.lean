/-! THE MODEL: trades by a table over sets of grants -/
theorem mm_skip (E : Nat → Nat → Bool) (k : Nat) (S : Nat → Bool) : ∀ (d u : Nat), (∀ x, u ≤ x → x < u + d → S x = false) → mm E (k + d) u S = mm E k (u + d) S
  | 0, u, _ => rfl
  | d + 1, u, h => by
    have e : mm E (k + d + 1) u S = mm E (k + d) (u + 1) S := mm_f (by rw [h u (by omega) (by omega)]; decide)
    show mm E (k + d + 1) u S = _
    rw [e, mm_skip E k S d (u + 1) (fun x a b => h x (by omega) (by omega)), show u + 1 + d = u + (d + 1) by omega]
theorem mm_no (E : Nat → Nat → Bool) (S : Nat → Bool) (h : ∀ x, S x = false) : ∀ k u, mm E k u S = 0
  | 0, _ => rfl
  | k + 1, u => by
    rw [mm_f (by rw [h u]; decide)]
    exact mm_no E S h k (u + 1)
theorem own_at {f : Int → Int} : ∀ (K : Nat), (∀ j : Int, 0 ≤ j → j < K → ¬ told 0 f j) → ∀ k : Int, 0 ≤ k → k < K → own f K (bo 0 f k * 24 + ho 0 f k) = la 0 f k ∨ ¬ ((0 ≤ ho 0 f k ∧ ho 0 f k ≤ 23) ∧ ∀ j : Int, 0 ≤ j → j < K → 0 ≤ ho 0 f j ∧ ho 0 f j ≤ 23)
  | 0, _, k, h0, h1 => absurd h1 (by omega)
  | K + 1, ht, k, h0, h1 => by
    by_cases hr : (0 ≤ ho 0 f k ∧ ho 0 f k ≤ 23) ∧ ∀ j : Int, 0 ≤ j → j < (K + 1 : Nat) → 0 ≤ ho 0 f j ∧ ho 0 f j ≤ 23
    · left
      show (if bo 0 f k * 24 + ho 0 f k = bo 0 f K * 24 + ho 0 f K then la 0 f K else own f K (bo 0 f k * 24 + ho 0 f k)) = la 0 f k
      by_cases e : bo 0 f k * 24 + ho 0 f k = bo 0 f K * 24 + ho 0 f K
      · rw [if_pos e]
        by_cases ek : k = K
        · rw [ek]
        · have r1 := hr.1
          have r2 := hr.2 K (by omega) (by omega)
          exact absurd ⟨k, h0, by omega, by omega, by omega⟩ (ht K (by omega) (by omega))
      · rw [if_neg e]
        have ek : ¬ k = K := fun z => e (by rw [z])
        rcases own_at K (fun j a b => ht j a (by omega)) k h0 (by omega) with w | w
        · exact w
        · exact absurd ⟨hr.1, fun j a b => hr.2 j a (by omega)⟩ w
    · right
      exact hr
theorem aw_gr {A : Ab} (hV : ValA A) {k : Int} (h0 : 0 ≤ k) (h1 : k < tE 0 A) : aw A (bo 0 (A 0) k * 24 + ho 0 (A 0) k) = la 0 (A 0) k := by
  have hl := (hV.1 0 (by omega)).1
  have hE := tE_rg hl
  have honc : onc 0 = 1 := rfl
  have hr : ∀ j : Int, 0 ≤ j → j < (tE 0 A).toNat → ¬ told 0 (A 0) j ∧ 0 ≤ ho 0 (A 0) j ∧ ho 0 (A 0) j ≤ 23 := fun j a b => by
    obtain ⟨-, -, e3, -, -, e6⟩ := ent_ok hl a (by omega)
    refine ⟨?_, e3⟩
    rcases e6 with e6 | e6
    · rw [honc] at e6
      exact absurd e6 (by decide)
    · exact e6
  rcases own_at (f := A 0) (tE 0 A).toNat (fun j a b => (hr j a b).1) k h0 (by omega) with w | w
  · exact w
  · exact absurd ⟨(hr k h0 (by omega)).2, fun j a b => (hr j a b).2⟩ w
theorem gP_aw {A : Ab} (hV : ValA A) {i j : Int} (hi : 0 ≤ i ∧ i < tE 0 A) (hj : 0 ≤ j ∧ j < tE 0 A) : bg (A 4) (aw A (bo 0 (A 0) i * 24 + ho 0 (A 0) i)) (ho 0 (A 0) i) (aw A (bo 0 (A 0) j * 24 + ho 0 (A 0) j)) (ho 0 (A 0) j) = gP A i j := by
  rw [aw_gr hV hi.1 hi.2, aw_gr hV hj.1 hj.2]
  rfl
def kT (μ μ' : Mem) : Prop := ∀ s n j, ¬ (s = 40 ∧ ¬ j = 0) → μ' s n j = μ s n j
theorem kT_k {μ μ1 : Mem} (h : kT μ μ1) : kM μ μ1 := fun s n j hs => h s n j (fun z => hs (by unfold scr; omega))
theorem kT_row {μ μ1 : Mem} (h : kT μ μ1) {s : Nat} (hs : ¬ s = 40) (n : Nat) : μ1 s n = μ s n := funext fun j => h s n j (fun z => hs z.1)
theorem Ki_T {A : Ab} {μ μ1 : Mem} (h : Ki A μ) (k : kT μ μ1) : Ki A μ1 := ⟨h.1, RepM_k h.2.1 (kT_k k), RdG_keep h.2.2.1 (by rw [kT_row k (by omega)]) (kT_row k (by omega) 0) (kT_row k (by omega) 0), RdO_keep h.2.2.2 (by rw [kT_row k (by omega)]) (kT_row k (by omega) 0)⟩
noncomputable def eP (A : Ab) : Nat → Nat → Bool := fun i j => gP A i j
/-- the table holds the most pairs of each set below T -/
def Tb (A : Ab) (T : Nat) (μ : Mem) : Prop := ∀ a : Nat, a < T → μ 40 0 a = mm (eP A) 12 0 (fun x => a.testBit x)
theorem low_at {a : Nat} (ha : a < 4096) (h0 : ¬ a = 0) : ∃ low, low < 12 ∧ a.testBit low = true ∧ ∀ x, x < low → a.testBit x = false := by
  have hex : ∃ v, a.testBit v = true := Classical.byContradiction fun hno => h0 (Nat.eq_of_testBit_eq fun v => by
    rw [Nat.zero_testBit]
    by_cases e : a.testBit v = true
    · exact absurd ⟨v, e⟩ hno
    · rw [Bool.not_eq_true] at e
      exact e)
  obtain ⟨v, hv⟩ := hex
  have key : ∀ n v, v ≤ n → a.testBit v = true → ∃ low, low < 12 ∧ a.testBit low = true ∧ ∀ x, x < low → a.testBit x = false := by
    intro n
    induction n with
    | zero =>
      intro v hv1 hv2
      exact ⟨v, bit_12 ha hv2, hv2, fun x hx => absurd hx (by omega)⟩
    | succ n ih =>
      intro v hv1 hv2
      by_cases e : ∃ w, w < v ∧ a.testBit w = true
      · obtain ⟨w, w1, w2⟩ := e
        exact ih w (by omega) w2
      · refine ⟨v, bit_12 ha hv2, hv2, fun x hx => ?_⟩
        by_cases e2 : a.testBit x = true
        · exact absurd ⟨x, hx, e2⟩ e
        · rw [Bool.not_eq_true] at e2
          exact e2
  exact key v v (Nat.le_refl _) hv
/-- the table's step -/
theorem mm_low {E : Nat → Nat → Bool} {S : Nat → Bool} {low : Nat} (hl : low < 12) (hs : S low = true) (hlo : ∀ x, x < low → S x = false) : mm E 12 0 S = mxv (fun v => S v && E low v) (fun v => 1 + mm E 12 0 (del (del S low) v)) (11 - low) (low + 1) (mm E 12 0 (del S low)) := by
  have hd : ∀ R : Nat → Bool, (∀ x, x < low + 1 → R x = false) → mm E 12 0 R = mm E (11 - low) (low + 1) R := fun R hR => by
    have := mm_skip E (11 - low) R (low + 1) 0 (fun x a b => hR x (by omega))
    rw [show 11 - low + (low + 1) = 12 by omega, Nat.zero_add] at this
    exact this
  have hdel : ∀ x, x < low + 1 → del S low x = false := fun x hx => by
    unfold del
    split
    · rfl
    · exact hlo x (by omega)
  have e1 := mm_skip E (12 - low) S low 0 (fun x a b => hlo x (by omega))
  rw [show 12 - low + low = 12 by omega, Nat.zero_add, show 12 - low = 11 - low + 1 by omega, mm_t hs] at e1
  rw [e1, hd _ hdel]
  congr 1
  funext v
  rw [hd _ (fun x hx => by
    unfold del
    split
    · rfl
    · exact hdel x hx)]
