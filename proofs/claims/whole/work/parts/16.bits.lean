/-! BITS: masks of bits as numbers -/
theorem nI_re (a : Nat) : Int32.ofInt (a : Int) = nI a := rfl
theorem tn_nI {a : Nat} (h : a < 2147483648) : (nI a).toBitVec.toNat = a := pk_tn (by omega)
theorem nI_ti {a : Nat} (h : a < 2147483648) : (nI a).toInt = (a : Int) := nI_toInt (by omega)
theorem oh_and_N {a b : Nat} (ha : a < 2147483648) (hb : b < 2147483648) : oh_and (a : Int) (b : Int) = ((a &&& b : Nat) : Int) := by
  unfold oh_and
  rw [nI_re, nI_re]
  have hl : a &&& b < 2147483648 := Nat.lt_of_le_of_lt Nat.and_le_left ha
  have e : nI a &&& nI b = nI (a &&& b) := by
    apply Int32.toBitVec.inj
    apply BitVec.eq_of_toNat_eq
    rw [Int32.toBitVec_and, BitVec.toNat_and, tn_nI ha, tn_nI hb, tn_nI hl]
  rw [e, nI_ti hl]
theorem or_lt31 {a b : Nat} (ha : a < 2147483648) (hb : b < 2147483648) : a ||| b < 2147483648 := Nat.or_lt_two_pow (n := 31) ha hb
theorem oh_or_N {a b : Nat} (ha : a < 2147483648) (hb : b < 2147483648) : oh_or (a : Int) (b : Int) = ((a ||| b : Nat) : Int) := by
  unfold oh_or
  rw [nI_re, nI_re]
  have hl := or_lt31 ha hb
  have e : nI a ||| nI b = nI (a ||| b) := by
    apply Int32.toBitVec.inj
    apply BitVec.eq_of_toNat_eq
    rw [Int32.toBitVec_or, BitVec.toNat_or, tn_nI ha, tn_nI hb, tn_nI hl]
  rw [e, nI_ti hl]
theorem sh_l : ∀ n, n < 32 → ((nI n &&& 31).toBitVec.smod 32).toNat = n := by decide +kernel
theorem oh_shl_N {a k : Nat} (hk : k < 32) (h : a * 2 ^ k < 2147483648) : oh_shl (a : Int) (k : Int) = ((a * 2 ^ k : Nat) : Int) := by
  unfold oh_shl
  rw [nI_re, nI_re, pk_shlN _ k (sh_l k hk) (by omega), nI_ti h]
theorem oh_shr_N {a k : Nat} (hk : k < 32) (h : a < 2147483648) : oh_shr (a : Int) (k : Int) = ((a / 2 ^ k : Nat) : Int) := by
  unfold oh_shr
  rw [nI_re, nI_re, pk_shrN (by omega) _ k (sh_l k hk), nI_ti (Nat.lt_of_le_of_lt (Nat.div_le_self _ _) h)]
theorem oh_bit_N {a k : Nat} (hk : k < 32) (h : a < 2147483648) : oh_and (oh_shr (a : Int) (k : Int)) 1 = 1 ↔ a.testBit k = true := by
  rw [oh_shr_N hk h]
  have := oh_and_N (a := a / 2 ^ k) (b := 1) (Nat.lt_of_le_of_lt (Nat.div_le_self _ _) h) (by omega)
  rw [show ((1 : Nat) : Int) = 1 from rfl] at this
  rw [this, Nat.and_one_is_mod, Nat.testBit_eq_decide_div_mod_eq, decide_eq_true_eq]
  generalize a / 2 ^ k % 2 = z
  omega
/-- the mask of the places below n that p picks -/
def mk (p : Int → Bool) : Nat → Nat
  | 0 => 0
  | n + 1 => mk p n + if p n then 2 ^ n else 0
theorem mk_lt (p : Int → Bool) : ∀ n, mk p n < 2 ^ n
  | 0 => by simp [mk]
  | n + 1 => by
    have := mk_lt p n
    rw [Nat.pow_succ]
    show mk p n + (if p n then 2 ^ n else 0) < _
    split <;> omega
theorem mk_or (p : Int → Bool) (n : Nat) : mk p n ||| 2 ^ n = mk p n + 2 ^ n := by
  have h := Nat.two_pow_add_eq_or_of_lt (mk_lt p n) 1
  rw [Nat.mul_one] at h
  rw [Nat.or_comm, ← h, Nat.add_comm]
theorem mk_bit (p : Int → Bool) : ∀ (n k : Nat), (mk p n).testBit k = (decide (k < n) && p k)
  | 0, k => by simp [mk]
  | n + 1, k => by
    show (mk p n + if p n then 2 ^ n else 0).testBit k = _
    have ih := mk_bit p n k
    by_cases hp : p n = true
    · rw [if_pos hp, ← mk_or, Nat.testBit_or, ih, Nat.testBit_two_pow]
      by_cases e : n = k
      · subst e
        simp [hp]
      · have e2 : (k < n + 1) ↔ k < n := by omega
        simp [e, e2]
    · rw [if_neg hp, Nat.add_zero, ih]
      by_cases e : n = k
      · subst e
        simp [hp]
      · have e2 : (k < n + 1) ↔ k < n := by omega
        simp [e2]
theorem mk_s (p : Int → Bool) {c : Int} (h : 0 ≤ c) : mk p (c + 1).toNat = mk p c.toNat + if p c then 2 ^ c.toNat else 0 := by
  have e : (c + 1).toNat = c.toNat + 1 := by omega
  rw [e]
  show mk p c.toNat + (if p (c.toNat : Int) then 2 ^ c.toNat else 0) = _
  have e2 : ((c.toNat : Nat) : Int) = c := by omega
  rw [e2]
theorem mk_lt31 (p : Int → Bool) {n : Nat} (h : n ≤ 31) : mk p n < 2147483648 := by
  have := mk_lt p n
  have : 2 ^ n ≤ 2 ^ 31 := Nat.pow_le_pow_right (by omega) h
  omega
theorem pow_lt31 {n : Nat} (h : n < 31) : 2 ^ n < 2147483648 := by
  have : 2 ^ n ≤ 2 ^ 30 := Nat.pow_le_pow_right (by omega) (by omega)
  omega
theorem shl1 {c : Int} (h0 : 0 ≤ c) (h1 : c < 31) : oh_shl 1 c = ((2 ^ c.toNat : Nat) : Int) := by
  have e2 : ((c.toNat : Nat) : Int) = c := by omega
  have := oh_shl_N (a := 1) (k := c.toNat) (by omega) (by rw [Nat.one_mul]; exact pow_lt31 (by omega))
  rw [e2, Nat.one_mul] at this
  exact this
/-- one bit more comes to a mask -/
theorem mk_put {p : Int → Bool} {c : Int} (h0 : 0 ≤ c) (h1 : c < 31) (hp : p c = true) : oh_or ((mk p c.toNat : Nat) : Int) (oh_shl 1 c) = ((mk p (c + 1).toNat : Nat) : Int) := by
  rw [shl1 h0 h1, oh_or_N (mk_lt31 p (by omega)) (pow_lt31 (by omega)), mk_or, mk_s p h0, if_pos hp]
theorem mk_skip {p : Int → Bool} {c : Int} (h0 : 0 ≤ c) (hp : ¬ p c = true) : mk p (c + 1).toNat = mk p c.toNat := by
  rw [mk_s p h0, if_neg hp, Nat.add_zero]
theorem oh_or_0 {a : Nat} (ha : a < 2147483648) : oh_or (a : Int) 0 = (a : Int) := by
  have := oh_or_N (a := a) (b := 0) ha (by omega)
  rw [Nat.or_zero] at this
  exact this
theorem mk_congr {p q : Int → Bool} : ∀ (n : Nat), (∀ j : Int, 0 ≤ j → j < n → p j = q j) → mk p n = mk q n
  | 0, _ => rfl
  | n + 1, h => by
    show mk p n + (if p n then 2 ^ n else 0) = mk q n + (if q n then 2 ^ n else 0)
    rw [mk_congr n (fun j a b => h j a (by omega)), h n (by omega) (by omega)]
/-- how many bits below n a number has -/
def pc (a : Nat) : Nat → Int
  | 0 => 0
  | n + 1 => pc a n + if a.testBit n then 1 else 0
theorem pc_rg (a : Nat) : ∀ n : Nat, 0 ≤ pc a n ∧ pc a n ≤ n
  | 0 => by simp [pc]
  | n + 1 => by
    have := pc_rg a n
    show 0 ≤ pc a n + (if a.testBit n then 1 else 0) ∧ pc a n + (if a.testBit n then 1 else 0) ≤ ((n + 1 : Nat) : Int)
    split <;> omega
theorem pc_mk (p : Int → Bool) (m : Nat) : ∀ n : Nat, n ≤ m → pc (mk p m) n = sm (fun j => if p j then 1 else 0) n
  | 0, _ => rfl
  | n + 1, h => by
    show pc (mk p m) n + (if (mk p m).testBit n then 1 else 0) = sm (fun j => if p j then 1 else 0) n + (if p n then 1 else 0)
    rw [pc_mk p m n (by omega), mk_bit, decide_eq_true (by omega : n < m), Bool.true_and]
theorem pc_more {a n : Nat} (h : a < 2 ^ n) : ∀ k : Nat, pc a (n + k) = pc a n
  | 0 => rfl
  | k + 1 => by
    show pc a (n + k) + (if a.testBit (n + k) then 1 else 0) = _
    rw [pc_more h k, Nat.testBit_lt_two_pow (Nat.lt_of_lt_of_le h (Nat.pow_le_pow_right (by omega) (by omega)))]
    simp
def T_X5_isIn : Tr := tS2 fun x k μ Post => ∃ a : Nat, x = a ∧ a < 2147483648 ∧ (0 ≤ k ∧ k < 31) ∧ (a.testBit k.toNat = true → Post (some (oI 1)) μ) ∧ (¬ a.testBit k.toNat = true → Post (some (oI 0)) μ)
theorem ok_X5_isIn : oh_Ok pg_X5_isIn 2 T_X5_isIn := by
  refine tS2_ok fun x k μ Post G hG hx hk hM h => ?_
  obtain ⟨a, rfl, ha, hk2, h1, h2⟩ := h
  have e2 : ((k.toNat : Nat) : Int) = k := by omega
  have hb := oh_bit_N (a := a) (k := k.toNat) (by omega) ha
  rw [e2] at hb
  refine oh_go hG [] 40 ?_
  exact ⟨fun q => ⟨by omega, h2 (fun z => q (hb.mpr z))⟩, fun q => ⟨by omega, h1 (hb.mp (Classical.not_not.mp q))⟩⟩
def on6 (x : Int) : Int := pc x.toNat 6
theorem on6_dec : ∀ a : Nat, a < 64 → ¬ a = 0 → on6 (oh_and (a : Int) ((a : Int) - 1)) = on6 (a : Int) - 1 ∧ 0 ≤ oh_and (a : Int) ((a : Int) - 1) ∧ oh_and (a : Int) ((a : Int) - 1) < (a : Int) := by decide +kernel
theorem on6_0 : on6 0 = 0 := by decide
def T_X5_ones : Tr := tS1 fun x μ Post => (0 ≤ x ∧ x < 64) ∧ Post (some (oI (on6 x))) μ
theorem ok_X5_ones : oh_Ok pg_X5_ones 3 T_X5_ones := by
  refine tS1_ok fun x μ Post G hG hx hM h => ?_
  obtain ⟨hr, h⟩ := h
  have key : ∀ (n : Nat) (y c : Int), y ≤ n → 0 ≤ y → y < 64 → (0 ≤ c ∧ c ≤ 64) → c + on6 y = on6 x → G 4 [some (oI x), some (oI c), some (oI y)] [] μ := by
    intro n
    induction n with
    | zero =>
      intro y c h1 h2 h3 hc h4
      have e : y = 0 := by omega
      subst e
      rw [on6_0, Int.add_zero] at h4
      rw [← h4] at h
      refine oh_go hG [(4, 3)] 40 ?_
      exact ⟨fun _ => h, fun q => absurd rfl q⟩
    | succ n ih =>
      intro y c h1 h2 h3 hc h4
      refine oh_go hG [(4, 3)] 40 ?_
      refine ⟨fun q => ?_, fun q => ?_⟩
      · have e : y = 0 := by omega
        subst e
        rw [on6_0, Int.add_zero] at h4
        rw [← h4] at h
        exact h
      · have e2 : ((y.toNat : Nat) : Int) = y := by omega
        obtain ⟨d1, d2, d3⟩ := on6_dec y.toNat (by omega) (by omega)
        rw [e2] at d1 d2 d3
        have hb : 0 ≤ on6 (oh_and y (y - 1)) := (pc_rg _ _).1
        have hb2 : on6 x ≤ 6 := (pc_rg _ _).2
        exact ⟨by omega, by omega, ih _ _ (by omega) d2 (by omega) (by omega) (by omega)⟩
  refine oh_go hG [(4, 3)] 5 ?_
  exact key x.toNat x 0 (by omega) hr.1 hr.2 (by omega) (by omega)
