/-! BITCOUNT of numbers below 2^20, lane by lane; FEWEST bodies; COUNT -/
theorem ush_s : ∀ k, k < 32 → ((nI k).toUInt32 &&& Int32.toUInt32 31).toNat % 32 = k := by decide +kernel
theorem oh_ushr_N {a k : Nat} (hk : k < 32) (h : a < 2147483648) : oh_ushr (a : Int) (k : Int) = ((a / 2 ^ k : Nat) : Int) := by
  unfold oh_ushr
  rw [nI_re, nI_re]
  have hl : a / 2 ^ k < 2147483648 := Nat.lt_of_le_of_lt (Nat.div_le_self _ _) h
  have e : ((nI a).toUInt32 >>> ((nI k).toUInt32 &&& Int32.toUInt32 31)).toInt32 = nI (a / 2 ^ k) := by
    apply Int32.toBitVec.inj
    apply BitVec.eq_of_toNat_eq
    rw [tn_nI hl]
    show ((nI a).toUInt32 >>> ((nI k).toUInt32 &&& Int32.toUInt32 31)).toNat = _
    rw [UInt32.toNat_shiftRight, ush_s k hk, Nat.shiftRight_eq_div_pow]
    have : (nI a).toUInt32.toNat = a := tn_nI h
    rw [this]
  rw [e, nI_ti hl]
theorem and_lane {x m y n : Nat} (hx : x < 16) (hm : m < 16) : (x + 16 * y) &&& (m + 16 * n) = (x &&& m) + 16 * (y &&& n) := by
  have hxm : x &&& m < 2 ^ 4 := Nat.lt_of_le_of_lt Nat.and_le_left hx
  rw [Nat.add_comm x, Nat.add_comm m, Nat.add_comm (x &&& m)]
  apply Nat.eq_of_testBit_eq
  intro j
  have e1 := Nat.testBit_two_pow_mul_add y (i := 4) hx j
  have e2 := Nat.testBit_two_pow_mul_add n (i := 4) hm j
  have e3 := Nat.testBit_two_pow_mul_add (y &&& n) (i := 4) hxm j
  have p4 : (2 : Nat) ^ 4 = 16 := rfl
  rw [p4] at e1 e2 e3
  rw [Nat.testBit_and, e1, e2, e3]
  split
  · rw [Nat.testBit_and]
  · rw [Nat.testBit_and]
theorem pc_lane {x y : Nat} (hx : x < 16) : ∀ n : Nat, pc (x + 16 * y) (4 + n) = pc x 4 + pc y n
  | 0 => by
    have hb : ∀ j, j < 4 → (x + 16 * y).testBit j = x.testBit j := fun j hj => by
      rw [Nat.add_comm]
      have e1 := Nat.testBit_two_pow_mul_add y (i := 4) hx j
      have p4 : (2 : Nat) ^ 4 = 16 := rfl
      rw [p4] at e1
      rw [e1, if_pos hj]
    simp only [pc, hb 0 (by omega), hb 1 (by omega), hb 2 (by omega), hb 3 (by omega), Nat.add_zero]
    omega
  | n + 1 => by
    have e1 := Nat.testBit_two_pow_mul_add y (i := 4) hx (4 + n)
    have p4 : (2 : Nat) ^ 4 = 16 := rfl
    rw [p4, if_neg (by omega), show 4 + n - 4 = n by omega, Nat.add_comm] at e1
    show pc (x + 16 * y) (4 + n) + (if (x + 16 * y).testBit (4 + n) then 1 else 0) = pc x 4 + (pc y n + if y.testBit n then 1 else 0)
    rw [pc_lane hx n, e1]
    omega
/-- a nibble's bits, by the class's own way -/
def nb1 (a : Nat) : Nat := a - (a / 2 &&& 5)
def nb2 (a : Nat) : Nat := (nb1 a &&& 3) + (nb1 a / 4 &&& 3)
theorem nb_f : ∀ a, a < 16 → nb1 a < 16 ∧ (a / 2 &&& 5) ≤ a ∧ nb2 a ≤ 4 ∧ ((nb2 a : Nat) : Int) = pc a 4 ∧ (∀ t, t < 2 → (a / 2 + 8 * t) &&& 5 = a / 2 &&& 5) := by decide +kernel
theorem nb_g : ∀ a, a < 16 → ∀ t, t < 4 → (nb1 a / 4 + 4 * t) &&& 3 = nb1 a / 4 &&& 3 := by decide +kernel
def bcT (v : Nat) : Nat := (((v + v / 16 &&& 252645135) + (v + v / 16 &&& 252645135) / 256) + ((v + v / 16 &&& 252645135) + (v + v / 16 &&& 252645135) / 256) / 65536) &&& 63
theorem bcT_f : ∀ a, a < 5 → ∀ b, b < 5 → ∀ c, c < 5 → ∀ d, d < 5 → ∀ e, e < 5 → bcT (a + 16 * (b + 16 * (c + 16 * (d + 16 * e)))) = a + b + c + d + e := by decide +kernel
def bc1 (a : Nat) : Nat := a - (a / 2 &&& 1431655765)
def bc2 (v : Nat) : Nat := (v &&& 858993459) + (v / 4 &&& 858993459)
theorem bc_lanes {a b c d e : Nat} (ha : a < 16) (hb : b < 16) (hc : c < 16) (hd : d < 16) (he : e < 16) : bc1 (a + 16 * (b + 16 * (c + 16 * (d + 16 * e)))) = nb1 a + 16 * (nb1 b + 16 * (nb1 c + 16 * (nb1 d + 16 * nb1 e))) ∧ ((a + 16 * (b + 16 * (c + 16 * (d + 16 * e)))) / 2 &&& 1431655765) ≤ a + 16 * (b + 16 * (c + 16 * (d + 16 * e))) := by
  have e1 : (a + 16 * (b + 16 * (c + 16 * (d + 16 * e)))) / 2 = (a / 2 + 8 * (b % 2)) + 16 * ((b / 2 + 8 * (c % 2)) + 16 * ((c / 2 + 8 * (d % 2)) + 16 * ((d / 2 + 8 * (e % 2)) + 16 * (e / 2 / 16 + 0)))) + 16 * (16 * (16 * (16 * (e / 2)))) - 16 * (16 * (16 * (16 * (16 * (e / 2 / 16))))) := by omega
  have e2 : (a + 16 * (b + 16 * (c + 16 * (d + 16 * e)))) / 2 = (a / 2 + 8 * (b % 2)) + 16 * ((b / 2 + 8 * (c % 2)) + 16 * ((c / 2 + 8 * (d % 2)) + 16 * ((d / 2 + 8 * (e % 2)) + 16 * ((e / 2 + 8 * 0) + 16 * 0)))) := by omega
  have em : 1431655765 = 5 + 16 * (5 + 16 * (5 + 16 * (5 + 16 * (5 + 16 * 1365)))) := by decide
  have fa := nb_f a ha
  have fb := nb_f b hb
  have fc := nb_f c hc
  have fd := nb_f d hd
  have fe := nb_f e he
  have e3 : (a + 16 * (b + 16 * (c + 16 * (d + 16 * e)))) / 2 &&& 1431655765 = (a / 2 &&& 5) + 16 * ((b / 2 &&& 5) + 16 * ((c / 2 &&& 5) + 16 * ((d / 2 &&& 5) + 16 * (e / 2 &&& 5)))) := by
    rw [e2, em, and_lane (by omega) (by omega), and_lane (by omega) (by omega), and_lane (by omega) (by omega), and_lane (by omega) (by omega), and_lane (by omega) (by omega), fa.2.2.2.2 (b % 2) (by omega), fb.2.2.2.2 (c % 2) (by omega), fc.2.2.2.2 (d % 2) (by omega), fd.2.2.2.2 (e % 2) (by omega), fe.2.2.2.2 0 (by omega), Nat.zero_and]
    omega
  unfold bc1
  rw [e3]
  unfold nb1
  omega
theorem bc_lanes2 {a b c d e : Nat} (ha : a < 16) (hb : b < 16) (hc : c < 16) (hd : d < 16) (he : e < 16) : bc2 (nb1 a + 16 * (nb1 b + 16 * (nb1 c + 16 * (nb1 d + 16 * nb1 e)))) = nb2 a + 16 * (nb2 b + 16 * (nb2 c + 16 * (nb2 d + 16 * nb2 e))) := by
  have fa := (nb_f a ha).1
  have fb := (nb_f b hb).1
  have fc := (nb_f c hc).1
  have fd := (nb_f d hd).1
  have fe := (nb_f e he).1
  have e2 : (nb1 a + 16 * (nb1 b + 16 * (nb1 c + 16 * (nb1 d + 16 * nb1 e)))) / 4 = (nb1 a / 4 + 4 * (nb1 b % 4)) + 16 * ((nb1 b / 4 + 4 * (nb1 c % 4)) + 16 * ((nb1 c / 4 + 4 * (nb1 d % 4)) + 16 * ((nb1 d / 4 + 4 * (nb1 e % 4)) + 16 * ((nb1 e / 4 + 4 * 0) + 16 * 0)))) := by omega
  have e0 : nb1 a + 16 * (nb1 b + 16 * (nb1 c + 16 * (nb1 d + 16 * nb1 e))) = nb1 a + 16 * (nb1 b + 16 * (nb1 c + 16 * (nb1 d + 16 * (nb1 e + 16 * 0)))) := by omega
  have em : 858993459 = 3 + 16 * (3 + 16 * (3 + 16 * (3 + 16 * (3 + 16 * 819)))) := by decide
  have e3 : (nb1 a + 16 * (nb1 b + 16 * (nb1 c + 16 * (nb1 d + 16 * nb1 e)))) / 4 &&& 858993459 = (nb1 a / 4 &&& 3) + 16 * ((nb1 b / 4 &&& 3) + 16 * ((nb1 c / 4 &&& 3) + 16 * ((nb1 d / 4 &&& 3) + 16 * (nb1 e / 4 &&& 3)))) := by
    rw [e2, em, and_lane (by omega) (by omega), and_lane (by omega) (by omega), and_lane (by omega) (by omega), and_lane (by omega) (by omega), and_lane (by omega) (by omega), nb_g a ha (nb1 b % 4) (by omega), nb_g b hb (nb1 c % 4) (by omega), nb_g c hc (nb1 d % 4) (by omega), nb_g d hd (nb1 e % 4) (by omega), nb_g e he 0 (by omega), Nat.zero_and]
    omega
  have e4 : nb1 a + 16 * (nb1 b + 16 * (nb1 c + 16 * (nb1 d + 16 * nb1 e))) &&& 858993459 = (nb1 a &&& 3) + 16 * ((nb1 b &&& 3) + 16 * ((nb1 c &&& 3) + 16 * ((nb1 d &&& 3) + 16 * (nb1 e &&& 3)))) := by
    rw [e0, em, and_lane (by omega) (by omega), and_lane (by omega) (by omega), and_lane (by omega) (by omega), and_lane (by omega) (by omega), and_lane (by omega) (by omega), Nat.zero_and]
    omega
  unfold bc2
  rw [e3, e4]
  unfold nb2
  omega
theorem bc_all {x : Nat} (h : x < 1048576) : ((bcT (bc2 (bc1 x)) : Nat) : Int) = pc x 20 ∧ (x / 2 &&& 1431655765) ≤ x ∧ bc1 x ≤ x ∧ bc2 (bc1 x) < 1048576 := by
  have ex : x = x % 16 + 16 * (x / 16 % 16 + 16 * (x / 256 % 16 + 16 * (x / 4096 % 16 + 16 * (x / 65536)))) := by omega
  have h0 : x % 16 < 16 := by omega
  have h1 : x / 16 % 16 < 16 := by omega
  have h2 : x / 256 % 16 < 16 := by omega
  have h3 : x / 4096 % 16 < 16 := by omega
  have h4 : x / 65536 < 16 := by omega
  generalize x % 16 = a at *
  generalize x / 16 % 16 = b at *
  generalize x / 256 % 16 = c at *
  generalize x / 4096 % 16 = d at *
  generalize x / 65536 = e at *
  subst ex
  obtain ⟨l1, l2⟩ := bc_lanes h0 h1 h2 h3 h4
  obtain ⟨a1, -, a3, a4, -⟩ := nb_f a h0
  obtain ⟨b1, -, b3, b4, -⟩ := nb_f b h1
  obtain ⟨c1, -, c3, c4, -⟩ := nb_f c h2
  obtain ⟨d1, -, d3, d4, -⟩ := nb_f d h3
  obtain ⟨e1, -, e3, e4, -⟩ := nb_f e h4
  refine ⟨?_, l2, ?_, ?_⟩
  · rw [l1, bc_lanes2 h0 h1 h2 h3 h4, bcT_f _ (by omega) _ (by omega) _ (by omega) _ (by omega) _ (by omega)]
    rw [show (20 : Nat) = 4 + (4 + (4 + (4 + 4))) from rfl, pc_lane h0, pc_lane h1, pc_lane h2, pc_lane h3]
    omega
  · unfold bc1
    omega
  · rw [l1, bc_lanes2 h0 h1 h2 h3 h4]
    omega
theorem ush_n {a : Nat} (h : a < 2147483648) (k : Nat) (z : Int) (ez : z = (k : Int)) (hk : k < 32) (d : Nat) (ed : 2 ^ k = d) : oh_ushr (a : Int) z = ((a / d : Nat) : Int) := by
  rw [ez, oh_ushr_N hk h, ed]
theorem and_n {a : Nat} (h : a < 2147483648) (m : Nat) (z : Int) (ez : z = (m : Int)) (hm : m < 2147483648) : oh_and (a : Int) z = ((a &&& m : Nat) : Int) := by
  rw [ez, oh_and_N h hm]
def T_J6_bitCount_0f7a4 : Tr := tS1 fun x μ Post => ∃ a : Nat, x = a ∧ a < 1048576 ∧ Post (some (oI (pc a 20))) μ
theorem ok_J6_bitCount_0f7a4 : oh_Ok pg_J6_bitCount_0f7a4 1 T_J6_bitCount_0f7a4 := by
  refine tS1_ok fun x μ Post G hG hx hM h => ?_
  obtain ⟨a, rfl, ha, h⟩ := h
  obtain ⟨b1, b2, b3, b4⟩ := bc_all ha
  have f1 := ush_n (a := a) (by omega) 1 1 rfl (by omega) 2 rfl
  have f2 := and_n (a := a / 2) (by omega) 1431655765 1431655765 rfl (by omega)
  have e1 : (a : Int) - ((a / 2 &&& 1431655765 : Nat) : Int) = ((bc1 a : Nat) : Int) := by
    unfold bc1
    omega
  have f3 := and_n (a := bc1 a) (by omega) 858993459 858993459 rfl (by omega)
  have f4 := ush_n (a := bc1 a) (by omega) 2 2 rfl (by omega) 4 rfl
  have f5 := and_n (a := bc1 a / 4) (by omega) 858993459 858993459 rfl (by omega)
  have e2 : ((bc1 a &&& 858993459 : Nat) : Int) + ((bc1 a / 4 &&& 858993459 : Nat) : Int) = ((bc2 (bc1 a) : Nat) : Int) := by
    unfold bc2
    omega
  rw [← b1] at h
  unfold bcT at h
  generalize bc2 (bc1 a) = v at *
  have f6 := ush_n (a := v) (by omega) 4 4 rfl (by omega) 16 rfl
  have e3 : (v : Int) + ((v / 16 : Nat) : Int) = ((v + v / 16 : Nat) : Int) := by omega
  have f7 := and_n (a := v + v / 16) (by omega) 252645135 252645135 rfl (by omega)
  have b5 : (v + v / 16 &&& 252645135) ≤ v + v / 16 := Nat.and_le_left
  generalize (v + v / 16 &&& 252645135) = w at *
  have f8 := ush_n (a := w) (by omega) 8 8 rfl (by omega) 256 rfl
  have e4 : (w : Int) + ((w / 256 : Nat) : Int) = ((w + w / 256 : Nat) : Int) := by omega
  have f9 := ush_n (a := w + w / 256) (by omega) 16 16 rfl (by omega) 65536 rfl
  have e5 : ((w + w / 256 : Nat) : Int) + (((w + w / 256) / 65536 : Nat) : Int) = ((w + w / 256 + (w + w / 256) / 65536 : Nat) : Int) := by omega
  have f10 := and_n (a := w + w / 256 + (w + w / 256) / 65536) (by omega) 63 63 rfl (by omega)
  refine oh_go hG [] 60 ?_
  refine And.intro (by rw [f1, f2]; omega) ?_
  rw [f1, f2, e1]
  refine And.intro (by rw [f3, f4, f5]; omega) ?_
  rw [f3, f4, f5, e2]
  refine And.intro (by rw [f6]; omega) ?_
  rw [f6, e3]
  refine And.intro (by rw [f7, f8]; omega) ?_
  rw [f7, f8, e4]
  refine And.intro (by rw [f9]; omega) ?_
  rw [f9, e5]
  show Post (some (oI (oh_and ((w + w / 256 + (w + w / 256) / 65536 : Nat) : Int) 63))) μ
  rw [f10]
  exact h
/-- hours that a set of bodies gives a person -/
def spn (f : Int → Int) (a : Nat) : Nat → Int
  | 0 => 0
  | n + 1 => spn f a n + if a.testBit n then f n else 0
theorem spn_rg {f : Int → Int} {a : Nat} (hf : ∀ j : Int, 0 ≤ j → j < 6 → 0 ≤ f j ∧ f j ≤ 24) : ∀ n : Nat, n ≤ 6 → 0 ≤ spn f a n ∧ spn f a n ≤ 24 * n
  | 0, _ => by simp [spn]
  | n + 1, h => by
    have := spn_rg (a := a) hf n (by omega)
    have := hf n (by omega) (by omega)
    show 0 ≤ spn f a n + (if a.testBit n then f n else 0) ∧ spn f a n + (if a.testBit n then f n else 0) ≤ 24 * ((n + 1 : Nat) : Int)
    split <;> omega
theorem spn_s {f : Int → Int} {a : Nat} {c : Int} (h : 0 ≤ c) : spn f a (c + 1).toNat = spn f a c.toNat + if a.testBit c.toNat then f c else 0 := by
  have e : (c + 1).toNat = c.toNat + 1 := by omega
  rw [e]
  show spn f a c.toNat + (if a.testBit c.toNat then f (c.toNat : Int) else 0) = _
  have e2 : ((c.toNat : Nat) : Int) = c := by omega
  rw [e2]
def T_X4_spanOf : Tr := tO1 13 fun n x μ Post => ∃ a : Nat, x = a ∧ a < 64 ∧ (∀ j : Int, 0 ≤ j → j < 6 → 0 ≤ μ 17 0 j ∧ μ 17 0 j ≤ 24) ∧ Post (some (oI (spn (μ 17 0) a 6))) μ
theorem ok_X4_spanOf : oh_Ok pg_X4_spanOf 4 T_X4_spanOf := by
  refine tO1_ok fun n x μ Post G hG hn hx hM h => ?_
  obtain rfl := n13 hn
  obtain ⟨a, rfl, ha, hf, h⟩ := h
  have key : ∀ c, 0 ≤ c → c ≤ 6 → G 4 [some (oR 13 0), some (oI a), some (oI (spn (μ 17 0) a c.toNat)), some (oI c)] [] μ := by
    refine oh_for (F := fun c => 0 ≤ c → c ≤ 6 → G 4 [some (oR 13 0), some (oI a), some (oI (spn (μ 17 0) a c.toNat)), some (oI c)] [] μ) 6 ?_ ?_
    · intro c hc h0 h1
      have e : c = 6 := by omega
      subst e
      refine oh_go hG [(4, 4)] 40 ?_
      exact ⟨fun _ => h, fun q => absurd hc q⟩
    · intro c hc ih h0 h1
      have ih := ih (by omega) (by omega)
      rw [spn_s h0] at ih
      have e2 : ((c.toNat : Nat) : Int) = c := by omega
      have hb := oh_bit_N (a := a) (k := c.toNat) (by omega) (by omega)
      rw [e2] at hb
      have hs := spn_rg (f := μ 17 0) (a := a) hf c.toNat (by omega)
      have hfc := hf c h0 hc
      refine oh_go hG [(4, 4)] 40 ?_
      refine And.intro (fun q => absurd q (by omega)) (fun _ => ?_)
      refine And.intro (fun q => ?_) (fun q => ?_)
      · rw [if_neg (fun z => q (hb.mpr z)), Int.add_zero] at ih
        exact ⟨by omega, ih⟩
      · rw [if_pos (hb.mp (Classical.not_not.mp q))] at ih
        refine And.intro (by omega) ?_
        refine And.intro (by omega) ?_
        exact ⟨by omega, ih⟩
  refine oh_go hG [(4, 4)] 5 ?_
  exact key 0 (by omega) (by omega)
/-- the fewest bodies that give a person n hours of work: from bits c on, k sets to go -/
def fw (f : Int → Int) (n : Int) : Nat → Nat → Int → Int
  | 0, _, b => b
  | k + 1, c, b => fw f n k (c + 1) (if (b = -1 ∨ pc c 20 < pc b.toNat 20) ∧ n ≤ spn f c 6 then (c : Int) else b)
theorem fw_rg (f : Int → Int) (n : Int) : ∀ (k c : Nat) (b : Int), c + k ≤ 64 → (-1 ≤ b ∧ b < 64) → -1 ≤ fw f n k c b ∧ fw f n k c b < 64
  | 0, _, _, _, hb => hb
  | k + 1, c, b, hc, hb => by
    refine fw_rg f n k (c + 1) _ (by omega) ?_
    split <;> omega
/-- hours that a body gives a person, by the LAW as it is -/
noncomputable def hin (A : Ab) (p b : Int) : Int := sm (fun h => if an A b h = p then 1 else 0) 24
theorem hin_rg (A : Ab) (p b : Int) : 0 ≤ hin A p b ∧ hin A p b ≤ 24 := by
  have := sm_rg (f := fun h => if an A b h = p then 1 else 0) (a := 0) (b := 1) (fun j => by split <;> omega) (fun j => by split <;> omega) 24
  unfold hin
  omega
theorem spn_congr {f g : Int → Int} {a : Nat} : ∀ n : Nat, (∀ j : Int, 0 ≤ j → j < n → f j = g j) → spn f a n = spn g a n
  | 0, _ => rfl
  | n + 1, h => by
    show spn f a n + (if a.testBit n then f n else 0) = spn g a n + (if a.testBit n then g n else 0)
    rw [spn_congr n (fun j a b => h j a (by omega)), h n (by omega) (by omega)]
noncomputable def fwA (A : Ab) (p n : Int) : Int := fw (hin A p) n 63 1 (-1)
theorem fwA_rg (A : Ab) (p n : Int) : -1 ≤ fwA A p n ∧ fwA A p n < 64 := fw_rg _ _ 63 1 (-1) (by omega) (by omega)
def T_X4_fewestBodies : Tr := tP2 13 0 fun n m p w μ Post => ∃ A, RepC A μ ∧ m = (A 2 2).toNat ∧ Fresh A (A 2 2).toNat μ ∧ (0 ≤ p ∧ p < 6) ∧ ∀ μ', RepC A μ' → FrC μ μ' → Post (some (oI (fwA A p w))) μ'
theorem ok_X4_fewestBodies : oh_Ok (pg_X4_fewestBodies T_X0_hoursIn T_J6_bitCount_0f7a4 T_X4_spanOf) 7 T_X4_fewestBodies := by
  refine tP2_ok fun n m p w μ Post G hG hn hm hp hw hM h => ?_
  obtain rfl := n13 hn
  obtain ⟨A, hR, rfl, hF, hp6, h⟩ := h
  have key2 : ∀ μ1, RepC A μ1 → FrC μ μ1 → (∀ j, 0 ≤ j → j < 6 → μ1 17 0 j = hin A p j) → ∀ (k c : Nat) (b : Int) (r : Option AV), 1 ≤ c → c + k = 64 → (-1 ≤ b ∧ b < 64) → fw (hin A p) w k c b = fwA A p w → G 36 [some (oR 13 0), some (oR 0 (A 2 2).toNat), some (oI p), some (oI w), some (oI b), some (oI (c : Int)), r] [] μ1 := by
    intro μ1 g1 g2 g3 k
    induction k with
    | zero =>
      intro c b r h0 h1 hb he
      refine oh_go hG [(36, 7)] 60 ?_
      refine And.intro (fun _ => ?_) (fun q => absurd q (by omega))
      rw [← he] at h
      exact h μ1 g1 g2
    | succ k ih =>
      intro c b r h0 h1 hb he
      have he : fw (hin A p) w k (c + 1) (if (b = -1 ∨ pc c 20 < pc b.toNat 20) ∧ w ≤ spn (hin A p) c 6 then (c : Int) else b) = fwA A p w := he
      have hsp : ∀ j : Int, 0 ≤ j → j < 6 → 0 ≤ μ1 17 0 j ∧ μ1 17 0 j ≤ 24 := fun j a d => by
        rw [g3 j a d]
        exact hin_rg A p j
      have esp : spn (μ1 17 0) c 6 = spn (hin A p) c 6 := spn_congr 6 (fun j a d => g3 j a (by omega))
      have ec : ((c : Nat) : Int) + 1 = ((c + 1 : Nat) : Int) := by omega
      have hyes : (b = -1 ∨ pc c 20 < pc b.toNat 20) → ∀ r, G 36 [some (oR 13 0), some (oR 0 (A 2 2).toNat), some (oI p), some (oI w), some (oI (if w ≤ spn (hin A p) c 6 then (c : Int) else b)), some (oI ((c : Int) + 1)), r] [] μ1 := fun x r => by
        by_cases y : w ≤ spn (hin A p) c 6
        · rw [if_pos ⟨x, y⟩] at he
          rw [if_pos y, ec]
          exact ih (c + 1) _ r (by omega) (by omega) (by omega) he
        · rw [if_neg (fun z => y z.2)] at he
          rw [if_neg y, ec]
          exact ih (c + 1) _ r (by omega) (by omega) hb he
      refine oh_go hG [(36, 7)] 60 ?_
      refine And.intro (fun q => absurd q (by omega)) (fun _ => ?_)
      refine And.intro (fun q => ?_) (fun q => ?_)
      · refine And.intro (fun y => absurd y (by decide)) (fun _ => ?_)
        have hy := hyes (Or.inl q)
        refine And.intro ⟨c, rfl, by omega, hsp, ?_⟩ trivial
        rw [esp]
        refine And.intro (fun z => ?_) (fun z => ?_)
        · rw [if_neg (by omega)] at hy
          exact ⟨by omega, hy _⟩
        · rw [if_pos (by omega)] at hy
          exact ⟨by omega, hy _⟩
      · refine And.intro ⟨c, rfl, by omega, ?_⟩ trivial
        refine And.intro ⟨b.toNat, by omega, by omega, ?_⟩ trivial
        refine And.intro (fun x => ?_) (fun x => ?_)
        · refine And.intro (fun _ => ?_) (fun y => absurd rfl y)
          rw [if_neg (by omega)] at he
          refine And.intro (by omega) ?_
          rw [ec]
          exact ih (c + 1) _ _ (by omega) (by omega) hb he
        · refine And.intro (fun y => absurd y (by decide)) (fun _ => ?_)
          have hy := hyes (Or.inr (by omega))
          refine And.intro ⟨c, rfl, by omega, hsp, ?_⟩ trivial
          rw [esp]
          refine And.intro (fun z => ?_) (fun z => ?_)
          · rw [if_neg (by omega)] at hy
            exact ⟨by omega, hy _⟩
          · rw [if_pos (by omega)] at hy
            exact ⟨by omega, hy _⟩
  have key : ∀ c, 0 ≤ c → c ≤ 6 → ∀ μ1, (∀ s n j, ¬ (s = 17 ∧ n = 0) → μ1 s n j = μ s n j) → (∀ j, 0 ≤ j → j < c → μ1 17 0 j = hin A p j) → G 3 [some (oR 13 0), some (oR 0 (A 2 2).toNat), some (oI p), some (oI w), some (oI c), none, none] [] μ1 := by
    refine oh_for (F := fun c => 0 ≤ c → c ≤ 6 → ∀ μ1, (∀ s n j, ¬ (s = 17 ∧ n = 0) → μ1 s n j = μ s n j) → (∀ j, 0 ≤ j → j < c → μ1 17 0 j = hin A p j) → G 3 [some (oR 13 0), some (oR 0 (A 2 2).toNat), some (oI p), some (oI w), some (oI c), none, none] [] μ1) 6 ?_ ?_
    · intro c hc h0 h1 μ1 g1 g2
      have e : c = 6 := by omega
      subst e
      refine oh_go hG [(3, 7), (36, 7)] 40 ?_
      refine And.intro (fun _ => ?_) (fun q => absurd hc q)
      exact key2 μ1 (RepC_keep hR (fun s n hs hk => funext fun j => g1 s n j (by omega))) (fun s n hs => funext fun j => g1 s n j (by omega)) g2 63 1 (-1) none (by omega) (by omega) (by omega) rfl
    · intro c hc ih h0 h1 μ1 g1 g2
      have ih := ih (by omega) (by omega)
      have e1 : μ1 1 (A 2 2).toNat = μ 1 (A 2 2).toNat := funext fun j => g1 _ _ _ (by omega)
      have e5 : sm (fun h => is1 (μ1 1 (A 2 2).toNat) p (c * 24 + h)) 24 = hin A p c := sm_congr 24 (fun x a d => by
        unfold is1
        rw [e1, fr_act hR hF (by omega) (by omega)])
      refine oh_go hG [(3, 7), (36, 7)] 40 ?_
      refine And.intro (fun q => absurd q (by omega)) (fun _ => ?_)
      refine And.intro ⟨by omega, ?_⟩ trivial
      rw [e5]
      refine And.intro (by omega) ?_
      refine And.intro (by omega) ?_
      refine ih _ (fun s n j hs => ?_) (fun j a d => ?_)
      · rw [oh_up_o (fun q => hs ⟨q.1, q.2.1⟩)]
        exact g1 s n j hs
      · by_cases e : j = c
        · rw [e, oh_up_s]
        · rw [oh_up_o (fun q => e q.2.2)]
          exact g2 j a (by omega)
  refine oh_go hG [(3, 7), (36, 7)] 5 ?_
  exact key 0 (by omega) (by omega) μ (fun _ _ _ _ => rfl) (fun j a d => absurd d (by omega))
noncomputable def s_fewest (A : Ab) (p n w : Int) : Int × Ab := if (0 ≤ p ∧ p < 6) ∧ (1 ≤ n ∧ n ≤ 99) ∧ 0 ≤ w ∧ w < 2 then (if fwA A p n = -1 ∨ w = 1 then fwA A p n else pc (fwA A p n).toNat 20, A) else (-2, A)
def T_X4_fewest : Tr := tC3 s_fewest
theorem ok_X4_fewest : oh_Ok (pg_X4_fewest T_X4_isBelow T_X4_isWork T_X4_dayBy T_X4_fewestBodies T_J6_bitCount_0f7a4) 5 T_X4_fewest := by
  refine tO3_ok fun m p n w μ Post G hG hm hp hn hw hM h => ?_
  obtain rfl := n13 hm
  obtain ⟨A, hR, h⟩ := h
  have hbad : ¬ ((0 ≤ p ∧ p < 6) ∧ (1 ≤ n ∧ n ≤ 99) ∧ 0 ≤ w ∧ w < 2) → Post (some (oI (-2))) μ := fun x => by
    have e : s_fewest A p n w = (-2, A) := if_neg x
    rw [e] at h
    exact h μ hR FrC_rf
  refine oh_go hG [] 40 ?_
  refine And.intro ?_ trivial
  refine And.intro (fun x => ?_) (fun x => ⟨fun _ => hbad (fun q => x q.1), fun y => absurd rfl y⟩)
  refine And.intro (fun y => absurd y (by decide)) (fun _ => ?_)
  refine And.intro ?_ trivial
  refine And.intro (fun z => ?_) (fun z => ⟨fun _ => hbad (fun q => z q.2.1), fun y => absurd rfl y⟩)
  refine And.intro (fun y => absurd y (by decide)) (fun _ => ?_)
  refine And.intro ?_ trivial
  refine And.intro (fun v => ?_) (fun v => ⟨fun y => absurd rfl y, fun _ => hbad (fun q => v q.2.2)⟩)
  refine And.intro (fun _ => ?_) (fun y => absurd (by decide) y)
  have e : s_fewest A p n w = (if fwA A p n = -1 ∨ w = 1 then fwA A p n else pc (fwA A p n).toNat 20, A) := if_pos ⟨x, z, v⟩
  rw [e] at h
  dsimp only at h
  have hr := fwA_rg A p n
  refine And.intro (T_day hR (fun μ1 g1 g2 g3 => ?_)) trivial
  refine And.intro ⟨A, g1, rfl, g3, x, fun μ2 k1 k2 => ?_⟩ trivial
  have h := h μ2 k1 (FrC_tr g2 k2)
  refine And.intro (fun q => ?_) (fun q => ?_)
  · rw [if_pos (Or.inl q)] at h
    exact h
  · refine And.intro (fun y => ?_) (fun y => ?_)
    · rw [if_neg (by omega)] at h
      exact ⟨⟨(fwA A p n).toNat, by omega, by omega, h⟩, trivial⟩
    · rw [if_pos (by omega)] at h
      exact h
theorem rds_congr {w w' : Int → Int} (ht : tok w) (h : ∀ c, 0 ≤ c → c < 144 → w c = w' c) : rds w = rds w' := sm_congr 6 (fun b a c => sm_congr 24 (fun x d e => by
  have : sts w b x = sts w' b x := stq_congr ht h (by omega) 6 0 b (by omega)
  unfold rd1
  rw [this]))
noncomputable def cnt (A : Ab) (w : Int) : Int := if w = 0 then tE 0 A else if w = 1 then tE 1 A else if w = 2 then A 2 0 else if w = 3 then A 2 1 else if w = 4 then pc (mk (dnA A (A 2 2)) (tE 1 A).toNat) 20 else if w = 5 then A 2 3 else if w = 6 then A 2 2 else if w = 7 then rds (aw A) else A 2 4
noncomputable def s_count (A : Ab) (w : Int) : Int × Ab := if 0 ≤ w ∧ w ≤ 8 then (cnt A w, A) else (-2, A)
def T_X4_count : Tr := tC1 s_count
theorem ok_X4_count : oh_Ok (pg_X4_count T_X3_entries T_X4_dayBy T_J6_bitCount_0f7a4 T_X1_rounds) 2 T_X4_count := by
  refine tO1_ok fun n w μ Post G hG hn hw hM h => ?_
  obtain rfl := n13 hn
  obtain ⟨A, hR, h⟩ := h
  have hbad : ¬ (0 ≤ w ∧ w ≤ 8) → Post (some (oI (-2))) μ := fun x => by
    have e : s_count A w = (-2, A) := if_neg x
    rw [e] at h
    exact h μ hR FrC_rf
  have hok : 0 ≤ w ∧ w ≤ 8 → ∀ μ', RepC A μ' → FrC μ μ' → Post (some (oI (cnt A w))) μ' := fun x => by
    have e : s_count A w = (cnt A w, A) := if_pos x
    rw [e] at h
    exact h
  unfold cnt at hok
  have hT0 := hR.1.1
  have hT1 := hR.1.2.1
  refine oh_go hG [] 40 ?_
  refine And.intro (fun y => hbad (by omega)) ?_
  refine And.intro (fun y => ?_) (And.intro (fun y => ?_) (And.intro (fun y => ?_) (And.intro (fun y => ?_) (And.intro (fun y => ?_) (And.intro (fun y => ?_) (And.intro (fun y => ?_) (And.intro (fun y => ?_) (And.intro (fun y => ?_) trivial))))))))
  · have h := hok (by omega) μ hR FrC_rf
    rw [if_pos y] at h
    refine And.intro ⟨RepT_tq hT0, ?_⟩ trivial
    rw [RepT_ents hT0]
    exact h
  · have h := hok (by omega) μ hR FrC_rf
    rw [if_neg (by omega), if_pos y] at h
    refine And.intro ⟨RepT_tq hT1, ?_⟩ trivial
    rw [RepT_ents hT1]
    exact h
  · have h := hok (by omega) μ hR FrC_rf
    rw [if_neg (by omega), if_neg (by omega), if_pos y] at h
    show Post (some (oI (μ 11 0 5))) μ
    rw [hT0.2.1]
    exact h
  · have h := hok (by omega) μ hR FrC_rf
    rw [if_neg (by omega), if_neg (by omega), if_neg (by omega), if_pos y] at h
    show Post (some (oI (μ 11 1 5))) μ
    rw [hT1.2.1]
    exact h
  · refine And.intro (T_day hR (fun μ1 g1 g2 g3 => ?_)) trivial
    have h := hok (by omega) μ1 g1 g2
    rw [if_neg (by omega), if_neg (by omega), if_neg (by omega), if_neg (by omega), if_pos y] at h
    have hE := tE_rg (RepX_len hR (n := 1) (by omega))
    have hl := mk_lt (dnA A (A 2 2)) (tE 1 A).toNat
    have hl2 : 2 ^ (tE 1 A).toNat ≤ 2 ^ 20 := Nat.pow_le_pow_right (by omega) (by omega)
    exact ⟨⟨_, by rw [fr_o g3, lawN hR], by omega, h⟩, trivial⟩
  · have h := hok (by omega) μ hR FrC_rf
    rw [if_neg (by omega), if_neg (by omega), if_neg (by omega), if_neg (by omega), if_neg (by omega), if_pos y] at h
    show Post (some (oI (μ 13 0 12))) μ
    rw [(RepC_V hR).1.1]
    exact h
  · have h := hok (by omega) μ hR FrC_rf
    rw [if_neg (by omega), if_neg (by omega), if_neg (by omega), if_neg (by omega), if_neg (by omega), if_neg (by omega), if_pos y] at h
    show Post (some (oI (μ 13 0 13))) μ
    rw [(law_at hR).1]
    exact h
  · have h := hok (by omega) μ hR FrC_rf
    rw [if_neg (by omega), if_neg (by omega), if_neg (by omega), if_neg (by omega), if_neg (by omega), if_neg (by omega), if_neg (by omega), if_pos y] at h
    refine And.intro ⟨(tokA hR).2, ?_⟩ trivial
    rw [rds_congr (tokA hR).2 hR.2.1]
    exact h
  · have h := hok (by omega) μ hR FrC_rf
    rw [if_neg (by omega), if_neg (by omega), if_neg (by omega), if_neg (by omega), if_neg (by omega), if_neg (by omega), if_neg (by omega), if_neg (by omega)] at h
    show Post (some (oI (μ 13 0 14))) μ
    rw [hR.1.2.2.2.2.2.2.1]
    exact h
