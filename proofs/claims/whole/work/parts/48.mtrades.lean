/-! THE MODEL: trades by a table over sets of grants -/
theorem mm_skip (E : Nat → Nat → Bool) (k : Nat) (S : Nat → Bool) : ∀ (d u : Nat), (∀ x, u ≤ x → x < u + d → S x = false) → mm E (k + d) u S = mm E k (u + d) S
  | 0, u, _ => rfl
  | d + 1, u, h => by
    have e : mm E (k + d + 1) u S = mm E (k + d) (u + 1) S := mm_f (by rw [h u (by omega) (by omega)]; decide)
    show mm E (k + d + 1) u S = _
    rw [e, mm_skip E k S d (u + 1) (fun x a b => h x (by omega) (by omega)), show u + 1 + d = u + (d + 1) by omega]
theorem mm_no (E : Nat → Nat → Bool) (S : Nat → Bool) (h : ∀ x, S x = false) : ∀ k u, mm E k u S = 0
  | 0, _ => rfl
  | k + 1, u => by
    rw [mm_f (by rw [h u]; decide)]
    exact mm_no E S h k (u + 1)
theorem own_at {f : Int → Int} : ∀ (K : Nat), (∀ j : Int, 0 ≤ j → j < K → ¬ told 0 f j) → ∀ k : Int, 0 ≤ k → k < K → own f K (bo 0 f k * 24 + ho 0 f k) = la 0 f k ∨ ¬ ((0 ≤ ho 0 f k ∧ ho 0 f k ≤ 23) ∧ ∀ j : Int, 0 ≤ j → j < K → 0 ≤ ho 0 f j ∧ ho 0 f j ≤ 23)
  | 0, _, k, h0, h1 => absurd h1 (by omega)
  | K + 1, ht, k, h0, h1 => by
    by_cases hr : (0 ≤ ho 0 f k ∧ ho 0 f k ≤ 23) ∧ ∀ j : Int, 0 ≤ j → j < (K + 1 : Nat) → 0 ≤ ho 0 f j ∧ ho 0 f j ≤ 23
    · left
      show (if bo 0 f k * 24 + ho 0 f k = bo 0 f K * 24 + ho 0 f K then la 0 f K else own f K (bo 0 f k * 24 + ho 0 f k)) = la 0 f k
      by_cases e : bo 0 f k * 24 + ho 0 f k = bo 0 f K * 24 + ho 0 f K
      · rw [if_pos e]
        by_cases ek : k = K
        · rw [ek]
        · have r1 := hr.1
          have r2 := hr.2 K (by omega) (by omega)
          exact absurd ⟨k, h0, by omega, by omega, by omega⟩ (ht K (by omega) (by omega))
      · rw [if_neg e]
        have ek : ¬ k = K := fun z => e (by rw [z])
        rcases own_at K (fun j a b => ht j a (by omega)) k h0 (by omega) with w | w
        · exact w
        · exact absurd ⟨hr.1, fun j a b => hr.2 j a (by omega)⟩ w
    · right
      exact hr
theorem aw_gr {A : Ab} (hV : ValA A) {k : Int} (h0 : 0 ≤ k) (h1 : k < tE 0 A) : aw A (bo 0 (A 0) k * 24 + ho 0 (A 0) k) = la 0 (A 0) k := by
  have hl := (hV.1 0 (by omega)).1
  have hE := tE_rg hl
  have honc : onc 0 = 1 := rfl
  have hr : ∀ j : Int, 0 ≤ j → j < (tE 0 A).toNat → ¬ told 0 (A 0) j ∧ 0 ≤ ho 0 (A 0) j ∧ ho 0 (A 0) j ≤ 23 := fun j a b => by
    obtain ⟨-, -, e3, -, -, e6⟩ := ent_ok hl a (by omega)
    refine ⟨?_, e3⟩
    rcases e6 with e6 | e6
    · rw [honc] at e6
      exact absurd e6 (by decide)
    · exact e6
  rcases own_at (f := A 0) (tE 0 A).toNat (fun j a b => (hr j a b).1) k h0 (by omega) with w | w
  · exact w
  · exact absurd ⟨(hr k h0 (by omega)).2, fun j a b => (hr j a b).2⟩ w
theorem gP_aw {A : Ab} (hV : ValA A) {i j : Int} (hi : 0 ≤ i ∧ i < tE 0 A) (hj : 0 ≤ j ∧ j < tE 0 A) : bg (A 4) (aw A (bo 0 (A 0) i * 24 + ho 0 (A 0) i)) (ho 0 (A 0) i) (aw A (bo 0 (A 0) j * 24 + ho 0 (A 0) j)) (ho 0 (A 0) j) = gP A i j := by
  rw [aw_gr hV hi.1 hi.2, aw_gr hV hj.1 hj.2]
  rfl
def kT (μ μ' : Mem) : Prop := ∀ s n j, ¬ (s = 40 ∧ ¬ j = 0) → μ' s n j = μ s n j
theorem kT_k {μ μ1 : Mem} (h : kT μ μ1) : kM μ μ1 := fun s n j hs => h s n j (fun z => hs (by unfold scr; omega))
theorem kT_row {μ μ1 : Mem} (h : kT μ μ1) {s : Nat} (hs : ¬ s = 40) (n : Nat) : μ1 s n = μ s n := funext fun j => h s n j (fun z => hs z.1)
theorem Ki_T {A : Ab} {μ μ1 : Mem} (h : Ki A μ) (k : kT μ μ1) : Ki A μ1 := ⟨h.1, RepM_k h.2.1 (kT_k k), RdG_keep h.2.2.1 (by rw [kT_row k (by omega)]) (kT_row k (by omega) 0) (kT_row k (by omega) 0), RdO_keep h.2.2.2 (by rw [kT_row k (by omega)]) (kT_row k (by omega) 0)⟩
noncomputable def eP (A : Ab) : Nat → Nat → Bool := fun i j => gP A i j
/-- the table holds the most pairs of each set below T -/
def Tb (A : Ab) (T : Nat) (μ : Mem) : Prop := ∀ a : Nat, a < T → μ 40 0 a = mm (eP A) 12 0 (fun x => a.testBit x)
theorem low_at {a : Nat} (ha : a < 4096) (h0 : ¬ a = 0) : ∃ low, low < 12 ∧ a.testBit low = true ∧ ∀ x, x < low → a.testBit x = false := by
  have hex : ∃ v, a.testBit v = true := Classical.byContradiction fun hno => h0 (Nat.eq_of_testBit_eq fun v => by
    rw [Nat.zero_testBit]
    by_cases e : a.testBit v = true
    · exact absurd ⟨v, e⟩ hno
    · rw [Bool.not_eq_true] at e
      exact e)
  obtain ⟨v, hv⟩ := hex
  have key : ∀ n v, v ≤ n → a.testBit v = true → ∃ low, low < 12 ∧ a.testBit low = true ∧ ∀ x, x < low → a.testBit x = false := by
    intro n
    induction n with
    | zero =>
      intro v hv1 hv2
      exact ⟨v, bit_12 ha hv2, hv2, fun x hx => absurd hx (by omega)⟩
    | succ n ih =>
      intro v hv1 hv2
      by_cases e : ∃ w, w < v ∧ a.testBit w = true
      · obtain ⟨w, w1, w2⟩ := e
        exact ih w (by omega) w2
      · refine ⟨v, bit_12 ha hv2, hv2, fun x hx => ?_⟩
        by_cases e2 : a.testBit x = true
        · exact absurd ⟨x, hx, e2⟩ e
        · rw [Bool.not_eq_true] at e2
          exact e2
  exact key v v (Nat.le_refl _) hv
/-- the table's step -/
theorem mm_low {E : Nat → Nat → Bool} {S : Nat → Bool} {low : Nat} (hl : low < 12) (hs : S low = true) (hlo : ∀ x, x < low → S x = false) : mm E 12 0 S = mxv (fun v => S v && E low v) (fun v => 1 + mm E 12 0 (del (del S low) v)) (11 - low) (low + 1) (mm E 12 0 (del S low)) := by
  have hd : ∀ R : Nat → Bool, (∀ x, x < low + 1 → R x = false) → mm E 12 0 R = mm E (11 - low) (low + 1) R := fun R hR => by
    have := mm_skip E (11 - low) R (low + 1) 0 (fun x a b => hR x (by omega))
    rw [show 11 - low + (low + 1) = 12 by omega, Nat.zero_add] at this
    exact this
  have hdel : ∀ x, x < low + 1 → del S low x = false := fun x hx => by
    unfold del
    split
    · rfl
    · exact hlo x (by omega)
  have e1 := mm_skip E (12 - low) S low 0 (fun x a b => hlo x (by omega))
  rw [show 12 - low + low = 12 by omega, Nat.zero_add, show 12 - low = 11 - low + 1 by omega, mm_t hs] at e1
  rw [e1, hd _ hdel]
  congr 1
  funext v
  rw [hd _ (fun x hx => by
    unfold del
    split
    · rfl
    · exact hdel x hx)]
def T_X5_tradesNow : Tr := tO0 22 fun n μ Post => ∃ A, Ki A μ ∧ ∀ μ', kT μ μ' → Post (some (oI (tds A))) μ'
theorem ok_X5_tradesNow : oh_Ok (pg_X5_tradesNow T_X5_lesser T_X5_isIn T_X5_wouldTrade T_X5_greater) 8 T_X5_tradesNow := by
  refine tO0_ok fun nn μ Post G hG hn hM h => ?_
  obtain rfl := n22 hn
  obtain ⟨A, hK, h⟩ := h
  have hE := tE_rg (hK.1.1 0 (by omega)).1
  have c8 := (Rd_n hK.2.2).1
  have eN : ((trN A : Nat) : Int) = min (tE 0 A) 12 := by
    unfold trN
    omega
  have hN : trN A ≤ 12 := by omega
  have htd : tds A = mm (eP A) 12 0 (fun x => decide (x < trN A)) := rfl
  rw [htd] at h
  generalize hn2 : trN A = n at *
  have hsh := shl1 (c := (n : Int)) (by omega) (by omega)
  have ent : ((n : Nat) : Int).toNat = n := by omega
  rw [ent] at hsh
  have hpw : 2 ^ n ≤ 2 ^ 12 := Nat.pow_le_pow_right (by omega) hN
  have hpw0 : 1 ≤ 2 ^ n := Nat.one_le_two_pow
  have mmr : ∀ a : Nat, a < 4096 → 0 ≤ mm (eP A) 12 0 (fun x => a.testBit x) ∧ mm (eP A) 12 0 (fun x => a.testBit x) ≤ 10 := fun a ha => by
    have h1 := mm_nn (eP A) 12 0 (fun x => a.testBit x)
    have h2 := mm_bound (E := eP A) (d := 12) (u := 0) ha (by omega)
    have h3 := (pc_rg a 20).2
    omega
  have k12 : ∀ (m T : Nat) (μ1 : Mem), 1 ≤ T → T + m = 2 ^ n → kT μ μ1 → Tb A T μ1 → G 12 [some (oR 22 0), some (oI (n : Int)), some (oI (T : Int)), none, none, none, none, none] [] μ1 := by
    intro m
    induction m with
    | zero =>
      intro T μ1 t0 t1 g1 g2
      have eT : T = 2 ^ n := by omega
      refine oh_go hG [(21, 4)] 40 ?_
      refine And.intro (fun _ => ?_) (fun q => absurd (by rw [hsh]; omega) q)
      refine And.intro (by rw [hsh]; omega) ?_
      refine And.intro (by rw [hsh]; omega) ?_
      rw [hsh]
      have e1 : ((2 ^ n : Nat) : Int) - 1 = ((2 ^ n - 1 : Nat) : Int) := by omega
      rw [e1, g2 (2 ^ n - 1) (by omega)]
      have e5 : (fun x => (2 ^ n - 1).testBit x) = fun x => decide (x < n) := funext fun x => by rw [Nat.testBit_two_pow_sub_one]
      rw [e5]
      exact h μ1 g1
    | succ m ih =>
      intro T μ1 t0 t1 g1 g2
      have hT : T < 4096 := by omega
      have hK1 := Ki_T hK g1
      obtain ⟨low, l1, l2, l3⟩ := low_at hT (by omega)
      have hTn : ∀ x, T.testBit x = true → x < n := fun x hx => Classical.byContradiction fun z => by
        rw [Nat.testBit_lt_two_pow (Nat.lt_of_lt_of_le (by omega : T < 2 ^ n) (Nat.pow_le_pow_right (by omega) (by omega)))] at hx
        exact absurd hx (by decide)
      have hln := hTn low l2
      obtain ⟨b, eb, hba, hb⟩ := clr_N (a := T) (c := (low : Int)) (by omega) (by omega) (by omega)
      have el : ((low : Nat) : Int).toNat = low := by omega
      rw [el] at hb
      have hbx : ∀ x, b.testBit x = del (fun x => T.testBit x) low x := fun x => congrFun hb x
      have hbT : b < T := by
        rcases Nat.lt_or_ge b T with z | z
        · exact z
        · have : b = T := by omega
          have h9 := hbx low
          rw [this, del_s, l2] at h9
          exact absurd h9 (by decide)
      have hlow := mm_low (E := eP A) (S := fun x => T.testBit x) l1 l2 l3
      have hV := mmr T hT
      have k58 : ∀ (k g : Nat) (acc : Int), low + 1 ≤ g → g + k = n → (0 ≤ acc ∧ acc ≤ 10) → mxv (fun v => T.testBit v && eP A low v) (fun v => 1 + mm (eP A) 12 0 (del (del (fun x => T.testBit x) low) v)) (12 - g) g acc = mm (eP A) 12 0 (fun x => T.testBit x) → G 58 [some (oR 22 0), some (oI (n : Int)), some (oI (T : Int)), some (oI (low : Int)), some (oI (b : Int)), some (oI acc), some (oI (g : Int)), none] [] μ1 := by
        intro k
        induction k with
        | zero =>
          intro g acc q0 q1 q2 q3
          rw [mxv_stop (fun w a c d => by
            rw [Bool.and_eq_true] at d
            have := hTn w d.1
            omega)] at q3
          refine oh_go hG [(58, 7), (12, 3)] 40 ?_
          refine And.intro (fun _ => ?_) (fun q => absurd q (by omega))
          refine And.intro (by omega) ?_
          refine And.intro (by omega) ?_
          have eT : ((T : Nat) : Int) + 1 = ((T + 1 : Nat) : Int) := by omega
          rw [eT]
          refine ih (T + 1) _ (by omega) (by omega) (fun s n' j hs => ?_) (fun a ha => ?_)
          · rw [oh_up_o (fun z => hs ⟨z.1, by omega⟩)]
            exact g1 s n' j hs
          · by_cases e : a = T
            · rw [e, oh_up_s, q3]
            · rw [oh_up_o (fun z => e (by omega))]
              exact g2 a (by omega)
        | succ k ih2 =>
          intro g acc q0 q1 q2 q3
          have e12 : 12 - g = (12 - (g + 1)) + 1 := by omega
          rw [e12] at q3
          have q3 : mxv (fun v => T.testBit v && eP A low v) (fun v => 1 + mm (eP A) 12 0 (del (del (fun x => T.testBit x) low) v)) (12 - (g + 1)) (g + 1) (if (T.testBit g && eP A low g) = true then max acc (1 + mm (eP A) 12 0 (del (del (fun x => T.testBit x) low) g)) else acc) = mm (eP A) 12 0 (fun x => T.testBit x) := q3
          have egg : ((g : Nat) : Int) + 1 = ((g + 1 : Nat) : Int) := by omega
          have hbg : b.testBit g = T.testBit g := by rw [hbx, del_o (by omega)]
          have egt : ((g : Nat) : Int).toNat = g := by omega
          have hno : ¬ (T.testBit g && eP A low g) = true → G 124 [some (oR 22 0), some (oI (n : Int)), some (oI (T : Int)), some (oI (low : Int)), some (oI (b : Int)), some (oI acc), some (oI (g : Int)), none] [oI 0] μ1 := fun z => by
            rw [if_neg z] at q3
            refine oh_go hG [(58, 7)] 40 ?_
            refine And.intro (fun _ => ?_) (fun y => absurd rfl y)
            refine And.intro (by omega) ?_
            rw [egg]
            exact ih2 (g + 1) acc (by omega) (by omega) q2 q3
          have hyes : (T.testBit g && eP A low g) = true → G 124 [some (oR 22 0), some (oI (n : Int)), some (oI (T : Int)), some (oI (low : Int)), some (oI (b : Int)), some (oI acc), some (oI (g : Int)), none] [oI 1] μ1 := fun z => by
            rw [if_pos z] at q3
            have hq := mxv_acc (p := fun v => T.testBit v && eP A low v) (g := fun v => 1 + mm (eP A) 12 0 (del (del (fun x => T.testBit x) low) v)) (12 - (g + 1)) (g + 1) (max acc (1 + mm (eP A) 12 0 (del (del (fun x => T.testBit x) low) g)))
            rw [q3] at hq
            obtain ⟨b2, eb2, hb2a, hb2x⟩ := clr_N (a := b) (c := (g : Int)) (by omega) (by omega) (by omega)
            rw [egt, hb] at hb2x
            have hm2 := mmr b2 (by omega)
            have ep := g2 b2 (by omega)
            rw [hb2x] at ep hm2
            refine oh_go hG [(58, 7)] 60 ?_
            refine And.intro (fun y => absurd y (by decide)) (fun _ => ?_)
            refine And.intro (by rw [eb2]; omega) ?_
            rw [eb2, ep]
            refine And.intro (by omega) ?_
            refine And.intro ?_ trivial
            refine And.intro (by omega) ?_
            rw [egg]
            exact ih2 (g + 1) _ (by omega) (by omega) (by omega) q3
          refine oh_go hG [(58, 7), (124, 7)] 60 ?_
          refine And.intro (fun q => absurd q (by omega)) (fun _ => ?_)
          refine And.intro ⟨b, rfl, by omega, by omega, fun w => ?_, fun w => ?_⟩ trivial
          · rw [egt, hbg] at w
            refine And.intro (fun y => absurd y (by decide)) (fun _ => ?_)
            obtain ⟨⟨a1, a2, a3⟩, a4, a5⟩ := gr_k hK1 (g := (low : Int)) (by omega) (by omega)
            obtain ⟨⟨d1, d2, d3⟩, d4, d5⟩ := gr_k hK1 (g := (g : Int)) (by omega) (by omega)
            refine And.intro (by omega) ?_
            refine And.intro (by omega) ?_
            refine And.intro (by omega) ?_
            refine And.intro (by omega) ?_
            refine And.intro (by omega) ?_
            refine And.intro (by omega) ?_
            refine And.intro (by omega) ?_
            refine And.intro (by omega) ?_
            refine And.intro (by omega) ?_
            refine And.intro (by omega) ?_
            rw [a1, a2, d1, d2]
            have hgp := gP_aw hK.1 (i := (low : Int)) (j := (g : Int)) (by omega) (by omega)
            refine And.intro ⟨A, hK1, ⟨a4, a5, d4, d5⟩, fun v => ?_, fun v => ?_⟩ trivial
            · rw [hgp] at v
              refine And.intro (fun y => absurd y (by decide)) (fun _ => ?_)
              exact hyes (by rw [Bool.and_eq_true]; exact ⟨w, v⟩)
            · rw [hgp] at v
              refine And.intro (fun _ => ?_) (fun y => absurd rfl y)
              exact hno (by rw [Bool.and_eq_true]; exact fun z => v z.2)
          · rw [egt, hbg] at w
            refine And.intro (fun _ => ?_) (fun y => absurd rfl y)
            exact hno (by rw [Bool.and_eq_true]; exact fun z => w z.1)
      have k21 : ∀ (k c : Nat), c + k = low → G 21 [some (oR 22 0), some (oI (n : Int)), some (oI (T : Int)), some (oI (c : Int)), none, none, none, none] [] μ1 := by
        intro k
        induction k with
        | zero =>
          intro c hc
          have e : c = low := by omega
          subst e
          refine oh_go hG [(21, 4), (58, 7)] 60 ?_
          refine And.intro ⟨T, rfl, by omega, by omega, fun w => ?_, fun w => ?_⟩ trivial
          · refine And.intro (fun _ => ?_) (fun y => absurd (by decide) y)
            refine And.intro (by rw [eb]; omega) ?_
            rw [eb, g2 b hbT]
            refine And.intro (by omega) ?_
            have ecc : ((c : Nat) : Int) + 1 = ((c + 1 : Nat) : Int) := by omega
            rw [ecc]
            refine k58 (n - (c + 1)) (c + 1) _ (by omega) (by omega) (mmr b (by omega)) ?_
            rw [hlow, hb, show 12 - (c + 1) = 11 - c by omega]
          · rw [show ((c : Nat) : Int).toNat = c by omega] at w
            exact absurd l2 w
        | succ k ih3 =>
          intro c hc
          refine oh_go hG [(21, 4), (58, 7)] 60 ?_
          refine And.intro ⟨T, rfl, by omega, by omega, fun w => ?_, fun w => ?_⟩ trivial
          · rw [show ((c : Nat) : Int).toNat = c by omega, l3 c (by omega)] at w
            exact absurd w (by decide)
          · refine And.intro (fun y => absurd rfl y) (fun _ => ?_)
            refine And.intro (by omega) ?_
            rw [show ((c : Nat) : Int) + 1 = ((c + 1 : Nat) : Int) by omega]
            exact ih3 (c + 1) (by omega)
      refine oh_go hG [(21, 4)] 40 ?_
      refine And.intro (fun q => absurd q (by rw [hsh]; omega)) (fun _ => ?_)
      exact k21 low 0 (by omega)
  refine oh_go hG [(12, 3)] 40 ?_
  refine And.intro ?_ trivial
  show G 12 [some (oR 22 0), some (oI (min (μ 22 0 8) 12)), some (oI 1), none, none, none, none, none] [] μ
  rw [c8, ← eN]
  refine k12 (2 ^ n - 1) 1 μ (by omega) (by omega) (fun _ _ _ _ => rfl) (fun a ha => ?_)
  have e : a = 0 := by omega
  subst e
  rw [mm_no _ _ (fun x => Nat.zero_testBit x)]
  exact hK.2.1.2.2.2.2.2.2
def T_X5_trades : Tr := tM0 s_trades
theorem ok_X5_trades : oh_Ok (pg_X5_trades T_X5_reads T_X5_tradesNow) 1 T_X5_trades := by
  refine tO0_ok fun n μ Post G hG hn hM h => ?_
  obtain rfl := n22 hn
  obtain ⟨A, hV, hR, h⟩ := h
  unfold s_trades at h
  dsimp only at h
  refine oh_go hG [] 40 ?_
  refine And.intro ⟨A, hV, hR, fun μ1 k1 k2 => ?_⟩ trivial
  obtain ⟨hK, hF⟩ := ki_rd hV hR k1 k2
  refine And.intro ⟨A, hK, fun μ2 j1 => ?_⟩ trivial
  exact h μ2 (Ki_T hK j1).2.1 (FrM_tr hF (kM_Fr (kT_k j1)))
