/-! THE MODEL: plans -/
noncomputable def bdB (A : Ab) (p h b : Int) : Bool := decide (an A b h = p)
theorem on6_N (a : Nat) : on6 (a : Int) = pc a 6 := rfl
theorem mk6_lt (p : Int → Bool) : mk p 6 < 64 := mk_lt p 6
theorem on6_bd (A : Ab) (p h : Int) : on6 ((mk (bdB A p h) 6 : Nat) : Int) = cnb A p h := by
  rw [on6_N, pc_mk _ 6 6 (by omega)]
  exact sm_congr 6 (fun b _ _ => by
    unfold bdB
    by_cases e : an A b h = p
    · rw [if_pos e, decide_eq_true e]
      rfl
    · rw [if_neg e, decide_eq_false e]
      rfl)
def T_X5_bodies : Tr := tO2 22 fun n p h μ Post => ∃ A, Ki A μ ∧ (0 ≤ h ∧ h ≤ 23) ∧ Post (some (oI ((mk (bdB A p h) 6 : Nat) : Int))) μ
theorem ok_X5_bodies : oh_Ok (pg_X5_bodies T_X5_actsNow) 5 T_X5_bodies := by
  refine tO2_ok fun n p x μ Post G hG hn hp hx hM h => ?_
  obtain rfl := n22 hn
  obtain ⟨A, hK, hx2, h⟩ := h
  have key : ∀ c, 0 ≤ c → c ≤ 6 → G 5 [some (oR 22 0), some (oI p), some (oI x), some (oI ((mk (bdB A p x) c.toNat : Nat) : Int)), some (oI c)] [] μ := by
    refine oh_for (F := fun c => 0 ≤ c → c ≤ 6 → G 5 [some (oR 22 0), some (oI p), some (oI x), some (oI ((mk (bdB A p x) c.toNat : Nat) : Int)), some (oI c)] [] μ) 6 ?_ ?_
    · intro c hc h0 h1
      have e : c = 6 := by omega
      subst e
      refine oh_go hG [(5, 5)] 40 ?_
      exact ⟨fun _ => h, fun q => absurd hc q⟩
    · intro c hc ih h0 h1
      have ih := ih (by omega) (by omega)
      refine oh_go hG [(5, 5)] 40 ?_
      refine And.intro (fun q => absurd q (by omega)) (fun _ => ?_)
      refine And.intro (T_now hK (by omega) hx2 ?_) trivial
      refine And.intro (fun q => ?_) (fun q => ?_)
      · rw [mk_skip h0 (by unfold bdB; rw [decide_eq_true_eq]; exact q)] at ih
        refine And.intro (by omega) ?_
        rw [oh_or_0 (mk_lt31 _ (by omega))]
        exact ih
      · refine And.intro (by omega) ?_
        rw [mk_put h0 (by omega) (by unfold bdB; rw [decide_eq_true_eq]; exact Classical.not_not.mp q)]
        exact ih
  refine oh_go hG [(5, 5)] 10 ?_
  exact key 0 (by omega) (by omega)
def T_X5_soonestOf : Tr := tO2 22 fun n p w μ Post => ∃ A, Ki A μ ∧ (1 ≤ w ∧ w ≤ 99) ∧ Post (some (oI (sn (cnb A p) w 24 0 0))) μ
theorem ok_X5_soonestOf : oh_Ok (pg_X5_soonestOf T_X5_bodies T_X5_ones) 5 T_X5_soonestOf := by
  refine tO2_ok fun n p w μ Post G hG hn hp hw hM h => ?_
  obtain rfl := n22 hn
  obtain ⟨A, hK, hw2, h⟩ := h
  have key : ∀ (k : Nat) (c d : Int), 0 ≤ c → c + k = 24 → (0 ≤ d ∧ d ≤ 6 * c) → Post (some (oI (sn (cnb A p) w k c d))) μ → G 5 [some (oR 22 0), some (oI p), some (oI w), some (oI (w - d)), some (oI c)] [] μ := by
    intro k
    induction k with
    | zero =>
      intro c d h0 h1 hd hp
      refine oh_go hG [(5, 5)] 40 ?_
      exact ⟨fun _ => hp, fun q => absurd q (by omega)⟩
    | succ k ih =>
      intro c d h0 h1 hd hp
      have hc := cnb_rg A p c
      have hm := mk6_lt (bdB A p c)
      unfold sn at hp
      refine oh_go hG [(5, 5)] 40 ?_
      refine And.intro (fun q => absurd q (by omega)) (fun _ => ?_)
      refine And.intro ⟨A, hK, by omega, ?_⟩ trivial
      refine And.intro ⟨by omega, ?_⟩ trivial
      rw [on6_bd]
      refine And.intro (by omega) ?_
      refine And.intro (fun q => ?_) (fun q => ?_)
      · rw [if_pos (by omega)] at hp
        refine And.intro (by omega) ?_
        rw [show w - d - cnb A p c = w - (d + cnb A p c) by omega]
        exact ih _ _ (by omega) (by omega) (by omega) hp
      · rw [if_neg (by omega)] at hp
        exact hp
  refine oh_go hG [(5, 5)] 10 ?_
  have w0 := key 24 0 0 (by omega) (by omega) (by omega) h
  rw [Int.sub_zero] at w0
  exact w0
def T_X5_soonest : Tr := tM2 s_soonest
theorem ok_X5_soonest : oh_Ok (pg_X5_soonest T_X5_reads T_X5_isBody T_X5_in T_X5_soonestOf) 3 T_X5_soonest := by
  refine tO2_ok fun n p w μ Post G hG hn hp hw hM h => ?_
  obtain rfl := n22 hn
  obtain ⟨A, hV, hR, h⟩ := h
  unfold s_soonest at h
  refine oh_go hG [] 40 ?_
  refine And.intro ⟨A, hV, hR, fun μ1 k1 k2 => ?_⟩ trivial
  obtain ⟨hK, hF⟩ := ki_rd hV hR k1 k2
  have hbad : ¬ ((0 ≤ p ∧ p < 6) ∧ 1 ≤ w ∧ w ≤ 99) → Post (some (oI (-2))) μ1 := fun z => by
    rw [if_neg z] at h
    exact h μ1 hK.2.1 hF
  refine And.intro ?_ trivial
  refine And.intro (fun q1 => ?_) (fun q1 => ⟨fun _ => hbad (by omega), fun y => absurd rfl y⟩)
  refine And.intro (fun y => absurd y (by decide)) (fun _ => ?_)
  refine And.intro ?_ trivial
  refine And.intro (fun q2 => ?_) (fun q2 => ⟨fun _ => hbad (fun z => q2 z.2), fun y => absurd rfl y⟩)
  have q2 : 1 ≤ w ∧ w ≤ 99 := q2
  refine And.intro (fun y => absurd y (by decide)) (fun _ => ?_)
  rw [if_pos ⟨by omega, q2⟩] at h
  exact ⟨⟨A, hK, q2, h μ1 hK.2.1 hF⟩, trivial⟩
/-- hours that a set of bodies gives, counted hour by hour -/
theorem pc_sm (a : Nat) : ∀ n : Nat, pc a n = sm (fun b => if a.testBit b.toNat = true then 1 else 0) n
  | 0 => rfl
  | n + 1 => by
    show pc a n + (if a.testBit n = true then 1 else 0) = sm (fun b => if a.testBit b.toNat = true then 1 else 0) n + (if a.testBit ((n : Int)).toNat = true then 1 else 0)
    rw [pc_sm a n]
    rfl
theorem spn_sm (f : Int → Int) (a : Nat) : ∀ n : Nat, spn f a n = sm (fun b => if a.testBit b.toNat = true then f b else 0) n
  | 0 => rfl
  | n + 1 => by
    show spn f a n + (if a.testBit n = true then f n else 0) = sm (fun b => if a.testBit b.toNat = true then f b else 0) n + (if a.testBit ((n : Int)).toNat = true then f n else 0)
    rw [spn_sm f a n]
    rfl
noncomputable def hrs (A : Ab) (p : Int) (a : Nat) (h : Int) : Int := on6 ((mk (bdB A p h) 6 &&& a : Nat) : Int)
theorem hrs_rg (A : Ab) (p : Int) (a : Nat) (h : Int) : 0 ≤ hrs A p a h ∧ hrs A p a h ≤ 6 := pc_rg _ 6
theorem hrs_sm (A : Ab) (p : Int) (a : Nat) (h : Int) : hrs A p a h = sm (fun b => if a.testBit b.toNat = true then (if an A b h = p then 1 else 0) else 0) 6 := by
  unfold hrs
  rw [on6_N, pc_sm]
  refine sm_congr 6 (fun b h0 h1 => ?_)
  have eb : ((b.toNat : Nat) : Int) = b := by omega
  rw [Nat.testBit_and, mk_bit, decide_eq_true (by omega : b.toNat < 6), Bool.true_and, eb]
  unfold bdB
  by_cases e1 : an A b h = p <;> by_cases e2 : a.testBit b.toNat = true <;> simp [e1, e2]
theorem hrs_all (A : Ab) (p : Int) (a : Nat) : sm (hrs A p a) 24 = spn (hin A p) a 6 := by
  rw [spn_sm]
  have e1 : sm (hrs A p a) 24 = sm (fun h => sm (fun b => if a.testBit b.toNat = true then (if an A b h = p then 1 else 0) else 0) 6) 24 := sm_congr 24 (fun h _ _ => hrs_sm A p a h)
  rw [e1, sm_swap (fun h b => if a.testBit b.toNat = true then (if an A b h = p then 1 else 0) else 0) 6 24]
  refine sm_congr 6 (fun b _ _ => ?_)
  by_cases e : a.testBit b.toNat = true
  · rw [if_pos e]
    exact sm_congr 24 (fun h _ _ => by rw [if_pos e])
  · rw [if_neg e]
    exact Eq.trans (sm_congr 24 (fun h _ _ => if_neg e)) (sm_zero 24)
theorem pc_20 {a : Nat} (h : a < 64) : pc a 20 = pc a 6 := pc_more (a := a) (n := 6) h 14
theorem fw_s (f : Int → Int) (n : Int) (k c : Nat) (b : Int) : fw f n (k + 1) c b = fw f n k (c + 1) (if (b = -1 ∨ pc c 20 < pc b.toNat 20) ∧ n ≤ spn f c 6 then (c : Int) else b) := rfl
theorem fwA_0 {A : Ab} {p n : Int} (h : 1 ≤ n) : fw (hin A p) n (63 + 1) 0 (-1) = fwA A p n := by
  have e0 : spn (hin A p) 0 6 = 0 := by
    rw [spn_sm]
    exact Eq.trans (sm_congr 6 (fun b _ _ => by simp)) (sm_zero 6)
  rw [fw_s, e0, if_neg (by omega), Nat.zero_add]
  unfold fwA
  rfl
def T_X5_fewestOf : Tr := tO3 22 fun n p w t μ Post => ∃ A, Ki A μ ∧ (1 ≤ w ∧ w ≤ 99) ∧ Post (some (oI (if fwA A p w = -1 ∨ t = 1 then fwA A p w else pc (fwA A p w).toNat 20))) μ
theorem ok_X5_fewestOf : oh_Ok (pg_X5_fewestOf T_X5_bodies T_X5_ones) 8 T_X5_fewestOf := by
  refine tO3_ok fun n p w t μ Post G hG hn hp hw ht hM h => ?_
  obtain rfl := n22 hn
  obtain ⟨A, hK, hw2, h⟩ := h
  have hr := fwA_rg A p w
  have key : ∀ (k c : Nat) (b : Int), c + k = 64 → (-1 ≤ b ∧ b < 64) → fw (hin A p) w k c b = fwA A p w → G 6 [some (oR 22 0), some (oI p), some (oI w), some (oI t), some (oI b), some (oI (c : Int)), none, none] [] μ := by
    intro k
    induction k with
    | zero =>
      intro c b h1 hb he
      have he : b = fwA A p w := he
      rw [← he] at h
      refine oh_go hG [(6, 6), (19, 8)] 40 ?_
      refine And.intro (fun _ => ?_) (fun q => absurd q (by omega))
      refine And.intro (fun q => ?_) (fun q => ?_)
      · rw [if_pos (Or.inl q)] at h
        exact h
      · refine And.intro (fun r => ?_) (fun r => ?_)
        · rw [if_neg (by omega), pc_20 (by omega)] at h
          exact ⟨⟨by omega, h⟩, trivial⟩
        · rw [if_pos (by omega)] at h
          exact h
    | succ k ih =>
      intro c b h1 hb he
      have he : fw (hin A p) w k (c + 1) (if (b = -1 ∨ pc c 20 < pc b.toNat 20) ∧ w ≤ spn (hin A p) c 6 then (c : Int) else b) = fwA A p w := he
      have ec : ((c : Nat) : Int) + 1 = ((c + 1 : Nat) : Int) := by omega
      have k19 : ∀ x, 0 ≤ x → x ≤ 24 → G 19 [some (oR 22 0), some (oI p), some (oI w), some (oI t), some (oI b), some (oI (c : Int)), some (oI (sm (hrs A p c) x.toNat)), some (oI x)] [] μ := by
        refine oh_for (F := fun x => 0 ≤ x → x ≤ 24 → G 19 [some (oR 22 0), some (oI p), some (oI w), some (oI t), some (oI b), some (oI (c : Int)), some (oI (sm (hrs A p c) x.toNat)), some (oI x)] [] μ) 24 ?_ ?_
        · intro x hx x0 x1
          have e : x = 24 := by omega
          subst e
          have e24 : (24 : Int).toNat = 24 := rfl
          rw [e24, hrs_all]
          have yes : (b = -1 ∨ pc c 20 < pc b.toNat 20) ∧ w ≤ spn (hin A p) c 6 → G 6 [some (oR 22 0), some (oI p), some (oI w), some (oI t), some (oI (c : Int)), some (oI ((c : Int) + 1)), none, none] [] μ := fun z => by
            rw [if_pos z] at he
            rw [ec]
            exact ih (c + 1) _ (by omega) (by omega) he
          have no : ¬ ((b = -1 ∨ pc c 20 < pc b.toNat 20) ∧ w ≤ spn (hin A p) c 6) → G 6 [some (oR 22 0), some (oI p), some (oI w), some (oI t), some (oI b), some (oI ((c : Int) + 1)), none, none] [] μ := fun z => by
            rw [if_neg z] at he
            rw [ec]
            exact ih (c + 1) _ (by omega) hb he
          refine oh_go hG [(6, 6), (19, 8)] 40 ?_
          refine And.intro (fun _ => ?_) (fun q => absurd hx q)
          refine And.intro (fun q => ⟨by omega, no (by omega)⟩) (fun q => ?_)
          refine And.intro (fun r => ⟨by omega, yes ⟨Or.inl r, by omega⟩⟩) (fun r => ?_)
          refine And.intro ⟨by omega, ?_⟩ trivial
          refine And.intro ⟨by omega, ?_⟩ trivial
          have p1 := pc_20 (a := c) (by omega)
          have p2 := pc_20 (a := b.toNat) (by omega)
          have o1 : on6 (c : Int) = pc c 6 := rfl
          have o2 : on6 b = pc b.toNat 6 := rfl
          rw [o1, o2]
          refine And.intro (fun v => ⟨by omega, no (by omega)⟩) (fun v => ⟨by omega, yes ⟨Or.inr (by omega), by omega⟩⟩)
        · intro x hx ih2 x0 x1
          have ih2 := ih2 (by omega) (by omega)
          rw [sm_s _ x0] at ih2
          have hm := mk6_lt (bdB A p x)
          have hrr := sm_rg (f := hrs A p c) (a := 0) (b := 6) (fun j => (hrs_rg A p c j).1) (fun j => (hrs_rg A p c j).2) x.toNat
          have hr1 := hrs_rg A p c x
          have hand := oh_and_N (a := mk (bdB A p x) 6) (b := c) (by omega) (by omega)
          have hle : (mk (bdB A p x) 6 &&& c) ≤ mk (bdB A p x) 6 := Nat.and_le_left
          refine oh_go hG [(6, 6), (19, 8)] 40 ?_
          refine And.intro (fun q => absurd q (by omega)) (fun _ => ?_)
          refine And.intro ⟨A, hK, by omega, ?_⟩ trivial
          refine And.intro ?_ trivial
          rw [hand]
          refine And.intro (by omega) ?_
          refine And.intro (show oh_rgI (sm (hrs A p c) x.toNat + hrs A p c x) by unfold oh_rgI; omega) ?_
          exact ⟨by omega, ih2⟩
      refine oh_go hG [(6, 6), (19, 8)] 40 ?_
      refine And.intro (fun q => absurd q (by omega)) (fun _ => ?_)
      exact k19 0 (by omega) (by omega)
  refine oh_go hG [(6, 6)] 10 ?_
  exact key 64 0 (-1) (by omega) (by omega) (fwA_0 hw2.1)
def T_X5_fewest : Tr := tM3 s_fewest
theorem ok_X5_fewest : oh_Ok (pg_X5_fewest T_X5_reads T_X5_isBody T_X5_in T_X5_isTwo T_X5_fewestOf) 4 T_X5_fewest := by
  refine tO3_ok fun n p w t μ Post G hG hn hp hw ht hM h => ?_
  obtain rfl := n22 hn
  obtain ⟨A, hV, hR, h⟩ := h
  unfold s_fewest at h
  refine oh_go hG [] 40 ?_
  refine And.intro ⟨A, hV, hR, fun μ1 k1 k2 => ?_⟩ trivial
  obtain ⟨hK, hF⟩ := ki_rd hV hR k1 k2
  have hbad : ¬ ((0 ≤ p ∧ p < 6) ∧ (1 ≤ w ∧ w ≤ 99) ∧ 0 ≤ t ∧ t < 2) → Post (some (oI (-2))) μ1 := fun z => by
    rw [if_neg z] at h
    exact h μ1 hK.2.1 hF
  refine And.intro ?_ trivial
  refine And.intro (fun q1 => ?_) (fun q1 => ⟨fun _ => hbad (by omega), fun y => absurd rfl y⟩)
  refine And.intro (fun y => absurd y (by decide)) (fun _ => ?_)
  refine And.intro ?_ trivial
  refine And.intro (fun q2 => ?_) (fun q2 => ⟨fun _ => hbad (fun z => q2 z.2.1), fun y => absurd rfl y⟩)
  have q2 : 1 ≤ w ∧ w ≤ 99 := q2
  refine And.intro (fun y => absurd y (by decide)) (fun _ => ?_)
  refine And.intro ?_ trivial
  refine And.intro (fun q3 => ?_) (fun q3 => ⟨fun _ => hbad (by omega), fun y => absurd rfl y⟩)
  refine And.intro (fun y => absurd y (by decide)) (fun _ => ?_)
  rw [if_pos ⟨by omega, q2, by omega⟩] at h
  dsimp only at h
  refine And.intro ⟨A, hK, q2, ?_⟩ trivial
  exact h μ1 hK.2.1 hF
