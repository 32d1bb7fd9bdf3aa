/-! A DAY by one law: who acts, what is done, where and how tired -/
def T_X0_isObeyed : Tr := tO1 0 fun n o μ Post => ∃ a : Nat, μ 0 n 7 = a ∧ a < 2147483648 ∧ (0 ≤ o ∧ o < 31) ∧ (a.testBit o.toNat = true → Post (some (oI 1)) μ) ∧ (¬ a.testBit o.toNat = true → Post (some (oI 0)) μ)
theorem ok_X0_isObeyed : oh_Ok pg_X0_isObeyed 2 T_X0_isObeyed := by
  refine tO1_ok fun n o μ Post G hG hn ho hM h => ?_
  obtain ⟨a, ea, ha, hk2, h1, h2⟩ := h
  have e2 : ((o.toNat : Nat) : Int) = o := by omega
  have hb := oh_bit_N (a := a) (k := o.toNat) (by omega) ha
  rw [e2, ← ea] at hb
  refine oh_go hG [] 40 ?_
  exact ⟨fun q => ⟨by omega, h2 (fun z => q (hb.mpr z))⟩, fun q => ⟨by omega, h1 (hb.mp (Classical.not_not.mp q))⟩⟩
def is1 (w : Int → Int) (p : Int) (c : Int) : Int := if w c = p then 1 else 0
theorem is1_rg (w : Int → Int) (p c : Int) : 0 ≤ is1 w p c ∧ is1 w p c ≤ 1 := by unfold is1; split <;> omega
def T_X0_bodiesOf : Tr := tO2 0 fun n p h μ Post => (0 ≤ h ∧ h ≤ 23) ∧ Post (some (oI (sm (fun b => is1 (μ 1 n) p (b * 24 + h)) 6))) μ
theorem ok_X0_bodiesOf : oh_Ok (pg_X0_bodiesOf T_X4_cell) 5 T_X0_bodiesOf := by
  refine tO2_ok fun n p h μ Post G hG hn hp hh hM q => ?_
  obtain ⟨hh0, q⟩ := q
  have key : ∀ c, 0 ≤ c → c ≤ 6 → G 5 [some (oR 0 n), some (oI p), some (oI h), some (oI (sm (fun b => is1 (μ 1 n) p (b * 24 + h)) c.toNat)), some (oI c)] [] μ := by
    refine oh_for (F := fun c => 0 ≤ c → c ≤ 6 → G 5 [some (oR 0 n), some (oI p), some (oI h), some (oI (sm (fun b => is1 (μ 1 n) p (b * 24 + h)) c.toNat)), some (oI c)] [] μ) 6 ?_ ?_
    · intro c hc h0 h1
      have e : c = 6 := by omega
      subst e
      refine oh_go hG [(5, 5)] 40 ?_
      exact ⟨fun _ => q, fun x => absurd hc x⟩
    · intro c hc ih h0 h1
      have ih := ih (by omega) (by omega)
      rw [sm_s _ h0] at ih
      have hr := sm_rg (f := fun b => is1 (μ 1 n) p (b * 24 + h)) (a := 0) (b := 1) (fun j => (is1_rg _ _ _).1) (fun j => (is1_rg _ _ _).2) c.toNat
      generalize sm (fun b => is1 (μ 1 n) p (b * 24 + h)) c.toNat = S at ih hr
      unfold is1 at ih
      refine oh_go hG [(5, 5)] 40 ?_
      refine ⟨fun x => absurd x (by omega), fun _ => ?_⟩
      refine ⟨⟨by omega, ?_⟩, trivial⟩
      refine ⟨⟨by omega, by omega⟩, ?_⟩
      refine ⟨fun x => ?_, fun x => ?_⟩
      · rw [if_neg x, Int.add_zero] at ih
        exact ⟨by omega, ih⟩
      · rw [if_pos (Classical.not_not.mp x)] at ih
        exact ⟨by omega, by omega, ih⟩
  refine oh_go hG [(5, 5)] 5 ?_
  exact key 0 (by omega) (by omega)
def T_X0_hoursIn : Tr := tO2 0 fun n b p μ Post => (0 ≤ b ∧ b ≤ 5) ∧ Post (some (oI (sm (fun h => is1 (μ 1 n) p (b * 24 + h)) 24))) μ
theorem ok_X0_hoursIn : oh_Ok (pg_X0_hoursIn T_X4_cell) 5 T_X0_hoursIn := by
  refine tO2_ok fun n b p μ Post G hG hn hb hp hM q => ?_
  obtain ⟨hh0, q⟩ := q
  have key : ∀ c, 0 ≤ c → c ≤ 24 → G 5 [some (oR 0 n), some (oI b), some (oI p), some (oI (sm (fun h => is1 (μ 1 n) p (b * 24 + h)) c.toNat)), some (oI c)] [] μ := by
    refine oh_for (F := fun c => 0 ≤ c → c ≤ 24 → G 5 [some (oR 0 n), some (oI b), some (oI p), some (oI (sm (fun h => is1 (μ 1 n) p (b * 24 + h)) c.toNat)), some (oI c)] [] μ) 24 ?_ ?_
    · intro c hc h0 h1
      have e : c = 24 := by omega
      subst e
      refine oh_go hG [(5, 5)] 40 ?_
      exact ⟨fun _ => q, fun x => absurd hc x⟩
    · intro c hc ih h0 h1
      have ih := ih (by omega) (by omega)
      rw [sm_s _ h0] at ih
      have hr := sm_rg (f := fun h => is1 (μ 1 n) p (b * 24 + h)) (a := 0) (b := 1) (fun j => (is1_rg _ _ _).1) (fun j => (is1_rg _ _ _).2) c.toNat
      generalize sm (fun h => is1 (μ 1 n) p (b * 24 + h)) c.toNat = S at ih hr
      unfold is1 at ih
      refine oh_go hG [(5, 5)] 40 ?_
      refine ⟨fun x => absurd x (by omega), fun _ => ?_⟩
      refine ⟨⟨by omega, ?_⟩, trivial⟩
      refine ⟨⟨by omega, by omega⟩, ?_⟩
      refine ⟨fun x => ?_, fun x => ?_⟩
      · rw [if_neg x, Int.add_zero] at ih
        exact ⟨by omega, ih⟩
      · rw [if_pos (Classical.not_not.mp x)] at ih
        exact ⟨by omega, by omega, ih⟩
  refine oh_go hG [(5, 5)] 5 ?_
  exact key 0 (by omega) (by omega)
/-- orders, one after the other: the deed told for a cell (-1: none), by who acts (a) and the orders' bytes (f) -/
def oc (f : Int → Int) (k : Int) : Int := bo 1 f k * 24 + ho 1 f k
def dd (a f : Int → Int) : Nat → Int → Int
  | 0, _ => -1
  | k + 1, c => if c = oc f k ∧ a c = fi 1 f k ∧ dd a f k c = -1 then la 1 f k else dd a f k c
/-- whether order k is done -/
def dn (a f : Int → Int) (k : Int) : Bool := decide (a (oc f k) = fi 1 f k ∧ dd a f k.toNat (oc f k) = -1)
def ov (μ : Mem) (e : Int) : Prop := ∀ k, 0 ≤ k → k < e → k * 6 + 4 < μ 11 1 5 ∧ (0 ≤ bo 1 (μ 12 1) k ∧ bo 1 (μ 12 1) k ≤ 5) ∧ 0 ≤ ho 1 (μ 12 1) k ∧ ho 1 (μ 12 1) k ≤ 23
/-- a memory that differs at most at one row, or at one place of another -/
def of2 (s n : Nat) (s2 n2 : Nat) (j2 : Int) (μ μ' : Mem) : Prop := ∀ s' n' j', ¬ (s' = s ∧ n' = n) → ¬ (s' = s2 ∧ n' = n2 ∧ j' = j2) → μ' s' n' j' = μ s' n' j'
theorem of2_row {s n s2 n2 s' n' : Nat} {j2 : Int} {μ μ' : Mem} (h : of2 s n s2 n2 j2 μ μ') (h1 : ¬ (s' = s ∧ n' = n)) (h2 : ¬ (s' = s2 ∧ n' = n2)) : μ' s' n' = μ s' n' := funext fun j => h _ _ _ h1 (fun q => h2 ⟨q.1, q.2.1⟩)
def T_X0_obey : Tr := tP0 0 11 fun n m μ Post => (m = 1 ∧ tq 1 μ ∧ ov μ (ents 1 (μ 11 1 5) (μ 11 1 6))) ∧ ∀ μ', of2 2 n 0 n 7 μ μ' → (∀ c, 0 ≤ c → c < 144 → μ' 2 n c = dd (μ 1 n) (μ 12 1) (ents 1 (μ 11 1 5) (μ 11 1 6)).toNat c) →
  μ' 0 n 7 = ((mk (dn (μ 1 n) (μ 12 1)) (ents 1 (μ 11 1 5) (μ 11 1 6)).toNat : Nat) : Int) → Post none μ'
theorem ok_X0_obey : oh_Ok (pg_X0_obey T_J7_fill_53178 T_X3_entries T_X3_bodyOf T_X3_hourOf T_X4_cell T_X3_firstOf T_X3_lastOf) 5 T_X0_obey := by
  refine tP0_ok fun n m μ Post G hG hn hm hM h => ?_
  obtain ⟨⟨rfl, hq, hv⟩, h⟩ := h
  have hE := ents_rg (n := 1) (br := μ 11 1 6) hq.2.2.2.2.1
  generalize hEe : ents 1 (μ 11 1 5) (μ 11 1 6) = E at hv h hE
  have loop : ∀ c, 0 ≤ c → c ≤ E → ∀ μ', of2 2 n 0 n 7 μ μ' → (∀ j, 0 ≤ j → j < 144 → μ' 2 n j = dd (μ 1 n) (μ 12 1) c.toNat j) → μ' 0 n 7 = ((mk (dn (μ 1 n) (μ 12 1)) c.toNat : Nat) : Int) → G 20 [some (oR 0 n), some (oR 11 1), some (oI E), some (oI c), none] [] μ' := by
    refine oh_for (F := fun c => 0 ≤ c → c ≤ E → ∀ μ', of2 2 n 0 n 7 μ μ' → (∀ j, 0 ≤ j → j < 144 → μ' 2 n j = dd (μ 1 n) (μ 12 1) c.toNat j) → μ' 0 n 7 = ((mk (dn (μ 1 n) (μ 12 1)) c.toNat : Nat) : Int) → G 20 [some (oR 0 n), some (oR 11 1), some (oI E), some (oI c), none] [] μ') E ?_ ?_
    · intro c hc h0 h1 μ' hof hw hm7
      have e : c = E := by omega
      subst e
      refine oh_go hG [(20, 4)] 40 ?_
      exact ⟨fun _ => h μ' hof hw hm7, fun x => absurd hc x⟩
    · intro c hc ih h0 h1 μ' hof hw hm7
      have e11 : μ' 11 1 = μ 11 1 := of2_row hof (fun q => absurd q.1 (by decide)) (fun q => absurd q.1 (by decide))
      have e12 : μ' 12 1 = μ 12 1 := of2_row hof (fun q => absurd q.1 (by decide)) (fun q => absurd q.1 (by decide))
      have e1 : μ' 1 n = μ 1 n := of2_row hof (fun q => absurd q.1 (by decide)) (fun q => absurd q.1 (by decide))
      have hq' := tq_row hq e11 e12
      obtain ⟨p1, p2, p3⟩ := hv c h0 hc
      have et : (c + 1).toNat = c.toNat + 1 := by omega
      have et2 : ((c.toNat : Nat) : Int) = c := by omega
      have hin : 0 ≤ oc (μ 12 1) c ∧ oc (μ 12 1) c < 144 := by unfold oc; omega
      have hdd : ∀ j, dd (μ 1 n) (μ 12 1) (c + 1).toNat j = if j = oc (μ 12 1) c ∧ μ 1 n j = fi 1 (μ 12 1) c ∧ dd (μ 1 n) (μ 12 1) c.toNat j = -1 then la 1 (μ 12 1) c else dd (μ 1 n) (μ 12 1) c.toNat j := fun j => by
        rw [et]
        show (if j = oc (μ 12 1) (c.toNat : Int) ∧ μ 1 n j = fi 1 (μ 12 1) (c.toNat : Int) ∧ dd (μ 1 n) (μ 12 1) c.toNat j = -1 then la 1 (μ 12 1) (c.toNat : Int) else dd (μ 1 n) (μ 12 1) c.toNat j) = _
        rw [et2]
      have skip : ¬ dn (μ 1 n) (μ 12 1) c = true → G 20 [some (oR 0 n), some (oR 11 1), some (oI E), some (oI (c + 1)), none] [] μ' := fun hd => by
        unfold dn at hd
        rw [decide_eq_true_eq] at hd
        refine ih (by omega) (by omega) μ' hof (fun j a b => ?_) ?_
        · rw [hdd, if_neg (fun q => hd (by rw [← q.1]; exact q.2)), hw j a b]
        · rw [mk_skip h0 (by unfold dn; rw [decide_eq_true_eq]; exact hd), hm7]
      refine oh_go hG [(20, 4)] 80 ?_
      refine And.intro (fun x => absurd x (by omega)) (fun _ => ?_)
      refine And.intro ?_ trivial
      refine And.intro ⟨hq', h0, by rw [e11]; show c * 6 + 1 < _; omega⟩ ?_
      refine And.intro ?_ trivial
      refine And.intro ⟨hq', h0, by rw [e11]; show c * 6 + 3 < _; omega⟩ ?_
      refine And.intro ?_ trivial
      rw [e12]
      refine And.intro (by omega) ?_
      refine And.intro hin ?_
      refine And.intro ?_ trivial
      refine And.intro ⟨hq', h0, by rw [e11]; show c * 6 + 0 < _; omega⟩ ?_
      rw [e12, e1]
      refine And.intro (fun x => ?_) (fun x => ?_)
      · exact ⟨by omega, skip (by unfold dn; rw [decide_eq_true_eq]; exact fun q => x q.1)⟩
      refine And.intro hin ?_
      have hwc : μ' 2 n (bo 1 (μ 12 1) c * 24 + ho 1 (μ 12 1) c) = dd (μ 1 n) (μ 12 1) c.toNat (oc (μ 12 1) c) := hw _ hin.1 hin.2
      rw [hwc]
      refine And.intro (fun y => ?_) (fun y => ?_)
      · exact ⟨by omega, skip (by unfold dn; rw [decide_eq_true_eq]; exact fun q => y q.2)⟩
      have hdn : dn (μ 1 n) (μ 12 1) c = true := by
        unfold dn
        rw [decide_eq_true_eq]
        exact ⟨Classical.not_not.mp x, Classical.not_not.mp y⟩
      refine And.intro ?_ trivial
      refine And.intro ⟨hq', h0, by rw [e11]; exact p1⟩ ?_
      rw [e12]
      refine And.intro hin ?_
      refine And.intro (by omega) ?_
      rw [oh_up_o (fun q => absurd q.1 (by decide)), hm7, mk_put h0 (by omega) hdn]
      refine ih (by omega) (by omega) _ (fun s' n' j' g1 g2 => ?_) (fun j a b => ?_) ?_
      · rw [oh_up_o (fun q => g2 q), oh_up_o (fun q => g1 ⟨q.1, q.2.1⟩)]
        exact hof s' n' j' g1 g2
      · rw [oh_up_o (fun q => absurd q.1 (by decide)), hdd]
        by_cases ej : j = oc (μ 12 1) c
        · rw [if_pos ⟨ej, by rw [ej]; exact Classical.not_not.mp x, by rw [ej]; exact Classical.not_not.mp y⟩, ej]
          exact oh_up_s
        · rw [if_neg (fun q => ej q.1)]
          show oh_up μ' 2 n (oc (μ 12 1) c) _ 2 n j = _
          rw [oh_up_o (fun q => ej q.2.2)]
          exact hw j a b
      · exact oh_up_s
  refine oh_go hG [(20, 4)] 40 ?_
  refine And.intro ?_ trivial
  refine And.intro (Or.inl rfl) (fun μ1 h1 h2 => ?_)
  have e11 : μ1 11 1 = μ 11 1 := off_row h1 (fun q => absurd q.1 (by decide))
  have e12 : μ1 12 1 = μ 12 1 := off_row h1 (fun q => absurd q.1 (by decide))
  refine And.intro ?_ trivial
  have f11 : oh_up μ1 0 n 7 0 11 1 = μ 11 1 := by
    rw [← e11]
    exact funext fun j => oh_up_o (fun q => absurd q.1 (by decide))
  have f12 : oh_up μ1 0 n 7 0 12 1 = μ 12 1 := by
    rw [← e12]
    exact funext fun j => oh_up_o (fun q => absurd q.1 (by decide))
  refine And.intro (tq_row hq f11 f12) ?_
  rw [f11, hEe]
  refine loop 0 (by omega) (by omega) _ (fun s' n' j' g1 g2 => ?_) (fun j a b => ?_) ?_
  · rw [oh_up_o (fun q => g2 q)]
    exact h1 s' n' j' (fun q => g1 ⟨q.1, q.2.1⟩)
  · rw [oh_up_o (fun q => absurd q.1 (by decide))]
    exact h2 j a b
  · exact oh_up_s
/-- the deed that is done in a cell, by what was told (d) and how tired the body is -/
def de (d : Int → Int) (c wr : Int) : Int := if 9 < wr + oh_toil (if d c = -1 then 0 else d c) then 0 else if d c = -1 then 0 else d c
def nxp (e pl : Int) : Int := if e = 2 then min 9 (pl + 1) else if e = 3 then max 0 (pl - 1) else pl
/-- place and tiredness behind the first k hours -/
def dy (d : Int → Int) (b home : Int) : Nat → Int × Int
  | 0 => (home, 0)
  | k + 1 => (nxp (de d (b * 24 + k) (dy d b home k).2) (dy d b home k).1, max 0 ((dy d b home k).2 + oh_toil (de d (b * 24 + k) (dy d b home k).2)))
theorem toil_at {e : Int} (h : 0 ≤ e ∧ e ≤ 4) : oh_nthI [-3, 2, 1, 1, 0] e = oh_toil e := by
  have : e = 0 ∨ e = 1 ∨ e = 2 ∨ e = 3 ∨ e = 4 := by omega
  rcases this with rfl | rfl | rfl | rfl | rfl <;> decide
theorem toil_rg (e : Int) : -3 ≤ oh_toil e ∧ oh_toil e ≤ 2 := by
  unfold oh_toil
  split
  · omega
  · split
    · omega
    · split <;> omega
theorem de_rg {d : Int → Int} {c wr : Int} (h : -1 ≤ d c ∧ d c ≤ 4) : 0 ≤ de d c wr ∧ de d c wr ≤ 4 := by
  unfold de
  split
  · omega
  · split <;> omega
theorem de_wr {d : Int → Int} {c wr : Int} (h : wr ≤ 9) : wr + oh_toil (de d c wr) ≤ 9 := by
  unfold de
  by_cases h1 : 9 < wr + oh_toil (if d c = -1 then 0 else d c)
  · rw [if_pos h1]
    have : oh_toil 0 = -3 := rfl
    omega
  · rw [if_neg h1]
    omega
theorem dy_rg {d : Int → Int} {b home : Int} (hh : 0 ≤ home ∧ home ≤ 9) : ∀ k : Nat, (0 ≤ (dy d b home k).1 ∧ (dy d b home k).1 ≤ 9) ∧ 0 ≤ (dy d b home k).2 ∧ (dy d b home k).2 ≤ 9
  | 0 => ⟨hh, by show (0 : Int) ≤ 0 ∧ (0 : Int) ≤ 9; omega⟩
  | k + 1 => by
    obtain ⟨h1, h2⟩ := dy_rg (d := d) (b := b) hh k
    have h3 := de_wr (d := d) (c := b * 24 + k) h2.2
    refine ⟨?_, ?_⟩
    · show 0 ≤ nxp _ _ ∧ nxp _ _ ≤ 9
      unfold nxp
      split
      · omega
      · split <;> omega
    · show 0 ≤ max 0 _ ∧ max 0 _ ≤ 9
      omega
/-- hour k of a body: its deed, and behind it its place and how tired it is -/
def dee (d : Int → Int) (b home k : Int) : Int := de d (b * 24 + k) (dy d b home k.toNat).2
def pla (d : Int → Int) (b home k : Int) : Int := (dy d b home (k.toNat + 1)).1
def tir (d : Int → Int) (b home k : Int) : Int := (dy d b home (k.toNat + 1)).2
def T_X0_spend : Tr := tO2 0 fun n b home μ Post => ((0 ≤ b ∧ b ≤ 5) ∧ (0 ≤ home ∧ home ≤ 9) ∧ ∀ c, b * 24 ≤ c → c < b * 24 + 24 → -1 ≤ μ 2 n c ∧ μ 2 n c ≤ 4) ∧
  ∀ μ', (∀ s' n' j', ¬ ((s' = 2 ∨ s' = 3 ∨ s' = 4) ∧ n' = n ∧ b * 24 ≤ j' ∧ j' < b * 24 + 24) → μ' s' n' j' = μ s' n' j') → (∀ k, 0 ≤ k → k < 24 → μ' 2 n (b * 24 + k) = dee (μ 2 n) b home k ∧ μ' 3 n (b * 24 + k) = pla (μ 2 n) b home k ∧ μ' 4 n (b * 24 + k) = tir (μ 2 n) b home k) → Post none μ'
set_option maxHeartbeats 1000000 in
theorem ok_X0_spend : oh_Ok (pg_X0_spend T_X4_cell T_J9_max_7cf53 T_J9_min_7cf53) 7 T_X0_spend := by
  refine tO2_ok fun n b home μ Post G hG hn hb hh hM h => ?_
  obtain ⟨⟨hb0, hh0, hd⟩, h⟩ := h
  have loop : ∀ k, 0 ≤ k → k ≤ 24 → ∀ μ', (∀ s' n' j', ¬ ((s' = 2 ∨ s' = 3 ∨ s' = 4) ∧ n' = n ∧ b * 24 ≤ j' ∧ j' < b * 24 + k) → μ' s' n' j' = μ s' n' j') → (∀ i, 0 ≤ i → i < k → μ' 2 n (b * 24 + i) = dee (μ 2 n) b home i ∧ μ' 3 n (b * 24 + i) = pla (μ 2 n) b home i ∧ μ' 4 n (b * 24 + i) = tir (μ 2 n) b home i) →
      G 12 [some (oR 0 n), some (oI b), some (oI home), some (oI (dy (μ 2 n) b home k.toNat).1), some (oI (dy (μ 2 n) b home k.toNat).2), some (oI (b * 24 + k)), none] [] μ' := by
    refine oh_for (F := fun k => 0 ≤ k → k ≤ 24 → ∀ μ', (∀ s' n' j', ¬ ((s' = 2 ∨ s' = 3 ∨ s' = 4) ∧ n' = n ∧ b * 24 ≤ j' ∧ j' < b * 24 + k) → μ' s' n' j' = μ s' n' j') → (∀ i, 0 ≤ i → i < k → μ' 2 n (b * 24 + i) = dee (μ 2 n) b home i ∧ μ' 3 n (b * 24 + i) = pla (μ 2 n) b home i ∧ μ' 4 n (b * 24 + i) = tir (μ 2 n) b home i) →
      G 12 [some (oR 0 n), some (oI b), some (oI home), some (oI (dy (μ 2 n) b home k.toNat).1), some (oI (dy (μ 2 n) b home k.toNat).2), some (oI (b * 24 + k)), none] [] μ') 24 ?_ ?_
    · intro k hk h0 h1 μ' hof hw
      have e : k = 24 := by omega
      subst e
      refine oh_go hG [(12, 6)] 40 ?_
      refine And.intro ?_ trivial
      refine And.intro (by omega) ?_
      exact ⟨fun _ => h μ' hof hw, fun x => absurd (by omega) x⟩
    · intro k hk ih h0 h1 μ' hof hw
      have et : (k + 1).toNat = k.toNat + 1 := by omega
      have et2 : ((k.toNat : Nat) : Int) = k := by omega
      obtain ⟨hpl, hwr⟩ := dy_rg (d := μ 2 n) (b := b) hh0 k.toNat
      have hdc := hd (b * 24 + k) (by omega) (by omega)
      have hcur : μ' 2 n (b * 24 + k) = μ 2 n (b * 24 + k) := hof _ _ _ (fun q => by omega)
      have hde := de_rg (d := μ 2 n) (c := b * 24 + k) (wr := (dy (μ 2 n) b home k.toNat).2) hdc
      have hdw := de_wr (d := μ 2 n) (c := b * 24 + k) hwr.2
      have hdt := toil_rg (de (μ 2 n) (b * 24 + k) (dy (μ 2 n) b home k.toNat).2)
      have edy1 : (dy (μ 2 n) b home (k + 1).toNat).1 = nxp (de (μ 2 n) (b * 24 + k) (dy (μ 2 n) b home k.toNat).2) (dy (μ 2 n) b home k.toNat).1 := by
        rw [et]
        show nxp (de (μ 2 n) (b * 24 + (k.toNat : Int)) _) _ = _
        rw [et2]
      have edy2 : (dy (μ 2 n) b home (k + 1).toNat).2 = max 0 ((dy (μ 2 n) b home k.toNat).2 + oh_toil (de (μ 2 n) (b * 24 + k) (dy (μ 2 n) b home k.toNat).2)) := by
        rw [et]
        show max 0 (_ + oh_toil (de (μ 2 n) (b * 24 + (k.toNat : Int)) _)) = _
        rw [et2]
      have edee : dee (μ 2 n) b home k = de (μ 2 n) (b * 24 + k) (dy (μ 2 n) b home k.toNat).2 := rfl
      have epla : pla (μ 2 n) b home k = (dy (μ 2 n) b home (k + 1).toNat).1 := by rw [et]; rfl
      have etir : tir (μ 2 n) b home k = (dy (μ 2 n) b home (k + 1).toNat).2 := by rw [et]; rfl
      -- behind the stores
      have fin : ∀ pl', pl' = (dy (μ 2 n) b home (k + 1).toNat).1 → ∀ wr', wr' = (dy (μ 2 n) b home (k + 1).toNat).2 → ∀ e, e = de (μ 2 n) (b * 24 + k) (dy (μ 2 n) b home k.toNat).2 →
          G 12 [some (oR 0 n), some (oI b), some (oI home), some (oI pl'), some (oI wr'), some (oI (b * 24 + k + 1)), none] [] (oh_up (oh_up (oh_up μ' 2 n (b * 24 + k) e) 3 n (b * 24 + k) pl') 4 n (b * 24 + k) wr') := by
        rintro pl' rfl wr' rfl e rfl
        rw [Int.add_assoc (b * 24) k 1]
        refine ih (by omega) (by omega) _ (fun s' n' j' g => ?_) (fun i a c => ?_)
        · rw [oh_up_o (fun q => g ⟨by omega, q.2.1, by omega, by omega⟩), oh_up_o (fun q => g ⟨by omega, q.2.1, by omega, by omega⟩), oh_up_o (fun q => g ⟨by omega, q.2.1, by omega, by omega⟩)]
          exact hof s' n' j' (fun q => g ⟨q.1, q.2.1, by omega, by omega⟩)
        · by_cases e : i = k
          · subst e
            refine ⟨?_, ?_, ?_⟩
            · rw [oh_up_o (fun q => absurd q.1 (by decide)), oh_up_o (fun q => absurd q.1 (by decide)), oh_up_s, edee]
            · rw [oh_up_o (fun q => absurd q.1 (by decide)), oh_up_s, epla]
            · rw [oh_up_s, etir]
          · obtain ⟨w1, w2, w3⟩ := hw i a (by omega)
            refine ⟨?_, ?_, ?_⟩
            · rw [oh_up_o (fun q => by omega), oh_up_o (fun q => by omega), oh_up_o (fun q => by omega), w1]
            · rw [oh_up_o (fun q => by omega), oh_up_o (fun q => by omega), oh_up_o (fun q => by omega), w2]
            · rw [oh_up_o (fun q => by omega), oh_up_o (fun q => by omega), oh_up_o (fun q => by omega), w3]
      -- from place 64 on, with the deed that is done
      have tail : G 64 [some (oR 0 n), some (oI b), some (oI home), some (oI (dy (μ 2 n) b home k.toNat).1), some (oI (dy (μ 2 n) b home k.toNat).2), some (oI (b * 24 + k)), some (oI (de (μ 2 n) (b * 24 + k) (dy (μ 2 n) b home k.toNat).2))] [] μ' := by
        have fin := fin _ rfl _ rfl _ rfl
        rw [edy1, edy2] at fin
        generalize de (μ 2 n) (b * 24 + k) (dy (μ 2 n) b home k.toNat).2 = E at fin hde hdw hdt
        generalize (dy (μ 2 n) b home k.toNat).1 = PL at fin hpl
        generalize (dy (μ 2 n) b home k.toNat).2 = WR at fin hwr hdw
        unfold nxp at fin
        refine oh_go hG [(12, 6)] 80 ?_
        refine And.intro (show 0 ≤ E ∧ E < 5 by omega) ?_
        show oh_wp _ Post G _ _ _ _ [oI (oh_nthI [-3, 2, 1, 1, 0] E), oI WR, oI 0] μ'
        rw [toil_at hde]
        refine And.intro (by omega) ?_
        refine And.intro ?_ trivial
        refine And.intro (fun x => ?_) (fun x => ?_)
        · rw [if_neg x] at fin
          refine And.intro (fun y => ?_) (fun y => ?_)
          · rw [if_neg y] at fin
            exact ⟨by omega, by omega, by omega, by omega, fin⟩
          · rw [if_pos (Classical.not_not.mp y)] at fin
            refine And.intro (by omega) ?_
            refine And.intro ?_ trivial
            exact ⟨by omega, by omega, by omega, by omega, fin⟩
        · rw [if_pos (Classical.not_not.mp x)] at fin
          refine And.intro (by omega) ?_
          refine And.intro ?_ trivial
          exact ⟨by omega, by omega, by omega, by omega, fin⟩
      -- from place 45 on, with the deed that was told
      have mid : ∀ e0, e0 = (if μ 2 n (b * 24 + k) = -1 then 0 else μ 2 n (b * 24 + k)) → G 45 [some (oR 0 n), some (oI b), some (oI home), some (oI (dy (μ 2 n) b home k.toNat).1), some (oI (dy (μ 2 n) b home k.toNat).2), some (oI (b * 24 + k)), none] [oI e0] μ' := by
        intro e0 he0
        have hr0 : 0 ≤ e0 ∧ e0 ≤ 4 := by
          rw [he0]
          split <;> omega
        have ht0 := toil_rg e0
        unfold de at tail
        rw [← he0] at tail
        refine oh_go hG [(64, 7)] 40 ?_
        refine And.intro (show 0 ≤ e0 ∧ e0 < 5 by omega) ?_
        show oh_wp _ Post G _ _ _ _ [oI (oh_nthI [-3, 2, 1, 1, 0] e0), oI _] μ'
        rw [toil_at hr0]
        refine And.intro (by omega) ?_
        refine And.intro (fun x => ?_) (fun x => ?_)
        · rw [if_neg (by omega)] at tail
          exact tail
        · rw [if_pos (by omega)] at tail
          exact tail
      refine oh_go hG [(45, 6)] 40 ?_
      refine And.intro ?_ trivial
      refine And.intro (by omega) ?_
      refine And.intro (fun x => absurd x (by omega)) (fun _ => ?_)
      refine And.intro (by omega) ?_
      rw [hcur]
      refine And.intro (fun x => ?_) (fun x => ?_)
      · refine And.intro (by omega) ?_
        rw [hcur]
        exact mid _ (by rw [if_neg x])
      · exact mid _ (by rw [if_pos (Classical.not_not.mp x)])
  refine oh_go hG [(12, 6)] 40 ?_
  refine And.intro ?_ trivial
  refine And.intro (by omega) ?_
  exact loop 0 (by omega) (by omega) μ (fun _ _ _ _ => rfl) (fun i a c => absurd c (by omega))
