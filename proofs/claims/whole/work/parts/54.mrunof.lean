/-! THE MODEL: the longest row -/
theorem ahead_z {A : Ab} {p b fl : Int} {k : Nat} (hk : k < 23) (hz : mk (bdB A p (23 - (k : Int))) 6 = 0) : mx (fun c => if aA A (c * 24 + (23 - (k : Int))) = p ∧ (fl = 0 ∨ cP A (A 2 2) (b * 24 + (22 - (k : Int))) = cP A (A 2 2) (c * 24 + (22 - (k : Int)))) then gO (aA A) (cP A (A 2 2)) p fl k c else 0) 6 = 0 := by
  refine Int.le_antisymm (mx_le (by omega) 6 (fun c c0 c1 => ?_)) (mx_nn _ _)
  have hc : 0 ≤ c ∧ c < 6 := ⟨c0, by omega⟩
  have e := bd_bit A p hc (h := 23 - (k : Int)) (by omega)
  rw [hz, Nat.zero_testBit] at e
  rw [if_neg (fun w => absurd (e.mpr w.1) (by decide))]
  omega
def kN (μ μ' : Mem) : Prop := ∀ s n j, ¬ s = 39 → μ' s n j = μ s n j
theorem kN_k {μ μ1 : Mem} (h : kN μ μ1) : kM μ μ1 := fun s n j hs => h s n j (fun z => hs (by unfold scr; omega))
theorem kN_row {μ μ1 : Mem} (h : kN μ μ1) {s : Nat} (hs : ¬ s = 39) (n : Nat) : μ1 s n = μ s n := funext fun j => h s n j hs
theorem Ki_N {A : Ab} {μ μ1 : Mem} (h : Ki A μ) (k : kN μ μ1) : Ki A μ1 := ⟨h.1, RepM_k h.2.1 (kN_k k), RdG_keep h.2.2.1 (by rw [kN_row k (by omega)]) (kN_row k (by omega) 0) (kN_row k (by omega) 0), RdO_keep h.2.2.2 (by rw [kN_row k (by omega)]) (kN_row k (by omega) 0)⟩
def flg (w : Int) : Int := if 1 < w then 1 else 0
/-- the Model's table from hour 23 - k on -/
def Gt (A : Ab) (p fl : Int) (k : Nat) (μ : Mem) : Prop := ∀ j : Nat, j < k → ∀ b, 0 ≤ b → b < 6 → μ 39 0 (b * 24 + (23 - (j : Int))) = gO (aA A) (cP A (A 2 2)) p fl j b
theorem gO_rg (a pl : Int → Int) (p fl : Int) : ∀ (k : Nat) (b : Int), 0 ≤ gO a pl p fl k b
  | 0, b => by
    show 0 ≤ if a (b * 24 + 23) = p then (1 : Int) else 0
    split <;> omega
  | k + 1, b => by
    have hnn := mx_nn (fun c => if a (c * 24 + (23 - (k : Int))) = p ∧ (fl = 0 ∨ pl (b * 24 + (22 - (k : Int))) = pl (c * 24 + (22 - (k : Int)))) then gO a pl p fl k c else 0) 6
    show 0 ≤ if a (b * 24 + (22 - (k : Int))) = p then 1 + mx (fun c => if a (c * 24 + (23 - (k : Int))) = p ∧ (fl = 0 ∨ pl (b * 24 + (22 - (k : Int))) = pl (c * 24 + (22 - (k : Int)))) then gO a pl p fl k c else 0) 6 else 0
    split <;> omega
theorem gO_le {a pl : Int → Int} {p fl : Int} {k : Nat} {b : Int} (hb : 0 ≤ b ∧ b < 6) : gO a pl p fl k b ≤ (k : Int) + 1 := by
  by_cases z : gO a pl p fl k b ≤ (k : Int) + 1
  · exact z
  · have := ((gO_row (a := a) (pl := pl) (p := p) (fl := fl) k (k + 1) b hb.1 hb.2).mp (by omega)).1
    omega
def T_X5_runOf : Tr := tO2 22 fun n p w μ Post => ∃ A, Ki A μ ∧ Lv A (A 2 2) μ ∧ (0 ≤ w ∧ w ≤ 3) ∧ ∀ μ', kN μ μ' → Post (some (oI (rnA A p w))) μ'
theorem ok_X5_runOf : oh_Ok (pg_X5_runOf T_X5_bodies T_X5_goesOnFrom T_X5_longest T_X5_isIn T_X5_greater) 11 T_X5_runOf := by
  refine tO2_ok fun n p w μ Post G hG hn hp hw hM h => ?_
  obtain rfl := n22 hn
  obtain ⟨A, hK, hL, hw2, h⟩ := h
  have hml : ∀ fl, ml (bO (aA A) (cP A (A 2 2)) p fl) 24 = rn A p fl := fun fl => ml_lr _ _ _ _
  have hq : ∀ μ', kN μ μ' → ∀ c, 0 ≤ c → c < 144 → μ' 37 0 c = cP A (A 2 2) c := fun μ' k c a b => by
    rw [k _ _ _ (by omega)]
    exact (hL.2 c a b).2.1
  have hfl : flg w = 0 ∨ flg w = 1 := by
    unfold flg
    split <;> omega
  have hbd : ∀ x, mk (bdB A p x) 6 < 64 := fun x => mk_lt _ _
  have k9 : ∀ (m k : Nat) (μ1 : Mem) , k + m = 24 → kN μ μ1 → Gt A p (flg w) k μ1 → G 9 [some (oR 22 0), some (oI p), some (oI w), some (oI (ml (bO (aA A) (cP A (A 2 2)) p (flg w)) k).1), some (oI (ml (bO (aA A) (cP A (A 2 2)) p (flg w)) k).2), some (oI (23 - (k : Int))), none, none, none, none, none] [] μ1 := by
    intro m
    induction m with
    | zero =>
      intro k μ1 hk g1 g2
      have e : k = 24 := by omega
      subst e
      have h := h μ1 g1
      unfold rnA at h
      refine oh_go hG [(9, 6), (51, 10)] 40 ?_
      refine And.intro (fun _ => ?_) (fun q => absurd q (by omega))
      refine And.intro (by omega) ?_
      rw [hml]
      have hw4 : w = 0 ∨ w = 1 ∨ w = 2 ∨ w = 3 := by omega
      rcases hw4 with rfl | rfl | rfl | rfl
      · exact And.intro (fun q => absurd rfl q) (fun _ => h)
      · exact And.intro (fun _ => h) (fun q => absurd (by decide) q)
      · exact And.intro (fun q => absurd rfl q) (fun _ => h)
      · exact And.intro (fun _ => h) (fun q => absurd (by decide) q)
    | succ m ih =>
      intro k μ1 hk g1 g2
      have ih := ih (k + 1)
      generalize hgO : gO (aA A) (cP A (A 2 2)) p (flg w) k = g at *
      have hml1 : ∀ x, mx g 6 = x → ml (bO (aA A) (cP A (A 2 2)) p (flg w)) (k + 1) = (max x (ml (bO (aA A) (cP A (A 2 2)) p (flg w)) k).1, if 0 < x ∧ (ml (bO (aA A) (cP A (A 2 2)) p (flg w)) k).1 ≤ x then 23 - (k : Int) else (ml (bO (aA A) (cP A (A 2 2)) p (flg w)) k).2) := fun x e => by
        have e2 : bO (aA A) (cP A (A 2 2)) p (flg w) k = x := by
          unfold bO
          rw [hgO, e]
        rw [← e2]
        rfl
      generalize hM1 : (ml (bO (aA A) (cP A (A 2 2)) p (flg w)) k).1 = most at *
      generalize hM2 : (ml (bO (aA A) (cP A (A 2 2)) p (flg w)) k).2 = first at *
      have hgr : ∀ b, 0 ≤ b → b < 6 → 0 ≤ g b ∧ g b ≤ 24 := fun b b0 b1 => by
        have x1 := gO_rg (aA A) (cP A (A 2 2)) p (flg w) k b
        have x2 := gO_le (a := aA A) (pl := cP A (A 2 2)) (p := p) (fl := flg w) (k := k) ⟨b0, b1⟩
        rw [hgO] at x1 x2
        omega
      have k51 : ∀ N : Nat, N < 64 → (∀ b μ2, 0 ≤ b → b < 6 → kN μ μ2 → Gt A p (flg w) k μ2 → (N = 0 → g b = if aA A (b * 24 + (23 - (k : Int))) = p then 1 + 0 else 0) ∧ (¬ N = 0 → 1 ≤ k ∧ (¬ w ≤ 1 → g b = if aA A (b * 24 + (23 - (k : Int))) = p then 1 + mx (fun c => if N.testBit c.toNat = true ∧ μ2 37 0 (c * 24 + (23 - (k : Int))) = μ2 37 0 (b * 24 + (23 - (k : Int))) then μ2 39 0 (c * 24 + (23 - (k : Int) + 1)) else 0) 6 else 0) ∧ (w ≤ 1 → g b = if aA A (b * 24 + (23 - (k : Int))) = p then 1 + mx (fun c => if N.testBit c.toNat = true then μ2 39 0 (c * 24 + (23 - (k : Int) + 1)) else 0) 6 else 0))) → ∀ b, 0 ≤ b → b ≤ 6 → ∀ μ2, kN μ μ2 → Gt A p (flg w) k μ2 → (∀ c, 0 ≤ c → c < b → μ2 39 0 (c * 24 + (23 - (k : Int))) = g c) → G 51 [some (oR 22 0), some (oI p), some (oI w), some (oI most), some (oI first), some (oI (23 - (k : Int))), some (oI ((mk (bdB A p (23 - (k : Int))) 6 : Nat) : Int)), some (oI (N : Int)), some (oI (mx g b.toNat)), some (oI b), none] [] μ2 := by
        intro N hN hA
        refine oh_for (F := fun b => 0 ≤ b → b ≤ 6 → ∀ μ2, kN μ μ2 → Gt A p (flg w) k μ2 → (∀ c, 0 ≤ c → c < b → μ2 39 0 (c * 24 + (23 - (k : Int))) = g c) → G 51 [some (oR 22 0), some (oI p), some (oI w), some (oI most), some (oI first), some (oI (23 - (k : Int))), some (oI ((mk (bdB A p (23 - (k : Int))) 6 : Nat) : Int)), some (oI (N : Int)), some (oI (mx g b.toNat)), some (oI b), none] [] μ2) 6 ?_ ?_
        · intro b hb b0 b1 μ2 f1 f2 f3
          have e : b = 6 := by omega
          subst e
          have ih := ih μ2 (by omega) f1 (fun j hj c c0 c1 => by
            by_cases z : j = k
            · subst z
              rw [hgO]
              exact f3 c c0 c1
            · exact f2 j (by omega) c c0 c1)
          rw [show mx g (6 : Int).toNat = mx g 6 from rfl]
          generalize hx : mx g 6 = x at *
          rw [hml1 x rfl, show 23 - ((k + 1 : Nat) : Int) = 23 - (k : Int) - 1 by omega] at ih
          dsimp only at ih
          refine oh_go hG [(9, 6), (51, 10)] 40 ?_
          refine And.intro (fun _ => ?_) (fun q => absurd hb q)
          refine And.intro (fun y => ?_) (fun y => ?_)
          · rw [if_neg (by omega)] at ih
            exact ⟨⟨by omega, ih⟩, trivial⟩
          · refine And.intro (fun y2 => ?_) (fun y2 => ?_)
            · rw [if_neg (by omega)] at ih
              exact ⟨⟨by omega, ih⟩, trivial⟩
            · rw [if_pos (by omega)] at ih
              exact ⟨⟨by omega, ih⟩, trivial⟩
        · intro b hb ih b0 b1 μ2 f1 f2 f3
          have ih := ih (by omega) (by omega)
          rw [mx_s _ b0] at ih
          have hA := hA b μ2 b0 hb f1 f2
          have hgb := hgr b b0 hb
          have hbb := bd_bit A p (c := b) (h := 23 - (k : Int)) ⟨b0, hb⟩ (by omega)
          have ih := ih (oh_up μ2 39 0 (b * 24 + (23 - (k : Int))) (g b)) (fun s n j hs => by rw [oh_up_o (by omega)]; exact f1 s n j hs) (fun j hj c c0 c1 => by rw [oh_up_o (by omega)]; exact f2 j hj c c0 c1) (fun c c0 c1 => by
            by_cases z : c = b
            · subst z
              exact oh_up_s
            · rw [oh_up_o (by omega)]
              exact f3 c c0 (by omega))
          have hbx := hbd (23 - (k : Int))
          have k96 : ∀ z, 0 ≤ z → z ≤ 24 → g b = (if aA A (b * 24 + (23 - (k : Int))) = p then 1 + z else 0) → G 96 [some (oR 22 0), some (oI p), some (oI w), some (oI most), some (oI first), some (oI (23 - (k : Int))), some (oI ((mk (bdB A p (23 - (k : Int))) 6 : Nat) : Int)), some (oI (N : Int)), some (oI (mx g b.toNat)), some (oI b), some (oI z)] [] μ2 := by
            intro z z0 z1 ez
            generalize mk (bdB A p (23 - (k : Int))) 6 = B at *
            refine oh_go hG [(9, 6), (51, 10)] 40 ?_
            refine And.intro (by omega) ?_
            refine And.intro (by omega) ?_
            rw [show 24 * b + (23 - (k : Int)) = b * 24 + (23 - (k : Int)) by omega]
            refine And.intro ⟨B, rfl, by omega, by omega, fun y => ?_, fun y => ?_⟩ trivial
            · rw [if_pos (hbb.mp y)] at ez
              refine And.intro (fun y => absurd y (by decide)) (fun _ => ?_)
              refine And.intro (by omega) ?_
              refine And.intro (by omega) ?_
              rw [← ez]
              refine And.intro (by omega) ?_
              refine And.intro (by omega) ?_
              refine And.intro (by omega) ?_
              rw [show 24 * b + (23 - (k : Int)) = b * 24 + (23 - (k : Int)) by omega, oh_up_s]
              exact ⟨⟨by omega, ih⟩, trivial⟩
            · rw [if_neg (fun v => y (hbb.mpr v))] at ez
              refine And.intro (fun _ => ?_) (fun y => absurd rfl y)
              refine And.intro (by omega) ?_
              rw [← ez]
              refine And.intro (by omega) ?_
              refine And.intro (by omega) ?_
              refine And.intro (by omega) ?_
              rw [show 24 * b + (23 - (k : Int)) = b * 24 + (23 - (k : Int)) by omega, oh_up_s]
              exact ⟨⟨by omega, ih⟩, trivial⟩
          refine oh_go hG [(9, 6), (51, 10), (96, 11)] 40 ?_
          refine And.intro (fun q => absurd q (by omega)) (fun _ => ?_)
          refine And.intro (fun y => ?_) (fun y => ?_)
          · exact k96 0 (by omega) (by omega) (hA.1 (by omega))
          · have hA := hA.2 (by omega)
            refine And.intro (fun y2 => ?_) (fun y2 => ?_)
            · have hA1 := hA.2.2 y2
              have hT : ∀ c, 0 ≤ c → c < 6 → μ2 39 0 (c * 24 + (23 - (k : Int) + 1)) ≤ 24 := fun c c0 c1 => by
                have e := f2 (k - 1) (by omega) c c0 c1
                rw [show 23 - ((k - 1 : Nat) : Int) = 23 - (k : Int) + 1 by omega] at e
                have e2 := gO_le (a := aA A) (pl := cP A (A 2 2)) (p := p) (fl := flg w) (k := k - 1) ⟨c0, c1⟩
                omega
              refine And.intro (by omega) ?_
              refine And.intro ⟨N, rfl, hN, by omega, ?_⟩ trivial
              refine k96 _ (mx_nn _ _) (mx_le (by omega) 6 (fun c c0 c1 => ?_)) hA1
              have := hT c c0 c1
              split <;> omega
            · have hA1 := hA.2.1 y2
              have hT : ∀ c, 0 ≤ c → c < 6 → μ2 39 0 (c * 24 + (23 - (k : Int) + 1)) ≤ 24 := fun c c0 c1 => by
                have e := f2 (k - 1) (by omega) c c0 c1
                rw [show 23 - ((k - 1 : Nat) : Int) = 23 - (k : Int) + 1 by omega] at e
                have e2 := gO_le (a := aA A) (pl := cP A (A 2 2)) (p := p) (fl := flg w) (k := k - 1) ⟨c0, c1⟩
                omega
              refine And.intro ⟨N, rfl, hN, by omega, by omega, ?_⟩ trivial
              refine k96 _ (mx_nn _ _) (mx_le (by omega) 6 (fun c c0 c1 => ?_)) hA1
              have := hT c c0 c1
              split <;> omega
      refine oh_go hG [(9, 6), (51, 10)] 40 ?_
      refine And.intro (fun q => absurd q (by omega)) (fun _ => ?_)
      refine And.intro ⟨A, Ki_N hK g1, by omega, ?_⟩ trivial
      refine And.intro (fun y => ?_) (fun y => ?_)
      · obtain ⟨k', hk'⟩ : ∃ k', k = k' + 1 := ⟨k - 1, by omega⟩
        have ek : 23 - (k : Int) + 1 = 23 - (k' : Int) := by omega
        have ek2 : 23 - (k : Int) = 22 - (k' : Int) := by omega
        refine And.intro (by omega) ?_
        refine And.intro ⟨A, Ki_N hK g1, by omega, ?_⟩ trivial
        refine k51 (mk (bdB A p (23 - (k : Int) + 1)) 6) (hbd _) (fun b μ2 b0 b1 f1 f2 => ?_) 0 (by omega) (by omega) μ1 g1 g2 (fun c c0 c1 => absurd c1 (by omega))
        have eg : g b = if aA A (b * 24 + (22 - (k' : Int))) = p then 1 + mx (fun c => if aA A (c * 24 + (23 - (k' : Int))) = p ∧ (flg w = 0 ∨ cP A (A 2 2) (b * 24 + (22 - (k' : Int))) = cP A (A 2 2) (c * 24 + (22 - (k' : Int)))) then gO (aA A) (cP A (A 2 2)) p (flg w) k' c else 0) 6 else 0 := by
          rw [← hgO, hk']
          rfl
        rw [eg]
        refine ⟨fun z => ?_, fun z => ⟨by omega, fun y => ?_, fun y => ?_⟩⟩
        · rw [ek] at z
          rw [ek2, ahead_z (by omega) z]
        · have e1 : flg w = 1 := if_pos (by omega)
          have hN : mk (bdB A p (23 - (k : Int) + 1)) 6 = mk (bdB A p (23 - (k' : Int))) 6 := by rw [ek]
          rw [hN, ek2, e1, ahead_1 (g := μ2 39 0) (q := μ2 37 0) (by omega) ⟨b0, b1⟩ (fun c c0 c1 => by
            have := f2 k' (by omega) c c0 c1
            rw [e1] at this
            exact this) (hq μ2 f1)]
        · have e1 : flg w = 0 := if_neg (by omega)
          rw [ek, ek2, e1, ahead_0 (b := b) (g := μ2 39 0) (by omega) (fun c c0 c1 => by
            have := f2 k' (by omega) c c0 c1
            rw [e1] at this
            exact this)]
      · have e0 : k = 0 := by omega
        refine k51 0 (by omega) (fun b μ2 b0 b1 f1 f2 => ⟨fun _ => ?_, fun z => absurd rfl z⟩) 0 (by omega) (by omega) μ1 g1 g2 (fun c c0 c1 => absurd c1 (by omega))
        rw [← hgO, e0]
        rfl
  refine oh_go hG [(9, 6)] 10 ?_
  exact k9 24 0 μ (by omega) (fun _ _ _ _ => rfl) (fun j hj => absurd hj (by omega))
