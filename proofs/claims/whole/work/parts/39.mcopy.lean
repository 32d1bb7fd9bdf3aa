/-! THE MODEL: copy, read -/
theorem w64_id {x : Int} (h0 : -9223372036854775808 ≤ x) (h1 : x ≤ 9223372036854775807) : oh_w64 x = x := by
  unfold oh_w64
  have hz : (Int64.size : Int) = 18446744073709551616 := rfl
  rw [Int64.toInt_ofInt]
  exact Int.bmod_eq_of_le (by omega) (by omega)
def T_X5_copy : Tr := tM5 s_copy
theorem ok_X5_copy : oh_Ok (pg_X5_copy T_X5_isSheet T_X5_finds) 7 T_X5_copy := by
  refine tO5_ok fun m s i t j n μ Post G hG hm hs hi ht hj hn hM h => ?_
  obtain rfl := n22 hm
  obtain ⟨A, hV, hR, h⟩ := h
  have hbad : ¬ (0 ≤ s ∧ s < 4) ∨ ¬ (0 ≤ t ∧ t < 4) → Post (some (oI (-2))) μ := fun x => by
    have e : s_copy A s i t j n = (-2, A) := if_pos x
    rw [e] at h
    exact h μ hR FrM_rf
  have hi1 : -2147483648 ≤ i ∧ i ≤ 2147483647 := hi
  have hj1 : -2147483648 ≤ j ∧ j ≤ 2147483647 := hj
  have hn1 : -2147483648 ≤ n ∧ n ≤ 2147483647 := hn
  refine oh_go hG [(111, 7), (117, 6)] 60 ?_
  refine And.intro ?_ trivial
  refine And.intro (fun x => ?_) (fun x => ⟨fun _ => hbad (by omega), fun y => absurd rfl y⟩)
  refine And.intro (fun y => absurd y (by decide)) (fun _ => ?_)
  refine And.intro ?_ trivial
  refine And.intro (fun z => ?_) (fun z => ⟨fun y => absurd rfl y, fun _ => hbad (by omega)⟩)
  refine And.intro (fun _ => ?_) (fun y => absurd (by decide) y)
  have e : s_copy A s i t j n = if A 8 s = -1 ∨ A 8 t = -1 then (-11, fndA A 1) else if ¬ A 7 s = A 7 t then (-14, fndA A 4) else if ¬ (0 ≤ i ∧ 0 ≤ n ∧ i + n ≤ A 8 s) ∨ ¬ (0 ≤ j ∧ 0 ≤ n ∧ j + n ≤ A 8 t) then (-12, fndA A 2) else (1, cpA A s.toNat t.toNat i j n) := if_neg (by omega)
  rw [e] at h
  obtain ⟨s1, s2, s3⟩ := sh_at hV hR (s := s) (by omega)
  obtain ⟨t1, t2, t3⟩ := sh_at hV hR (s := t) (by omega)
  have es : ((s.toNat : Nat) : Int) = s := by omega
  have et : ((t.toNat : Nat) : Int) = t := by omega
  refine And.intro (by omega) ?_
  refine And.intro (fun q => ?_) (fun q => ?_)
  · have hz : A 8 s = -1 := Classical.byContradiction fun z => by
      have := s3 z
      omega
    rw [if_pos (Or.inl hz)] at h
    exact ⟨⟨by omega, h _ (RepM_fnd 1 hR) (FrM_up (by decide))⟩, trivial⟩
  · have hs8 : ¬ A 8 s = -1 := fun z => absurd (s2 z) (by omega)
    refine And.intro (by omega) ?_
    refine And.intro (fun q2 => ?_) (fun q2 => ?_)
    · have ht8 : ¬ A 8 t = -1 := fun z => absurd (t2 z) (by omega)
      obtain ⟨a1, a2, a3, a4⟩ := s3 hs8
      obtain ⟨b1, b2, b3, b4⟩ := t3 ht8
      rw [if_neg (by omega)] at h
      refine And.intro (by omega) ?_
      refine And.intro (by omega) ?_
      rw [a1, b1]
      refine And.intro (fun w => ?_) (fun w => ?_)
      · rw [if_neg (not_not_intro w)] at h
        have h111 : ¬ (0 ≤ i ∧ 0 ≤ n ∧ i + n ≤ A 8 s) ∨ ¬ (0 ≤ j ∧ 0 ≤ n ∧ j + n ≤ A 8 t) → G 111 [some (oR 22 0), some (oI s), some (oI i), some (oI t), some (oI j), some (oI n), none] [] μ := fun c => by
          rw [if_pos c] at h
          refine oh_go hG [] 20 ?_
          exact ⟨⟨by omega, h _ (RepM_fnd 2 hR) (FrM_up (by decide))⟩, trivial⟩
        have h117 : ¬ (¬ (0 ≤ i ∧ 0 ≤ n ∧ i + n ≤ A 8 s) ∨ ¬ (0 ≤ j ∧ 0 ≤ n ∧ j + n ≤ A 8 t)) → G 117 [some (oR 22 0), some (oI s), some (oI i), some (oI t), some (oI j), some (oI n), none] [] μ := fun hc0 => by
          rw [if_neg hc0] at h
          dsimp only at h
          have c1 : (0 ≤ i ∧ 0 ≤ n ∧ i + n ≤ A 8 s) ∧ 0 ≤ j ∧ 0 ≤ n ∧ j + n ≤ A 8 t := by omega
          have key2 : ∀ c, 0 ≤ c → c ≤ n → ∀ μ1 : Mem, (∀ (s' m : Nat) (x : Int), ¬ s' = 26 → ¬ (s' = 25 ∧ 60 * t + j ≤ x ∧ x < 60 * t + j + n) → μ1 s' m x = μ s' m x) → (∀ x, 0 ≤ x → x < n → μ1 26 0 x = A (9 + s.toNat) (i + x)) → (∀ x, 0 ≤ x → x < n → μ1 25 0 (60 * t + j + x) = if x < c then A (9 + s.toNat) (i + x) else A (9 + t.toNat) (j + x)) → G 157 [some (oR 22 0), some (oI s), some (oI i), some (oI t), some (oI j), some (oI n), some (oI c)] [] μ1 := by
            refine oh_for (F := fun c => 0 ≤ c → c ≤ n → ∀ μ1 : Mem, (∀ (s' m : Nat) (x : Int), ¬ s' = 26 → ¬ (s' = 25 ∧ 60 * t + j ≤ x ∧ x < 60 * t + j + n) → μ1 s' m x = μ s' m x) → (∀ x, 0 ≤ x → x < n → μ1 26 0 x = A (9 + s.toNat) (i + x)) → (∀ x, 0 ≤ x → x < n → μ1 25 0 (60 * t + j + x) = if x < c then A (9 + s.toNat) (i + x) else A (9 + t.toNat) (j + x)) → G 157 [some (oR 22 0), some (oI s), some (oI i), some (oI t), some (oI j), some (oI n), some (oI c)] [] μ1) n ?_ ?_
            · intro c hc h0 h1 μ1 g1 g2 g3
              have e : c = n := by omega
              subst e
              refine oh_go hG [(157, 7)] 40 ?_
              refine And.intro (fun _ => ?_) (fun q => absurd hc q)
              have ea : ∀ k, ¬ k = 9 + t.toNat → cpA A s.toNat t.toNat i j c k = A k := fun k hk => funext fun x => if_neg (fun q => hk q.1)
              refine h μ1 (RepM_sh (k := t.toNat) (by omega) hV hR (fun k k7 k8 k9 => ea k k9) (fun x _ => by rw [ea 7 (by omega)]) (fun x _ => by rw [ea 8 (by omega)]) (fun s' m x x1 x2 x3 => g1 s' m x x3 (by omega)) ⟨fun w => ?_, fun w => ⟨?_, ?_, fun x a b => ?_⟩⟩) (fun s' m hs' => funext fun x => g1 s' m x (by omega) (by omega))
              · rw [ea 8 (by omega), et] at w
                exact absurd w ht8
              · rw [ea 7 (by omega), et, g1 23 0 t (by omega) (by omega)]
                exact b1
              · rw [ea 8 (by omega), et, g1 24 0 t (by omega) (by omega)]
                exact b3
              · rw [ea 8 (by omega), et] at b
                rw [et]
                by_cases hin : j ≤ x ∧ x < j + c
                · have e2 : cpA A s.toNat t.toNat i j c (9 + t.toNat) x = A (9 + s.toNat) (i + (x - j)) := if_pos ⟨rfl, hin⟩
                  have := g3 (x - j) (by omega) (by omega)
                  rw [if_pos (by omega), show 60 * t + j + (x - j) = 60 * t + x by omega] at this
                  rw [e2, this]
                · have e2 : cpA A s.toNat t.toNat i j c (9 + t.toNat) x = A (9 + t.toNat) x := if_neg (fun q => hin q.2)
                  rw [e2, g1 25 0 _ (by omega) (by omega)]
                  exact b4 x a b
            · intro c hc ih h0 h1 μ1 g1 g2 g3
              have ih := ih (by omega) (by omega)
              refine oh_go hG [(157, 7)] 40 ?_
              refine And.intro (fun q => absurd q (by omega)) (fun _ => ?_)
              refine And.intro (by omega) ?_
              refine And.intro (by omega) ?_
              refine And.intro (by omega) ?_
              refine And.intro (by omega) ?_
              refine And.intro (by omega) ?_
              refine And.intro (by omega) ?_
              rw [g2 c h0 hc]
              refine ih _ (fun s' m x x1 x2 => ?_) (fun x a b => ?_) (fun x a b => ?_)
              · rw [oh_up_o (fun q => x2 ⟨q.1, by omega, by omega⟩)]
                exact g1 s' m x x1 x2
              · rw [oh_up_o (by omega)]
                exact g2 x a b
              · by_cases e : x = c
                · rw [e, oh_up_s, if_pos (by omega)]
                · rw [oh_up_o (by omega), g3 x a b]
                  by_cases e2 : x < c
                  · rw [if_pos e2, if_pos (by omega)]
                  · rw [if_neg e2, if_neg (by omega)]
          have key1 : ∀ c, 0 ≤ c → c ≤ n → ∀ μ1 : Mem, (∀ (s' m : Nat) (x : Int), ¬ s' = 26 → μ1 s' m x = μ s' m x) → (∀ x, 0 ≤ x → x < c → μ1 26 0 x = A (9 + s.toNat) (i + x)) → G 120 [some (oR 22 0), some (oI s), some (oI i), some (oI t), some (oI j), some (oI n), some (oI c)] [] μ1 := by
            refine oh_for (F := fun c => 0 ≤ c → c ≤ n → ∀ μ1 : Mem, (∀ (s' m : Nat) (x : Int), ¬ s' = 26 → μ1 s' m x = μ s' m x) → (∀ x, 0 ≤ x → x < c → μ1 26 0 x = A (9 + s.toNat) (i + x)) → G 120 [some (oR 22 0), some (oI s), some (oI i), some (oI t), some (oI j), some (oI n), some (oI c)] [] μ1) n ?_ ?_
            · intro c hc h0 h1 μ1 g1 g2
              have e : c = n := by omega
              subst e
              refine oh_go hG [(120, 7), (157, 7)] 40 ?_
              refine And.intro (fun _ => ?_) (fun q => absurd hc q)
              refine key2 0 (by omega) (by omega) μ1 (fun s' m x x1 x2 => g1 s' m x x1) g2 (fun x a b => ?_)
              rw [g1 25 0 _ (by omega), if_neg (by omega), show 60 * t + j + x = 60 * t + (j + x) by omega]
              exact b4 (j + x) (by omega) (by omega)
            · intro c hc ih h0 h1 μ1 g1 g2
              have ih := ih (by omega) (by omega)
              refine oh_go hG [(120, 7), (157, 7)] 40 ?_
              refine And.intro (fun q => absurd q (by omega)) (fun _ => ?_)
              refine And.intro (by omega) ?_
              refine And.intro (by omega) ?_
              refine And.intro (by omega) ?_
              refine And.intro (by omega) ?_
              refine And.intro (by omega) ?_
              refine And.intro (by omega) ?_
              refine ih _ (fun s' m x x1 => ?_) (fun x a b => ?_)
              · rw [oh_up_o (fun q => x1 q.1)]
                exact g1 s' m x x1
              · by_cases e : x = c
                · rw [e, oh_up_s, g1 25 0 _ (by omega), show 60 * s + i + c = 60 * s + (i + c) by omega]
                  exact a4 (i + c) (by omega) (by omega)
                · rw [oh_up_o (by omega)]
                  exact g2 x a (by omega)
          refine oh_go hG [(120, 7)] 10 ?_
          exact key1 0 (by omega) (by omega) μ (fun _ _ _ _ => rfl) (fun x a b => absurd b (by omega))
        refine And.intro (fun v => h111 (by omega)) (fun v => ?_)
        refine And.intro (fun v2 => h111 (by omega)) (fun v2 => ?_)
        refine And.intro (fun v3 => h111 (by omega)) (fun v3 => ?_)
        refine And.intro (by omega) ?_
        rw [w64_id (by omega) (by omega), a3]
        refine And.intro (fun v4 => h111 (by have := oh_cmp_gt.mp v4; omega)) (fun v4 => ?_)
        have v4 : ¬ A 8 s < i + n := fun c => v4 (oh_cmp_gt.mpr c)
        refine And.intro (by omega) ?_
        rw [w64_id (by omega) (by omega), b3]
        refine And.intro (fun v5 => h117 ?_) (fun v5 => h111 ?_)
        · have : ¬ A 8 t < j + n := fun c => by
            have := oh_cmp_gt.mpr c
            omega
          omega
        · have : A 8 t < j + n := oh_cmp_gt.mp (by omega)
          omega
      · rw [if_pos w] at h
        exact ⟨⟨by omega, h _ (RepM_fnd 4 hR) (FrM_up (by decide))⟩, trivial⟩
    · have hz : A 8 t = -1 := Classical.byContradiction fun z => by
        have := t3 z
        omega
      rw [if_pos (Or.inr hz)] at h
      exact ⟨⟨by omega, h _ (RepM_fnd 1 hR) (FrM_up (by decide))⟩, trivial⟩
theorem rdA_r {A : Ab} {s : Nat} {p c : Int} {k : Nat} (h : ¬ k = 4) : rdA A s p c k = A k := funext fun j => if_neg (fun q => h q.1)
theorem rdA_0 (A : Ab) (s : Nat) (p : Int) : rdA A s p 0 = A := funext fun k => funext fun j => if_neg (fun q => by omega)
theorem rdA_s {A : Ab} {s : Nat} {p c : Int} (h : 0 ≤ c) : rdA A s p (c + 1) = up2 (rdA A s p c) 4 (p * 24 + c) (A (9 + s) c) := funext fun k => funext fun j => by
  by_cases e : k = 4 ∧ j = p * 24 + c
  · obtain ⟨rfl, rfl⟩ := e
    rw [up2_s]
    have e2 : rdA A s p (c + 1) 4 (p * 24 + c) = A (9 + s) (p * 24 + c - p * 24) := if_pos ⟨rfl, by omega, by omega⟩
    rw [e2, show p * 24 + c - p * 24 = c by omega]
  · rw [up2_o e]
    unfold rdA
    by_cases e2 : k = 4 ∧ p * 24 ≤ j ∧ j < p * 24 + c
    · rw [if_pos e2, if_pos ⟨e2.1, e2.2.1, by omega⟩]
    · rw [if_neg e2, if_neg (fun q => e2 ⟨q.1, q.2.1, by
        have : ¬ j = p * 24 + c := fun z => e ⟨q.1, z⟩
        omega⟩)]
theorem rdA_val {A : Ab} {s : Nat} {p c : Int} (hV : ValA A) (hi : ∀ j, 0 ≤ j → j < c → 0 ≤ A (9 + s) j ∧ A (9 + s) j < 10) : ValA (rdA A s p c) := by
  obtain ⟨h1, h2, h3, h4, h5, h6⟩ := hV
  have r := fun k hk => rdA_r (A := A) (s := s) (p := p) (c := c) (k := k) hk
  refine ⟨fun t ht => ?_, ?_, fun j a b => ?_, ?_, ?_, fun x hx => ?_⟩
  · rw [tl_cg (A' := rdA A s p c) (A := A) (by rw [r 2 (by decide)]) (by rw [r 2 (by decide)]), r t (by omega)]
    exact h1 t ht
  · rw [r 3 (by decide)]
    exact h2
  · by_cases e : p * 24 ≤ j ∧ j < p * 24 + c
    · have e2 : rdA A s p c 4 j = A (9 + s) (j - p * 24) := if_pos ⟨rfl, e⟩
      rw [e2]
      have := hi (j - p * 24) (by omega) (by omega)
      omega
    · have e2 : rdA A s p c 4 j = A 4 j := if_neg (fun q => e q.2)
      rw [e2]
      exact h3 j a b
  · rw [r 2 (by decide)]
    exact h4
  · rw [r 2 (by decide), r 5 (by decide), r 6 (by decide)]
    exact h5
  · rw [r 7 (by decide), r 8 (by decide)]
    exact h6 x hx
def T_X5_read : Tr := tM2 s_read
theorem ok_X5_read : oh_Ok (pg_X5_read T_X5_isSheet T_X5_isBody T_X5_finds T_X5_worth) 4 T_X5_read := by
  refine tO2_ok fun n s p μ Post G hG hn hs hp hM h => ?_
  obtain rfl := n22 hn
  obtain ⟨A, hV, hR, h⟩ := h
  have hbad : ¬ (0 ≤ s ∧ s < 4) ∨ ¬ (0 ≤ p ∧ p < 6) → Post (some (oI (-2))) μ := fun x => by
    have e : s_read A s p = (-2, A) := if_pos x
    rw [e] at h
    exact h μ hR FrM_rf
  refine oh_go hG [(34, 4)] 60 ?_
  refine And.intro ?_ trivial
  refine And.intro (fun x => ?_) (fun x => ⟨fun _ => hbad (by omega), fun y => absurd rfl y⟩)
  refine And.intro (fun y => absurd y (by decide)) (fun _ => ?_)
  refine And.intro ?_ trivial
  refine And.intro (fun z => ?_) (fun z => ⟨fun y => absurd rfl y, fun _ => hbad (by omega)⟩)
  refine And.intro (fun _ => ?_) (fun y => absurd (by decide) y)
  have e : s_read A s p = if A 8 s = -1 then (-11, fndA A 1) else (rdN A s, rdA A s.toNat p (rdN A s)) := if_neg (by omega)
  rw [e] at h
  obtain ⟨s1, s2, s3⟩ := sh_at hV hR (s := s) (by omega)
  refine And.intro (by omega) ?_
  refine And.intro (fun q => ?_) (fun q => ?_)
  · have hz : ¬ A 8 s = -1 := fun z => absurd (s2 z) (by omega)
    obtain ⟨a1, a2, a3, a4⟩ := s3 hz
    rw [if_neg hz] at h
    dsimp only at h
    unfold rdN at h
    generalize hm : min (A 8 s) 24 = m at *
    have key : ∀ (k : Nat) (c : Int) (μ1 : Mem), 0 ≤ c → c + k = m → (∀ j, 0 ≤ j → j < c → 0 ≤ A (9 + s.toNat) j ∧ A (9 + s.toNat) j < 10) → RepM (rdA A s.toNat p c) μ1 → FrM μ μ1 → rdc (A (9 + s.toNat)) k c = rdc (A (9 + s.toNat)) m.toNat 0 → G 34 [some (oR 22 0), some (oI s), some (oI p), some (oI c)] [] μ1 := by
      intro k
      have pre : ∀ (c : Int) (μ1 : Mem), 0 ≤ c → c ≤ m → (∀ j, 0 ≤ j → j < c → 0 ≤ A (9 + s.toNat) j ∧ A (9 + s.toNat) j < 10) → RepM (rdA A s.toNat p c) μ1 → FrM μ μ1 → (c < A 8 s ∧ (c < 24 ∧ 0 ≤ A (9 + s.toNat) c ∧ A (9 + s.toNat) c < 10) → ∀ μ2, RepM (rdA A s.toNat p (c + 1)) μ2 → FrM μ μ2 → G 34 [some (oR 22 0), some (oI s), some (oI p), some (oI (c + 1))] [] μ2) → (¬ (c < A 8 s ∧ (c < 24 ∧ 0 ≤ A (9 + s.toNat) c ∧ A (9 + s.toNat) c < 10)) → c = rdc (A (9 + s.toNat)) m.toNat 0) → G 34 [some (oR 22 0), some (oI s), some (oI p), some (oI c)] [] μ1 := fun c μ1 h0 h1 hi g1 g2 hgo hst => by
        have hV1 := rdA_val (s := s.toNat) (p := p) hV hi
        have hsh := (sh_at hV1 g1 (s := s) (by omega)).2.2
        rw [rdA_r (k := 8) (by decide), rdA_r (k := 7) (by decide), rdA_r (k := 9 + s.toNat) (by omega)] at hsh
        obtain ⟨b1, b2, b3, b4⟩ := hsh hz
        have fin : ¬ (c < A 8 s ∧ (c < 24 ∧ 0 ≤ A (9 + s.toNat) c ∧ A (9 + s.toNat) c < 10)) → ∀ μ2, RepM (rdA A s.toNat p c) μ2 → FrM μ1 μ2 → Post (some (oI c)) μ2 := fun hn μ2 k1 k2 => by
          have e := hst hn
          rw [← e] at h
          exact h μ2 k1 (FrM_tr g2 k2)
        refine oh_go hG [(34, 4)] 40 ?_
        refine And.intro (by omega) ?_
        rw [b3]
        refine And.intro (fun w => fin (by omega) μ1 g1 FrM_rf) (fun w => ?_)
        refine And.intro (by omega) ?_
        refine And.intro (by omega) ?_
        refine And.intro (by omega) ?_
        rw [b4 c h0 (by omega)]
        by_cases hc : c < 24 ∧ 0 ≤ A (9 + s.toNat) c ∧ A (9 + s.toNat) c < 10
        · have ew : s_worth (rdA A s.toNat p c) p c (A (9 + s.toNat) c) = (rdA A s.toNat p c 4 (p * 24 + c), up2 (rdA A s.toNat p c) 4 (p * 24 + c) (A (9 + s.toNat) c)) := if_neg (by omega)
          refine And.intro ⟨rdA A s.toNat p c, hV1, g1, fun μ2 k1 k2 => ?_⟩ trivial
          rw [ew] at k1 ⊢
          have k1 : RepM (up2 (rdA A s.toNat p c) 4 (p * 24 + c) (A (9 + s.toNat) c)) μ2 := k1
          rw [← rdA_s h0] at k1
          have hw := hV1.2.2.1 (p * 24 + c) (by omega) (by omega)
          refine And.intro (fun v => absurd v (by show ¬ rdA A s.toNat p c 4 (p * 24 + c) < 0; omega)) (fun _ => ?_)
          refine And.intro (by omega) ?_
          exact hgo ⟨by omega, hc⟩ μ2 k1 (FrM_tr g2 k2)
        · have ew : s_worth (rdA A s.toNat p c) p c (A (9 + s.toNat) c) = (-2, rdA A s.toNat p c) := if_pos (by omega)
          refine And.intro ⟨rdA A s.toNat p c, hV1, g1, fun μ2 k1 k2 => ?_⟩ trivial
          rw [ew] at k1 ⊢
          refine And.intro (fun _ => fin (fun z => hc z.2) μ2 k1 k2) (fun v => absurd (show (-2 : Int) < 0 by decide) v)
      induction k with
      | zero =>
        intro c μ1 h0 h1 hi g1 g2 he
        exact pre c μ1 h0 (by omega) hi g1 g2 (fun v => by omega) (fun _ => he)
      | succ k ih =>
        intro c μ1 h0 h1 hi g1 g2 he
        have he : (if 0 ≤ A (9 + s.toNat) c ∧ A (9 + s.toNat) c < 10 then rdc (A (9 + s.toNat)) k (c + 1) else c) = rdc (A (9 + s.toNat)) m.toNat 0 := he
        refine pre c μ1 h0 (by omega) hi g1 g2 (fun v μ2 k1 k2 => ?_) (fun v => ?_)
        · rw [if_pos v.2.2] at he
          refine ih (c + 1) μ2 (by omega) (by omega) (fun j a b => ?_) k1 k2 he
          by_cases e : j = c
          · rw [e]
            exact v.2.2
          · exact hi j a (by omega)
        · rw [if_neg (fun w => v ⟨by omega, by omega, w⟩)] at he
          exact he
    exact key m.toNat 0 μ (by omega) (by omega) (fun j a b => absurd b (by omega)) (by rw [rdA_0]; exact hR) FrM_rf rfl
  · have hz : A 8 s = -1 := Classical.byContradiction fun z => by
      have := s3 z
      omega
    rw [if_pos hz] at h
    exact ⟨⟨by omega, h _ (RepM_fnd 1 hR) (FrM_up (by decide))⟩, trivial⟩
