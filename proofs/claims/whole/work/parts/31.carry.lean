/-! READ a sheet into worths, WRITE who acts into a sheet -/
def rdc (f : Int → Int) : Nat → Int → Int
  | 0, c => c
  | k + 1, c => if 0 ≤ f c ∧ f c < 10 then rdc f k (c + 1) else c
def rdA (A : Ab) (s : Nat) (p n : Int) : Ab := fun k c => if k = 4 ∧ p * 24 ≤ c ∧ c < p * 24 + n then A (9 + s) (c - p * 24) else A k c
def rdN (A : Ab) (s : Int) : Int := rdc (A (9 + s.toNat)) (min (A 8 s) 24).toNat 0
def s_read (A : Ab) (s p : Int) : Int × Ab := if ¬ (0 ≤ s ∧ s < 4) ∨ ¬ (0 ≤ p ∧ p < 6) then (-2, A) else if A 8 s = -1 then (-11, fndA A 1) else (rdN A s, rdA A s.toNat p (rdN A s))
def T_X4_read : Tr := tC2 s_read
theorem ok_X4_read : oh_Ok (pg_X4_read T_X4_isBelow T_X2_isLost T_X4_found T_J9_min_7cf53 T_X4_cell) 6 T_X4_read := by
  refine tO2_ok fun n s p μ Post G hG hn hs hp hM h => ?_
  obtain rfl := n13 hn
  obtain ⟨A, hR, h⟩ := h
  have hbad : ¬ (0 ≤ s ∧ s < 4) ∨ ¬ (0 ≤ p ∧ p < 6) → Post (some (oI (-2))) μ := fun x => by
    have e : s_read A s p = (-2, A) := if_pos x
    rw [e] at h
    exact h μ hR FrC_rf
  refine oh_go hG [(54, 6)] 60 ?_
  refine And.intro ?_ trivial
  refine And.intro (fun x => ?_) (fun x => ⟨fun _ => hbad (Or.inl x), fun y => absurd rfl y⟩)
  refine And.intro (fun y => absurd y (by decide)) (fun _ => ?_)
  refine And.intro ?_ trivial
  refine And.intro (fun z => ?_) (fun z => ⟨fun y => absurd rfl y, fun _ => hbad (Or.inr z)⟩)
  refine And.intro (fun _ => ?_) (fun y => absurd (by decide) y)
  have e : s_read A s p = if A 8 s = -1 then (-11, fndA A 1) else (rdN A s, rdA A s.toNat p (rdN A s)) := if_neg (by omega)
  rw [e] at h
  obtain ⟨s1, s2, s3, s4⟩ := RepS_at hR x
  refine And.intro (by omega) ?_
  refine And.intro ?_ trivial
  refine And.intro (fun y => ?_) (fun y => ?_)
  · rw [s1] at y
    rw [if_pos y] at h
    refine And.intro (fun w => absurd w (by decide)) (fun _ => ?_)
    exact ⟨⟨by omega, h _ (RepC_fnd 1 hR) (FrC_up (by decide))⟩, trivial⟩
  · rw [s1] at y
    rw [if_neg y] at h
    dsimp only at h
    unfold rdN at h
    have h5 := hR.1.2.2.2.2.1
    refine And.intro (fun _ => ?_) (fun w => absurd rfl w)
    refine And.intro ?_ trivial
    show G 54 [some (oR 13 0), some (oI s), some (oI p), some (oR 9 s.toNat), some (oI (min (μ 9 s.toNat 2) 24)), some (oI 0)] [] μ
    rw [s1]
    generalize hm : min (A 8 s) 24 = m at *
    have key : ∀ (k : Nat) (c : Int) (μ1 : Mem), 0 ≤ c → c + k = m → (∀ j, 0 ≤ j → j < c → 0 ≤ A (9 + s.toNat) j ∧ A (9 + s.toNat) j < 10) → (∀ s n, ¬ (s = 16 ∧ n = 0) → μ1 s n = μ s n) → (∀ j, μ1 16 0 j = rdA A s.toNat p c 4 j) → rdc (A (9 + s.toNat)) k c = rdc (A (9 + s.toNat)) m.toNat 0 → G 54 [some (oR 13 0), some (oI s), some (oI p), some (oR 9 s.toNat), some (oI m), some (oI c)] [] μ1 := by
      intro k
      have fin : ∀ (c : Int) (μ1 : Mem), 0 ≤ c → c ≤ m → (∀ j, 0 ≤ j → j < c → 0 ≤ A (9 + s.toNat) j ∧ A (9 + s.toNat) j < 10) → (∀ s n, ¬ (s = 16 ∧ n = 0) → μ1 s n = μ s n) → (∀ j, μ1 16 0 j = rdA A s.toNat p c 4 j) → c = rdc (A (9 + s.toNat)) m.toNat 0 → Post (some (oI c)) μ1 := fun c μ1 h0 h1 hi hk hw he => by
        rw [← he] at h
        refine h μ1 (RepC_w hR (fun i hi4 => funext fun j => if_neg (fun q => hi4 q.1)) hk (funext hw) (fun j a b => ?_)) (fun s n hs => hk s n (by omega))
        by_cases e : p * 24 ≤ j ∧ j < p * 24 + c
        · have e2 : rdA A s.toNat p c 4 j = A (9 + s.toNat) (j - p * 24) := if_pos ⟨rfl, e⟩
          rw [e2]
          have := hi (j - p * 24) (by omega) (by omega)
          omega
        · have e2 : rdA A s.toNat p c 4 j = A 4 j := if_neg (fun q => e q.2)
          rw [e2]
          exact h5.2 j a b
      induction k with
      | zero =>
        intro c μ1 h0 h1 hi hk hw he
        refine oh_go hG [(54, 6)] 40 ?_
        refine And.intro (fun _ => fin c μ1 h0 (by omega) hi hk hw he) (fun q => absurd q (by omega))
      | succ k ih =>
        intro c μ1 h0 h1 hi hk hw he
        have he : (if 0 ≤ A (9 + s.toNat) c ∧ A (9 + s.toNat) c < 10 then rdc (A (9 + s.toNat)) k (c + 1) else c) = rdc (A (9 + s.toNat)) m.toNat 0 := he
        have e10 : μ1 10 s.toNat = A (9 + s.toNat) := by rw [hk 10 s.toNat (by omega), s4]
        refine oh_go hG [(54, 6)] 40 ?_
        refine And.intro (fun q => absurd q (by omega)) (fun _ => ?_)
        refine And.intro (by omega) ?_
        rw [e10]
        refine And.intro ?_ trivial
        refine And.intro (fun q => ?_) (fun q => ?_)
        · rw [if_pos q] at he
          refine And.intro (fun w => absurd w (by decide)) (fun _ => ?_)
          refine And.intro ⟨by omega, ?_⟩ trivial
          refine And.intro (by omega) ?_
          rw [e10]
          refine And.intro (by omega) ?_
          refine And.intro (by omega) ?_
          refine ih (c + 1) _ (by omega) (by omega) (fun j a b => ?_) (fun s' n' hs' => ?_) (fun j => ?_) he
          · by_cases e : j = c
            · rw [e]
              exact q
            · exact hi j a (by omega)
          · rw [← hk s' n' hs']
            exact funext fun j => oh_up_o (fun w => hs' ⟨w.1, w.2.1⟩)
          · by_cases e : j = p * 24 + c
            · rw [e, oh_up_s]
              have e2 : rdA A s.toNat p (c + 1) 4 (p * 24 + c) = A (9 + s.toNat) (p * 24 + c - p * 24) := if_pos ⟨rfl, by omega, by omega⟩
              have e3 : p * 24 + c - p * 24 = c := by omega
              rw [e2, e3]
            · rw [oh_up_o (fun w => e w.2.2), hw]
              unfold rdA
              by_cases e2 : p * 24 ≤ j ∧ j < p * 24 + c
              · rw [if_pos ⟨rfl, e2⟩, if_pos ⟨rfl, by omega, by omega⟩]
              · rw [if_neg (fun w => e2 w.2), if_neg (fun w => e2 (by omega))]
        · rw [if_neg q] at he
          refine And.intro (fun _ => fin c μ1 h0 (by omega) hi hk hw he) (fun w => absurd rfl w)
    exact key m.toNat 0 μ (by omega) (by omega) (fun j a b => absurd b (by omega)) (fun _ _ _ => rfl) (fun j => by
      have e2 : rdA A s.toNat p 0 4 j = A 4 j := if_neg (by omega)
      rw [e2, h5.1]) rfl
noncomputable def wrA (A : Ab) (b : Int) (s : Nat) (n : Int) : Ab := fun k j => if k = 9 + s ∧ 0 ≤ j ∧ j < n then oh_cut (A 7 s) (an A b j) else A k j
noncomputable def s_write (A : Ab) (b s : Int) : Int × Ab := if ¬ (0 ≤ b ∧ b < 6) ∨ ¬ (0 ≤ s ∧ s < 4) then (-2, A) else if A 8 s = -1 then (-11, fndA A 1) else (min (A 8 s) 24, wrA A b s.toNat (min (A 8 s) 24))
def T_X4_write : Tr := tC2 s_write
theorem ok_X4_write : oh_Ok (pg_X4_write T_X4_isBelow T_X2_isLost T_X4_found T_X4_dayBy T_J9_min_7cf53 T_X4_cell T_X2_put) 7 T_X4_write := by
  refine tO2_ok fun n b s μ Post G hG hn hb hs hM h => ?_
  obtain rfl := n13 hn
  obtain ⟨A, hR, h⟩ := h
  have hbad : ¬ (0 ≤ b ∧ b < 6) ∨ ¬ (0 ≤ s ∧ s < 4) → Post (some (oI (-2))) μ := fun x => by
    have e : s_write A b s = (-2, A) := if_pos x
    rw [e] at h
    exact h μ hR FrC_rf
  refine oh_go hG [(64, 7)] 60 ?_
  refine And.intro ?_ trivial
  refine And.intro (fun x => ?_) (fun x => ⟨fun _ => hbad (Or.inl x), fun y => absurd rfl y⟩)
  refine And.intro (fun y => absurd y (by decide)) (fun _ => ?_)
  refine And.intro ?_ trivial
  refine And.intro (fun z => ?_) (fun z => ⟨fun y => absurd rfl y, fun _ => hbad (Or.inr z)⟩)
  refine And.intro (fun _ => ?_) (fun y => absurd (by decide) y)
  have e : s_write A b s = if A 8 s = -1 then (-11, fndA A 1) else (min (A 8 s) 24, wrA A b s.toNat (min (A 8 s) 24)) := if_neg (by omega)
  rw [e] at h
  obtain ⟨s1, s2, s3, s4⟩ := RepS_at hR z
  refine And.intro (by omega) ?_
  refine And.intro ?_ trivial
  refine And.intro (fun y => ?_) (fun y => ?_)
  · rw [s1] at y
    rw [if_pos y] at h
    refine And.intro (fun w => absurd w (by decide)) (fun _ => ?_)
    exact ⟨⟨by omega, h _ (RepC_fnd 1 hR) (FrC_up (by decide))⟩, trivial⟩
  · rw [s1] at y
    rw [if_neg y] at h
    dsimp only at h
    have es : ((s.toNat : Nat) : Int) = s := by omega
    refine And.intro (fun _ => ?_) (fun w => absurd rfl w)
    refine And.intro (T_day hR (fun μ1 g1 g2 g3 => ?_)) trivial
    obtain ⟨q1, q2, q3, q4⟩ := RepS_at g1 z
    refine And.intro ?_ trivial
    show G 64 [some (oR 13 0), some (oI b), some (oI s), some (oR 9 s.toNat), some (oR 0 (A 2 2).toNat), some (oI (min (μ1 9 s.toNat 2) 24)), some (oI 0)] [] μ1
    rw [q1]
    generalize hm : min (A 8 s) 24 = m at *
    have key : ∀ c, 0 ≤ c → c ≤ m → ∀ μ2 : Mem, (∀ s' n', ¬ (s' = 10 ∧ n' = s.toNat) → μ2 s' n' = μ1 s' n') → (∀ j, μ2 10 s.toNat j = wrA A b s.toNat c (9 + s.toNat) j) → G 64 [some (oR 13 0), some (oI b), some (oI s), some (oR 9 s.toNat), some (oR 0 (A 2 2).toNat), some (oI m), some (oI c)] [] μ2 := by
      refine oh_for (F := fun c => 0 ≤ c → c ≤ m → ∀ μ2 : Mem, (∀ s' n', ¬ (s' = 10 ∧ n' = s.toNat) → μ2 s' n' = μ1 s' n') → (∀ j, μ2 10 s.toNat j = wrA A b s.toNat c (9 + s.toNat) j) → G 64 [some (oR 13 0), some (oI b), some (oI s), some (oR 9 s.toNat), some (oR 0 (A 2 2).toNat), some (oI m), some (oI c)] [] μ2) m ?_ ?_
      · intro c hc h0 h1 μ2 k1 k2
        have e : c = m := by omega
        subst e
        refine oh_go hG [(64, 7)] 40 ?_
        refine And.intro (fun _ => ?_) (fun q => absurd hc q)
        have ea : ∀ i, ¬ i = 9 + s.toNat → wrA A b s.toNat c i = A i := fun i hi => funext fun j => if_neg (fun q => hi q.1)
        refine h μ2 (RepC_s (k := s.toNat) g1 (by omega) (fun i i7 i8 i9 => ea i i9) (fun j hj => by rw [ea 7 (by omega)]) (fun j hj => by rw [ea 8 (by omega)]) (fun s' n' hs' => k1 s' n' (by omega)) ⟨?_, ?_, fun w => ?_, funext k2⟩) (FrC_tr g2 (fun s' n' hs' => k1 s' n' (by omega)))
        · rw [ea 8 (by omega), k1 9 s.toNat (by omega), es]
          exact q1
        · rw [ea 8 (by omega), es]
          exact q2
        · rw [ea 7 (by omega), k1 9 s.toNat (by omega), es]
          exact q3 y
      · intro c hc ih h0 h1 μ2 k1 k2
        have ih := ih (by omega) (by omega)
        refine oh_go hG [(64, 7)] 40 ?_
        refine And.intro (fun q => absurd q (by omega)) (fun _ => ?_)
        refine And.intro ⟨by omega, ?_⟩ trivial
        refine And.intro (by omega) ?_
        rw [k1 1 (A 2 2).toNat (by omega), fr_act g1 g3 (by omega) (by omega)]
        refine And.intro ⟨by omega, ?_⟩ trivial
        refine And.intro (by omega) ?_
        refine ih _ (fun s' n' hs' => ?_) (fun j => ?_)
        · rw [← k1 s' n' hs']
          exact funext fun j => oh_up_o (fun w => hs' ⟨w.1, w.2.1⟩)
        · by_cases e : j = c
          · have e2 : wrA A b s.toNat (c + 1) (9 + s.toNat) c = oh_cut (A 7 s.toNat) (an A b c) := if_pos ⟨rfl, by omega, by omega⟩
            rw [e, oh_up_s, e2, k1 9 s.toNat (by omega), (q3 y).1, es]
          · rw [oh_up_o (fun w => e w.2.2), k2]
            unfold wrA
            by_cases e2 : 0 ≤ j ∧ j < c
            · rw [if_pos ⟨rfl, e2⟩, if_pos ⟨rfl, by omega, by omega⟩]
            · rw [if_neg (fun w => e2 w.2), if_neg (fun w => e2 (by omega))]
    exact key 0 (by omega) (by omega) μ1 (fun _ _ _ => rfl) (fun j => by
      have e2 : wrA A b s.toNat 0 (9 + s.toNat) j = A (9 + s.toNat) j := if_neg (by omega)
      rw [e2, q4])
