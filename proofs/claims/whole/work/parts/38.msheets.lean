/-! THE MODEL: sheets -/
theorem RepM_sh {A A' : Ab} {μ μ' : Mem} {k : Nat} (hk : k < 4) (hV : ValA A) (h : RepM A μ) (ea : ∀ i, ¬ i = 7 → ¬ i = 8 → ¬ i = 9 + k → A' i = A i) (e7 : ∀ j, ¬ j = (k : Int) → A' 7 j = A 7 j) (e8 : ∀ j, ¬ j = (k : Int) → A' 8 j = A 8 j)
    (hm : ∀ (s m : Nat) (j : Int), ¬ ((s = 23 ∨ s = 24) ∧ j = k) → ¬ (s = 25 ∧ 60 * (k : Int) ≤ j ∧ j < 60 * (k : Int) + 60) → ¬ s = 26 → μ' s m j = μ s m j)
    (hs : (A' 8 k = -1 → μ' 23 0 k = -1) ∧ (¬ A' 8 k = -1 → μ' 23 0 k = A' 7 k ∧ μ' 24 0 k = A' 8 k ∧ ∀ j, 0 ≤ j → j < A' 8 k → μ' 25 0 (60 * k + j) = A' (9 + k) j)) : RepM A' μ' := by
  obtain ⟨h1, h2, h3, h4, h5, h6, h7⟩ := h
  have hrow : ∀ s m, ¬ (s = 23 ∨ s = 24 ∨ s = 25 ∨ s = 26) → μ' s m = μ s m := fun s m hs => funext fun j => hm s m j (by omega) (by omega) (by omega)
  have e2 : A' 2 = A 2 := ea 2 (by decide) (by decide) (by omega)
  refine ⟨RMh_cg h1 (by rw [e2]; exact ⟨rfl, rfl, rfl⟩) (hrow _ _ (by omega)), RMt_cg h2 (ea 0 (by decide) (by decide) (by omega)) (ea 1 (by decide) (by decide) (by omega)) (by rw [e2]) (by rw [e2]) (hrow _ _ (by omega)) (hrow _ _ (by omega)), RMo_cg h3 (ea 3 (by decide) (by decide) (by omega)) (hrow _ _ (by omega)), RMw_cg h4 (ea 4 (by decide) (by decide) (by omega)) (hrow _ _ (by omega)), RMv_cg h5 (by rw [e2]) (ea 5 (by decide) (by decide) (by omega)) (ea 6 (by decide) (by decide) (by omega)) (hrow _ _ (by omega)), fun s hs4 => ?_, by rw [hrow _ _ (by omega)]; exact h7⟩
  by_cases e : s = k
  · rw [e]
    exact hs
  · rw [e7 s (by omega), e8 s (by omega), ea (9 + s) (by omega) (by omega) (by omega), hm 23 0 s (by omega) (by omega) (by omega), hm 24 0 s (by omega) (by omega) (by omega)]
    refine ⟨(h6 s hs4).1, fun z => ⟨((h6 s hs4).2 z).1, ((h6 s hs4).2 z).2.1, fun j a b => ?_⟩⟩
    have hz := (hV.2.2.2.2.2 s hs4).1.2
    rw [hm 25 0 (60 * s + j) (by omega) (by omega) (by omega)]
    exact ((h6 s hs4).2 z).2.2 j a b
theorem sh_at {A : Ab} {μ : Mem} (hV : ValA A) (h : RepM A μ) {s : Int} (hs : 0 ≤ s ∧ s < 4) : (-1 ≤ A 8 s ∧ A 8 s ≤ 60) ∧ (A 8 s = -1 → μ 23 0 s = -1) ∧ (¬ A 8 s = -1 → μ 23 0 s = A 7 s ∧ (0 ≤ A 7 s ∧ A 7 s ≤ 2) ∧ μ 24 0 s = A 8 s ∧ ∀ j, 0 ≤ j → j < A 8 s → μ 25 0 (60 * s + j) = A (9 + s.toNat) j) := by
  have es : ((s.toNat : Nat) : Int) = s := by omega
  have h1 := hV.2.2.2.2.2 s.toNat (by omega)
  have h2 := h.2.2.2.2.2.1 s.toNat (by omega)
  rw [es] at h1 h2
  exact ⟨h1.1, h2.1, fun z => ⟨(h2.2 z).1, h1.2 z, (h2.2 z).2.1, (h2.2 z).2.2⟩⟩
def T_X5_lose : Tr := tM1 s_lose
theorem ok_X5_lose : oh_Ok (pg_X5_lose T_X5_isSheet T_X5_finds) 2 T_X5_lose := by
  refine tO1_ok fun n s μ Post G hG hn hs hM h => ?_
  obtain rfl := n22 hn
  obtain ⟨A, hV, hR, h⟩ := h
  refine oh_go hG [] 60 ?_
  refine And.intro ?_ trivial
  refine And.intro (fun x => ⟨fun _ => ?_, fun y => absurd (by decide) y⟩) (fun x => ⟨fun y => absurd rfl y, fun _ => ?_⟩)
  · have e : s_lose A s = if A 8 s = -1 then (-11, fndA A 1) else (A 8 s, up2 A 8 s (-1)) := if_neg (by omega)
    rw [e] at h
    obtain ⟨s1, s2, s3⟩ := sh_at hV hR (s := s) (by omega)
    have es : ((s.toNat : Nat) : Int) = s := by omega
    refine And.intro (by omega) ?_
    refine And.intro (fun q => ?_) (fun q => ?_)
    · have hz : ¬ A 8 s = -1 := fun z => absurd (s2 z) (by omega)
      rw [if_neg hz] at h
      dsimp only at h
      obtain ⟨t1, t2, t3, t4⟩ := s3 hz
      refine And.intro (by omega) ?_
      refine And.intro (by omega) ?_
      show Post (some (oI (oh_up μ 23 0 s (-1) 24 0 s))) (oh_up μ 23 0 s (-1))
      rw [oh_up_o (by omega), t3]
      refine h _ (RepM_sh (k := s.toNat) (by omega) hV hR (fun i i7 i8 i9 => up2_r i8) (fun j hj => by rw [up2_r (by decide)]) (fun j hj => up2_o (fun q => by omega)) (fun s' m j j1 j2 j3 => oh_up_o (fun q => j1 ⟨by omega, by omega⟩)) ⟨fun _ => ?_, fun z => ?_⟩) (FrM_up (by decide))
      · rw [es, oh_up_s]
      · rw [es, up2_s] at z
        exact absurd rfl z
    · have hz : A 8 s = -1 := Classical.byContradiction fun z => by
        have := s3 z
        omega
      rw [if_pos hz] at h
      exact ⟨⟨by omega, h _ (RepM_fnd 1 hR) (FrM_up (by decide))⟩, trivial⟩
  · have e : s_lose A s = (-2, A) := if_pos (by omega)
    rw [e] at h
    exact h μ hR FrM_rf
def T_X5_lacks : Tr := tO3 22 fun n s f i μ Post => ∃ A, ValA A ∧ RepM A μ ∧ (0 ≤ s ∧ s < 4) ∧ (oh_fnd (A 8 s) (A 7 s) f i = 0 → Post (some (oI 0)) μ) ∧ (¬ oh_fnd (A 8 s) (A 7 s) f i = 0 → Post (some (oI (-10 - oh_fnd (A 8 s) (A 7 s) f i))) (oh_up μ 22 0 4 (oh_fnd (A 8 s) (A 7 s) f i)))
theorem ok_X5_lacks : oh_Ok (pg_X5_lacks T_X5_finds T_X5_in) 4 T_X5_lacks := by
  refine tO3_ok fun n s f i μ Post G hG hn hs hf hi hM h => ?_
  obtain rfl := n22 hn
  obtain ⟨A, hV, hR, hs4, h1, h2⟩ := h
  obtain ⟨s1, s2, s3⟩ := sh_at hV hR (s := s) hs4
  refine oh_go hG [] 60 ?_
  refine And.intro (by omega) ?_
  refine And.intro (fun q => ?_) (fun q => ?_)
  · have hz : ¬ A 8 s = -1 := fun z => absurd (s2 z) (by omega)
    obtain ⟨t1, t2, t3, t4⟩ := s3 hz
    refine And.intro (by omega) ?_
    rw [t1]
    refine And.intro (fun w => ?_) (fun w => ?_)
    · refine And.intro (by omega) ?_
      rw [t3]
      refine And.intro (by omega) ?_
      refine And.intro ?_ trivial
      refine And.intro (fun v => ?_) (fun v => ?_)
      · have v : 0 ≤ i ∧ i ≤ A 8 s - 1 := v
        refine And.intro (fun y => absurd y (by decide)) (fun _ => h1 ?_)
        unfold oh_fnd
        rw [if_neg hz, if_neg (not_not_intro w), if_pos (by omega)]
      · have v : ¬ (0 ≤ i ∧ i ≤ A 8 s - 1) := v
        have e : oh_fnd (A 8 s) (A 7 s) f i = 2 := by
          unfold oh_fnd
          rw [if_neg hz, if_neg (not_not_intro w), if_neg (by omega)]
        rw [e] at h2
        refine And.intro (fun _ => ?_) (fun y => absurd rfl y)
        exact ⟨⟨by omega, h2 (by decide)⟩, trivial⟩
    · have e : oh_fnd (A 8 s) (A 7 s) f i = 3 := by
        unfold oh_fnd
        rw [if_neg hz, if_pos w]
      rw [e] at h2
      exact ⟨⟨by omega, h2 (by decide)⟩, trivial⟩
  · have hz : A 8 s = -1 := Classical.byContradiction fun z => by
      have := s3 z
      omega
    have e : oh_fnd (A 8 s) (A 7 s) f i = 1 := by
      unfold oh_fnd
      rw [if_pos hz]
    rw [e] at h2
    exact ⟨⟨by omega, h2 (by decide)⟩, trivial⟩
def T_X5_get : Tr := tM3 s_get
theorem ok_X5_get : oh_Ok (pg_X5_get T_X5_isSheet T_X5_in T_X5_lacks) 4 T_X5_get := by
  refine tO3_ok fun n s f i μ Post G hG hn hs hf hi hM h => ?_
  obtain rfl := n22 hn
  obtain ⟨A, hV, hR, h⟩ := h
  have hbad : ¬ (0 ≤ s ∧ s < 4) ∨ ¬ (0 ≤ f ∧ f < 3) → Post (some (oI (-2147483648))) μ := fun x => by
    have e : s_get A s f i = (-2147483648, A) := if_pos x
    rw [e] at h
    exact h μ hR FrM_rf
  refine oh_go hG [] 60 ?_
  refine And.intro ?_ trivial
  refine And.intro (fun x => ?_) (fun x => ⟨fun _ => hbad (by omega), fun y => absurd rfl y⟩)
  refine And.intro (fun y => absurd y (by decide)) (fun _ => ?_)
  refine And.intro ?_ trivial
  refine And.intro (fun z => ?_) (fun z => ⟨fun _ => hbad (by omega), fun y => absurd rfl y⟩)
  have z : 0 ≤ f ∧ f ≤ 2 := z
  refine And.intro (fun y => absurd y (by decide)) (fun _ => ?_)
  have e : s_get A s f i = if ¬ oh_fnd (A 8 s) (A 7 s) f i = 0 then (-2147483648, fndA A (oh_fnd (A 8 s) (A 7 s) f i)) else (A (9 + s.toNat) i, A) := if_neg (by omega)
  rw [e] at h
  have hr := fnd_rg (A 8 s) (A 7 s) f i
  refine And.intro ⟨A, hV, hR, by omega, fun y => ?_, fun y => ?_⟩ trivial
  · rw [if_neg (not_not_intro y)] at h
    obtain ⟨b1, b2, b3⟩ := fnd_0 y
    obtain ⟨s1, s2, s3⟩ := sh_at hV hR (s := s) (by omega)
    refine And.intro (fun _ => ?_) (fun w => absurd rfl w)
    refine And.intro (by omega) ?_
    refine And.intro (by omega) ?_
    refine And.intro (by omega) ?_
    rw [(s3 b1).2.2.2 i b3.1 b3.2]
    exact h μ hR FrM_rf
  · rw [if_pos y] at h
    refine And.intro (fun w => absurd w (by omega)) (fun _ => ?_)
    exact h _ (RepM_fnd _ hR) (FrM_up (by decide))
def T_X5_lay : Tr := tM4 s_lay
theorem ok_X5_lay : oh_Ok (pg_X5_lay T_X5_isSheet T_X5_in T_X5_lacks T_X5_cut) 6 T_X5_lay := by
  refine tO4_ok fun n s f i v μ Post G hG hn hs hf hi hv hM h => ?_
  obtain rfl := n22 hn
  obtain ⟨A, hV, hR, h⟩ := h
  have hbad : ¬ (0 ≤ s ∧ s < 4) ∨ ¬ (0 ≤ f ∧ f < 3) → Post (some (oI (-2))) μ := fun x => by
    have e : s_lay A s f i v = (-2, A) := if_pos x
    rw [e] at h
    exact h μ hR FrM_rf
  refine oh_go hG [] 60 ?_
  refine And.intro ?_ trivial
  refine And.intro (fun x => ?_) (fun x => ⟨fun _ => hbad (by omega), fun y => absurd rfl y⟩)
  refine And.intro (fun y => absurd y (by decide)) (fun _ => ?_)
  refine And.intro ?_ trivial
  refine And.intro (fun z => ?_) (fun z => ⟨fun y => absurd rfl y, fun _ => hbad (by omega)⟩)
  have z : 0 ≤ f ∧ f ≤ 2 := z
  refine And.intro (fun _ => ?_) (fun y => absurd (by decide) y)
  have e : s_lay A s f i v = if ¬ oh_fnd (A 8 s) (A 7 s) f i = 0 then (-10 - oh_fnd (A 8 s) (A 7 s) f i, fndA A (oh_fnd (A 8 s) (A 7 s) f i)) else (1, up2 A (9 + s.toNat) i (oh_cut (A 7 s) v)) := if_neg (by omega)
  rw [e] at h
  have hr := fnd_rg (A 8 s) (A 7 s) f i
  have es : ((s.toNat : Nat) : Int) = s := by omega
  refine And.intro ⟨A, hV, hR, by omega, fun y => ?_, fun y => ?_⟩ trivial
  · rw [if_neg (not_not_intro y)] at h
    dsimp only at h
    obtain ⟨b1, b2, b3⟩ := fnd_0 y
    obtain ⟨s1, s2, s3⟩ := sh_at hV hR (s := s) (by omega)
    obtain ⟨t1, t2, t3, t4⟩ := s3 b1
    refine And.intro (fun _ => ?_) (fun w => absurd rfl w)
    refine And.intro (by omega) ?_
    refine And.intro (by omega) ?_
    refine And.intro ?_ trivial
    refine And.intro (by omega) ?_
    rw [b2] at h
    refine h _ (RepM_sh (k := s.toNat) (by omega) hV hR (fun i i7 i8 i9 => up2_r i9) (fun j hj => by rw [up2_r (by omega)]) (fun j hj => by rw [up2_r (by omega)]) (fun s' m j j1 j2 j3 => oh_up_o (fun q => j2 ⟨q.1, by omega, by omega⟩)) ⟨fun w => ?_, fun w => ⟨?_, ?_, fun j a b => ?_⟩⟩) (FrM_up (by decide))
    · rw [up2_r (by omega), es] at w
      exact absurd w b1
    · rw [up2_r (by omega), es, oh_up_o (by omega)]
      exact t1
    · rw [up2_r (by omega), es, oh_up_o (by omega)]
      exact t3
    · rw [up2_r (by omega), es] at b
      rw [es]
      by_cases e : j = i
      · rw [e, oh_up_s, up2_s]
      · rw [oh_up_o (by omega), up2_o (fun q => e q.2)]
        exact t4 j a b
  · rw [if_pos y] at h
    refine And.intro (fun w => absurd w (by omega)) (fun _ => ?_)
    exact h _ (RepM_fnd _ hR) (FrM_up (by decide))
def T_X5_sheet : Tr := tM3 s_sheet
theorem ok_X5_sheet : oh_Ok (pg_X5_sheet T_X5_isSheet T_X5_in T_X5_finds) 5 T_X5_sheet := by
  refine tO3_ok fun m s f n μ Post G hG hm hs hf hn hM h => ?_
  obtain rfl := n22 hm
  obtain ⟨A, hV, hR, h⟩ := h
  have hbad : ¬ (0 ≤ s ∧ s < 4) ∨ ¬ (0 ≤ f ∧ f < 3) ∨ 60 < n → Post (some (oI (-2))) μ := fun x => by
    have e : s_sheet A s f n = (-2, A) := if_pos x
    rw [e] at h
    exact h μ hR FrM_rf
  refine oh_go hG [(55, 5)] 60 ?_
  refine And.intro ?_ trivial
  refine And.intro (fun x => ?_) (fun x => ⟨fun _ => hbad (by omega), fun y => absurd rfl y⟩)
  refine And.intro (fun y => absurd y (by decide)) (fun _ => ?_)
  refine And.intro ?_ trivial
  refine And.intro (fun z => ?_) (fun z => ⟨fun _ => hbad (by omega), fun y => absurd rfl y⟩)
  have z : 0 ≤ f ∧ f ≤ 2 := z
  refine And.intro (fun y => absurd y (by decide)) (fun _ => ?_)
  refine And.intro (fun w => ?_) (fun w => hbad (by omega))
  have e : s_sheet A s f n = if n < 0 then (-15, fndA A 5) else (n, shA A s.toNat f n) := if_neg (by omega)
  rw [e] at h
  have es : ((s.toNat : Nat) : Int) = s := by omega
  refine And.intro (fun q => ?_) (fun q => ?_)
  · rw [if_neg (by omega)] at h
    dsimp only at h
    refine And.intro (by omega) ?_
    refine And.intro (by omega) ?_
    have key : ∀ c, 0 ≤ c → c ≤ n → ∀ μ1 : Mem, (∀ (s' m : Nat) (j : Int), ¬ ((s' = 23 ∨ s' = 24) ∧ j = s) → ¬ (s' = 25 ∧ 60 * s ≤ j ∧ j < 60 * s + 60) → μ1 s' m j = μ s' m j) → μ1 23 0 s = f → μ1 24 0 s = n → (∀ j, 0 ≤ j → j < c → μ1 25 0 (60 * s + j) = 0) → G 55 [some (oR 22 0), some (oI s), some (oI f), some (oI n), some (oI c)] [] μ1 := by
      refine oh_for (F := fun c => 0 ≤ c → c ≤ n → ∀ μ1 : Mem, (∀ (s' m : Nat) (j : Int), ¬ ((s' = 23 ∨ s' = 24) ∧ j = s) → ¬ (s' = 25 ∧ 60 * s ≤ j ∧ j < 60 * s + 60) → μ1 s' m j = μ s' m j) → μ1 23 0 s = f → μ1 24 0 s = n → (∀ j, 0 ≤ j → j < c → μ1 25 0 (60 * s + j) = 0) → G 55 [some (oR 22 0), some (oI s), some (oI f), some (oI n), some (oI c)] [] μ1) n ?_ ?_
      · intro c hc h0 h1 μ1 g1 g2 g3 g4
        have e : c = n := by omega
        subst e
        refine oh_go hG [(55, 5)] 40 ?_
        refine And.intro (fun _ => ?_) (fun q => absurd hc q)
        have ea : ∀ i, ¬ i = 7 → ¬ i = 8 → ¬ i = 9 + s.toNat → shA A s.toNat f c i = A i := fun i i7 i8 i9 => funext fun j => by
          unfold shA
          rw [if_neg i9, if_neg (fun q => i7 q.1), if_neg (fun q => i8 q.1)]
        have c7 : shA A s.toNat f c 7 s = f := by
          unfold shA
          rw [if_neg (by omega), if_pos ⟨rfl, by omega⟩]
        have c8 : shA A s.toNat f c 8 s = c := by
          unfold shA
          rw [if_neg (by omega), if_neg (by omega), if_pos ⟨rfl, by omega⟩]
        refine h μ1 (RepM_sh (k := s.toNat) (by omega) hV hR ea (fun j hj => ?_) (fun j hj => ?_) (fun s' m j j1 j2 j3 => g1 s' m j (by omega) (by omega)) ⟨fun w => ?_, fun w => ⟨?_, ?_, fun j a b => ?_⟩⟩) (fun s' m hs' => funext fun j => g1 s' m j (by omega) (by omega))
        · unfold shA
          rw [if_neg (by omega), if_neg (fun q => hj q.2), if_neg (by omega)]
        · unfold shA
          rw [if_neg (by omega), if_neg (by omega), if_neg (fun q => hj q.2)]
        · rw [es, c8] at w
          omega
        · rw [es, c7]
          exact g2
        · rw [es, c8]
          exact g3
        · rw [es, c8] at b
          rw [es, g4 j a b]
          unfold shA
          rw [if_pos rfl, if_pos (by omega)]
      · intro c hc ih h0 h1 μ1 g1 g2 g3 g4
        have ih := ih (by omega) (by omega)
        refine oh_go hG [(55, 5)] 40 ?_
        refine And.intro (fun q => absurd q (by omega)) (fun _ => ?_)
        refine And.intro (by omega) ?_
        refine And.intro (by omega) ?_
        refine And.intro (by omega) ?_
        refine And.intro (by omega) ?_
        refine ih _ (fun s' m j j1 j2 => ?_) ?_ ?_ (fun j a b => ?_)
        · rw [oh_up_o (fun q => j2 ⟨q.1, by omega, by omega⟩)]
          exact g1 s' m j j1 j2
        · rw [oh_up_o (by omega)]
          exact g2
        · rw [oh_up_o (by omega)]
          exact g3
        · by_cases e : j = c
          · rw [e, oh_up_s]
          · rw [oh_up_o (by omega)]
            exact g4 j a (by omega)
    refine key 0 (by omega) (by omega) _ (fun s' m j j1 j2 => ?_) ?_ ?_ (fun j a b => absurd b (by omega))
    · rw [oh_up_o (fun q => j1 ⟨by omega, q.2.2⟩), oh_up_o (fun q => j1 ⟨by omega, q.2.2⟩)]
    · rw [oh_up_o (by omega), oh_up_s]
    · rw [oh_up_s]
  · rw [if_pos (by omega)] at h
    exact ⟨⟨by omega, h _ (RepM_fnd 5 hR) (FrM_up (by decide))⟩, trivial⟩
