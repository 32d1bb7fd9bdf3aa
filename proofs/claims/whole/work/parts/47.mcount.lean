/-! THE MODEL: write, count -/
def T_X5_write : Tr := tM2 s_write
theorem ok_X5_write : oh_Ok (pg_X5_write T_X5_isBody T_X5_isSheet T_X5_finds T_X5_reads T_X5_lesser T_X5_actsNow T_X5_cut) 5 T_X5_write := by
  refine tO2_ok fun n b s μ Post G hG hn hb hs hM h => ?_
  obtain rfl := n22 hn
  obtain ⟨A, hV, hR, h⟩ := h
  have hbad : ¬ (0 ≤ b ∧ b < 6) ∨ ¬ (0 ≤ s ∧ s < 4) → Post (some (oI (-2))) μ := fun x => by
    have e : s_write A b s = (-2, A) := if_pos x
    rw [e] at h
    exact h μ hR FrM_rf
  refine oh_go hG [(51, 5)] 60 ?_
  refine And.intro ?_ trivial
  refine And.intro (fun x => ?_) (fun x => ⟨fun _ => hbad (by omega), fun y => absurd rfl y⟩)
  refine And.intro (fun y => absurd y (by decide)) (fun _ => ?_)
  refine And.intro ?_ trivial
  refine And.intro (fun z => ?_) (fun z => ⟨fun y => absurd rfl y, fun _ => hbad (by omega)⟩)
  refine And.intro (fun _ => ?_) (fun y => absurd (by decide) y)
  have e : s_write A b s = if A 8 s = -1 then (-11, fndA A 1) else (min (A 8 s) 24, wrA A b s.toNat (min (A 8 s) 24)) := if_neg (by omega)
  rw [e] at h
  obtain ⟨s1, s2, s3⟩ := sh_at hV hR (s := s) (by omega)
  have es : ((s.toNat : Nat) : Int) = s := by omega
  refine And.intro (by omega) ?_
  refine And.intro (fun q => ?_) (fun q => ?_)
  · have hz : ¬ A 8 s = -1 := fun z => absurd (s2 z) (by omega)
    rw [if_neg hz] at h
    dsimp only at h
    refine And.intro ⟨A, hV, hR, fun μ1 k1 k2 => ?_⟩ trivial
    obtain ⟨hK, hF⟩ := ki_rd hV hR k1 k2
    obtain ⟨b1, b2, b3, b4⟩ := (sh_at hV hK.2.1 (s := s) (by omega)).2.2 hz
    refine And.intro (by omega) ?_
    refine And.intro ?_ trivial
    show G 51 [some (oR 22 0), some (oI b), some (oI s), some (oI (min (μ1 24 0 s) 24)), some (oI 0)] [] μ1
    rw [b3]
    generalize hm : min (A 8 s) 24 = m at *
    have key : ∀ c, 0 ≤ c → c ≤ m → ∀ μ2 : Mem, (∀ (s' n' : Nat) (j : Int), ¬ (s' = 25 ∧ 60 * s ≤ j ∧ j < 60 * s + 60) → μ2 s' n' j = μ1 s' n' j) → (∀ j, 0 ≤ j → j < A 8 s → μ2 25 0 (60 * s + j) = wrA A b s.toNat c (9 + s.toNat) j) → G 51 [some (oR 22 0), some (oI b), some (oI s), some (oI m), some (oI c)] [] μ2 := by
      refine oh_for (F := fun c => 0 ≤ c → c ≤ m → ∀ μ2 : Mem, (∀ (s' n' : Nat) (j : Int), ¬ (s' = 25 ∧ 60 * s ≤ j ∧ j < 60 * s + 60) → μ2 s' n' j = μ1 s' n' j) → (∀ j, 0 ≤ j → j < A 8 s → μ2 25 0 (60 * s + j) = wrA A b s.toNat c (9 + s.toNat) j) → G 51 [some (oR 22 0), some (oI b), some (oI s), some (oI m), some (oI c)] [] μ2) m ?_ ?_
      · intro c hc h0 h1 μ2 j1 j2
        have e : c = m := by omega
        subst e
        refine oh_go hG [(51, 5)] 40 ?_
        refine And.intro (fun _ => ?_) (fun q => absurd hc q)
        have ea : ∀ i, ¬ i = 9 + s.toNat → wrA A b s.toNat c i = A i := fun i hi => funext fun j => if_neg (fun q => hi q.1)
        refine h μ2 (RepM_sh (k := s.toNat) (by omega) hV hK.2.1 (fun i i7 i8 i9 => ea i i9) (fun j hj => by rw [ea 7 (by omega)]) (fun j hj => by rw [ea 8 (by omega)]) (fun s' m j x1 x2 x3 => j1 s' m j (by omega)) ⟨fun w => ?_, fun w => ⟨?_, ?_, fun j a d => ?_⟩⟩) (FrM_tr hF (fun s' n' hs' => funext fun j => j1 s' n' j (by omega)))
        · rw [ea 8 (by omega), es] at w
          exact absurd w hz
        · rw [ea 7 (by omega), es, j1 23 0 s (by omega)]
          exact b1
        · rw [ea 8 (by omega), es, j1 24 0 s (by omega)]
          exact b3
        · rw [ea 8 (by omega), es] at d
          rw [es]
          exact j2 j a d
      · intro c hc ih h0 h1 μ2 j1 j2
        have ih := ih (by omega) (by omega)
        have k2R : Ki A μ1 := hK
        have t30 : μ2 30 0 = μ1 30 0 := funext fun j => j1 _ _ _ (by omega)
        have e13 : μ2 22 0 13 = μ1 22 0 13 := j1 _ _ _ (by omega)
        refine oh_go hG [(51, 5)] 40 ?_
        refine And.intro (fun q => absurd q (by omega)) (fun _ => ?_)
        refine And.intro (by omega) ?_
        refine And.intro (by omega) ?_
        refine And.intro (by omega) ?_
        refine And.intro ⟨⟨by rw [t30]; exact (ki_tok hK).2, by rw [e13, (ki_law hK).1]; exact (ki_law hK).2, by omega, by omega⟩, ?_⟩ trivial
        rw [t30, e13, ki_an hK (by omega) (by omega), j1 23 0 s (by omega), b1]
        refine And.intro ?_ trivial
        refine And.intro (by omega) ?_
        refine And.intro (by omega) ?_
        refine ih _ (fun s' n' j hs' => ?_) (fun j a d => ?_)
        · rw [oh_up_o (fun w => hs' ⟨w.1, by omega, by omega⟩)]
          exact j1 s' n' j hs'
        · by_cases e : j = c
          · have e2 : wrA A b s.toNat (c + 1) (9 + s.toNat) c = oh_cut (A 7 s.toNat) (an A b c) := if_pos ⟨rfl, by omega, by omega⟩
            rw [e, oh_up_s, e2, es]
          · rw [oh_up_o (by omega), j2 j a d]
            unfold wrA
            by_cases e2 : 0 ≤ j ∧ j < c
            · rw [if_pos ⟨rfl, e2⟩, if_pos ⟨rfl, by omega, by omega⟩]
            · rw [if_neg (fun w => e2 w.2), if_neg (fun w => e2 (by omega))]
    exact key 0 (by omega) (by omega) μ1 (fun _ _ _ _ => rfl) (fun j a d => by
      have e2 : wrA A b s.toNat 0 (9 + s.toNat) j = A (9 + s.toNat) j := if_neg (by omega)
      rw [e2]
      exact b4 j a d)
  · have hz : A 8 s = -1 := Classical.byContradiction fun z => by
      have := s3 z
      omega
    rw [if_pos hz] at h
    exact ⟨⟨by omega, h _ (RepM_fnd 1 hR) (FrM_up (by decide))⟩, trivial⟩
theorem rds_c (w : Int → Int) : rds w = sm (fun c => rd1 w (c / 24) (c % 24)) 144 := by
  rw [sm_cells (fun b h => rd1 w b h), sm_swap (fun h b => rd1 w b h) 6 24]
  rfl
theorem pc_mk20 (p : Int → Bool) {m : Nat} (h : m ≤ 20) : pc (mk p m) 20 = sm (fun j => if p j then 1 else 0) m := by
  have e := pc_more (mk_lt p m) (20 - m)
  rw [show m + (20 - m) = 20 by omega] at e
  rw [e, pc_mk p m m (by omega)]
def T_X5_count : Tr := tM1 s_count
theorem ok_X5_count : oh_Ok (pg_X5_count T_X5_find T_X5_deepOf) 4 T_X5_count := by
  refine tO1_ok fun n w μ Post G hG hn hw hM h => ?_
  obtain rfl := n22 hn
  obtain ⟨A, hV, hR, h⟩ := h
  refine oh_go hG [(77, 4), (122, 4)] 40 ?_
  refine And.intro ⟨A, hV, hR, fun μ1 hK hL hF => ?_⟩ trivial
  have hbad : ¬ (0 ≤ w ∧ w ≤ 8) → Post (some (oI (-2))) μ1 := fun x => by
    have e : s_count A w = (-2, A) := if_neg x
    rw [e] at h
    exact h μ1 hK.2.1 hF
  have hok : 0 ≤ w ∧ w ≤ 8 → Post (some (oI (cnt A w))) μ1 := fun x => by
    have e : s_count A w = (cnt A w, A) := if_pos x
    rw [e] at h
    exact h μ1 hK.2.1 hF
  unfold cnt at hok
  have hE := tE_rg (hV.1 1 (by omega)).1
  have c8 := (Rd_n hK.2.2).1
  have c11 := (Rd_n hK.2.2).2
  refine And.intro (fun y => hbad (by omega)) ?_
  refine And.intro (fun y => ?_) (And.intro (fun y => ?_) (And.intro (fun y => ?_) (And.intro (fun y => ?_) (And.intro (fun y => ?_) (And.intro (fun y => ?_) (And.intro (fun y => ?_) (And.intro (fun y => ?_) (And.intro (fun y => ?_) trivial))))))))
  · have h := hok (by omega)
    rw [if_pos y] at h
    show Post (some (oI (μ1 22 0 8))) μ1
    rw [c8]
    exact h
  · have h := hok (by omega)
    rw [if_neg (by omega), if_pos y] at h
    show Post (some (oI (μ1 22 0 11))) μ1
    rw [c11]
    exact h
  · have h9 := hok (by omega)
    rw [if_neg (by omega), if_neg (by omega), if_pos y] at h9
    have e := (hK.2.1.2.1 0 (by omega)).1
    subst y
    refine And.intro (by omega) ?_
    refine And.intro (by omega) ?_
    show Post (some (oI (μ1 28 0 0))) μ1
    have e : μ1 28 0 0 = A 2 0 := e
    rw [e]
    exact h9
  · have h9 := hok (by omega)
    rw [if_neg (by omega), if_neg (by omega), if_neg (by omega), if_pos y] at h9
    have e := (hK.2.1.2.1 1 (by omega)).1
    subst y
    refine And.intro (by omega) ?_
    refine And.intro (by omega) ?_
    show Post (some (oI (μ1 28 0 1))) μ1
    have e : μ1 28 0 1 = A 2 1 := e
    rw [e]
    exact h9
  · have h := hok (by omega)
    rw [if_neg (by omega), if_neg (by omega), if_neg (by omega), if_neg (by omega), if_pos y, pc_mk20 _ (by omega)] at h
    generalize hFc : (fun j => if dnA A (A 2 2) j = true then (1 : Int) else 0) = Fc at h
    have hF0 : ∀ j, 0 ≤ Fc j := fun j => by
      rw [← hFc]
      dsimp only
      split <;> omega
    have hF1 : ∀ j, Fc j ≤ 1 := fun j => by
      rw [← hFc]
      dsimp only
      split <;> omega
    have key : ∀ c, 0 ≤ c → c ≤ tE 1 A → G 77 [some (oR 22 0), some (oI w), some (oI (sm Fc c.toNat)), some (oI c)] [] μ1 := by
      refine oh_for (F := fun c => 0 ≤ c → c ≤ tE 1 A → G 77 [some (oR 22 0), some (oI w), some (oI (sm Fc c.toNat)), some (oI c)] [] μ1) (tE 1 A) ?_ ?_
      · intro c hc h0 h1
        have e : c = tE 1 A := by omega
        subst e
        refine oh_go hG [(77, 4)] 40 ?_
        exact ⟨fun _ => h, fun q => absurd (by omega) q⟩
      · intro c hc ih h0 h1
        have ih := ih (by omega) (by omega)
        have eF : Fc c = if dnA A (A 2 2) c = true then 1 else 0 := by rw [← hFc]
        rw [sm_s _ h0, eF] at ih
        have hr := sm_rg (f := Fc) (a := 0) (b := 1) hF0 hF1 c.toNat
        refine oh_go hG [(77, 4)] 40 ?_
        refine And.intro (fun q => absurd q (by omega)) (fun _ => ?_)
        refine And.intro (by omega) ?_
        rw [hL.1 c h0 hc]
        by_cases e : dnA A (A 2 2) c = true
        · rw [if_pos e] at ih ⊢
          exact ⟨fun z => absurd z (by decide), fun _ => ⟨by omega, by omega, ih⟩⟩
        · rw [if_neg e] at ih ⊢
          exact ⟨fun _ => ⟨by omega, by omega, ih⟩, fun z => absurd rfl z⟩
    exact key 0 (by omega) (by omega)
  · have h := hok (by omega)
    rw [if_neg (by omega), if_neg (by omega), if_neg (by omega), if_neg (by omega), if_neg (by omega), if_pos y] at h
    show Post (some (oI (μ1 22 0 23))) μ1
    rw [(ki_seen hK).1]
    exact h
  · have h := hok (by omega)
    rw [if_neg (by omega), if_neg (by omega), if_neg (by omega), if_neg (by omega), if_neg (by omega), if_neg (by omega), if_pos y] at h
    show Post (some (oI (μ1 22 0 13))) μ1
    rw [(ki_law hK).1]
    exact h
  · have h := hok (by omega)
    rw [if_neg (by omega), if_neg (by omega), if_neg (by omega), if_neg (by omega), if_neg (by omega), if_neg (by omega), if_neg (by omega), if_pos y, rds_c] at h
    generalize hFc : (fun c => rd1 (aw A) (c / 24) (c % 24)) = Fc at h
    have hF0 : ∀ j, 0 ≤ Fc j := fun j => by
      rw [← hFc]
      exact (rd1_rg _ _ _).1
    have hF1 : ∀ j, Fc j ≤ 1 := fun j => by
      rw [← hFc]
      exact (rd1_rg _ _ _).2
    have key : ∀ c, 0 ≤ c → c ≤ 144 → G 122 [some (oR 22 0), some (oI w), some (oI (sm Fc c.toNat)), some (oI c)] [] μ1 := by
      refine oh_for (F := fun c => 0 ≤ c → c ≤ 144 → G 122 [some (oR 22 0), some (oI w), some (oI (sm Fc c.toNat)), some (oI c)] [] μ1) 144 ?_ ?_
      · intro c hc h0 h1
        have e : c = 144 := by omega
        subst e
        refine oh_go hG [(122, 4)] 40 ?_
        exact ⟨fun _ => h, fun q => absurd hc q⟩
      · intro c hc ih h0 h1
        have ih := ih (by omega) (by omega)
        have eF : Fc c = if sts (aw A) (c / 24) (c % 24) = -1 then 1 else 0 := by
          rw [← hFc]
          rfl
        rw [sm_s _ h0, eF] at ih
        have hr := sm_rg (f := Fc) (a := 0) (b := 1) hF0 hF1 c.toNat
        refine oh_go hG [(122, 4)] 40 ?_
        refine And.intro (fun q => absurd q (by omega)) (fun _ => ?_)
        refine And.intro (by omega) ?_
        refine And.intro (by omega) ?_
        refine And.intro ⟨⟨(ki_tok hK).2, by omega, by omega⟩, ?_⟩ trivial
        rw [ki_sts hK (by omega) (by omega)]
        refine And.intro (fun q => ?_) (fun q => ?_)
        · rw [if_neg q] at ih
          exact ⟨by omega, by omega, ih⟩
        · rw [if_pos (Classical.not_not.mp q)] at ih
          exact ⟨by omega, by omega, ih⟩
    exact key 0 (by omega) (by omega)
  · have h := hok (by omega)
    rw [if_neg (by omega), if_neg (by omega), if_neg (by omega), if_neg (by omega), if_neg (by omega), if_neg (by omega), if_neg (by omega), if_neg (by omega)] at h
    show Post (some (oI (μ1 22 0 4))) μ1
    rw [hK.2.1.1.1]
    exact h
