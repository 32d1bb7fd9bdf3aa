/-! THE MODEL: run, and its digest -/
def T_X5_run : Tr := tM2 s_run
theorem ok_X5_run : oh_Ok (pg_X5_run T_X5_find T_X5_isBody T_X5_in T_X5_runOf) 3 T_X5_run := by
  refine tO2_ok fun n p w μ Post G hG hn hp hw hM h => ?_
  obtain rfl := n22 hn
  obtain ⟨A, hV, hR, h⟩ := h
  unfold s_run at h
  refine oh_go hG [] 40 ?_
  refine And.intro ⟨A, hV, hR, fun μ1 hK hL hF => ?_⟩ trivial
  have hbad : ¬ ((0 ≤ p ∧ p < 6) ∧ 0 ≤ w ∧ w ≤ 3) → Post (some (oI (-2))) μ1 := fun z => by
    rw [if_neg z] at h
    exact h μ1 hK.2.1 hF
  refine And.intro ?_ trivial
  refine And.intro (fun q1 => ?_) (fun q1 => ⟨fun _ => hbad (by omega), fun y => absurd rfl y⟩)
  refine And.intro (fun y => absurd y (by decide)) (fun _ => ?_)
  refine And.intro ?_ trivial
  refine And.intro (fun q2 => ?_) (fun q2 => ⟨fun _ => hbad (fun z => q2 z.2), fun y => absurd rfl y⟩)
  have q2 : 0 ≤ w ∧ w ≤ 3 := q2
  refine And.intro (fun y => absurd y (by decide)) (fun _ => ?_)
  rw [if_pos ⟨by omega, q2⟩] at h
  dsimp only at h
  refine And.intro ⟨A, hK, hL, q2, fun μ2 k => ?_⟩ trivial
  exact h μ2 (Ki_N hK k).2.1 (FrM_tr hF (kM_Fr (kN_k k)))
/-- what the digest keeps -/
def Sd (A : Ab) (μ μ1 : Mem) : Prop := Ki A μ1 ∧ Lv A (A 2 2) μ1 ∧ FrM μ μ1
theorem Lv_keep {A : Ab} {l : Int} {μ μ1 : Mem} (h : Lv A l μ) (k : ∀ s n, 35 ≤ s → s ≤ 38 → μ1 s n = μ s n) : Lv A l μ1 := by
  unfold Lv at h ⊢
  rw [k 35 0 (by omega) (by omega), k 36 0 (by omega) (by omega), k 37 0 (by omega) (by omega), k 38 0 (by omega) (by omega)]
  exact h
theorem Sd_N {A : Ab} {μ μ1 μ2 : Mem} (h : Sd A μ μ1) (k : kN μ1 μ2) : Sd A μ μ2 := ⟨Ki_N h.1 k, Lv_keep h.2.1 (fun s n a b => kN_row k (by omega) n), FrM_tr h.2.2 (kM_Fr (kN_k k))⟩
theorem Sd_T {A : Ab} {μ μ1 μ2 : Mem} (h : Sd A μ μ1) (k : kT μ1 μ2) : Sd A μ μ2 := ⟨Ki_T h.1 k, Lv_keep h.2.1 (fun s n a b => kT_row k (by omega) n), FrM_tr h.2.2 (kM_Fr (kT_k k))⟩
theorem Sd_R {A : Ab} {μ μ1 μ2 : Mem} (h : Sd A μ μ1) (hK : Ki A μ2) (k : kR μ1 μ2) : Sd A μ μ2 := ⟨hK, Lv_keep h.2.1 (fun s n a b => funext fun j => k s n j (by omega)), FrM_tr h.2.2 (kM_Fr (kR_k k))⟩
theorem tel3 (g : Int → Int → Int) (z : Int) : foP (fun c x => g (oh_nthI [0, 9, 20] c) x) 3 0 z = g 20 (g 9 (g 0 z)) := rfl
def T_X5_digest : Tr := tO0 22 fun n μ Post => ∃ A, ValA A ∧ RepM A μ ∧ ∀ μ', RepM A μ' → FrM μ μ' → Post (some (oL (dg A))) μ'
theorem ok_X5_digest : oh_Ok (pg_X5_digest T_X5_count T_X5_readsGrants T_X5_readsOrders T_X5_judged T_X5_freeOf T_X5_holdsOf T_X5_tellsHour T_X5_soonestOf T_X5_fewestOf T_X5_runOf T_X5_heir T_X5_wrongedBy T_X5_gentlestNow T_X5_metOf T_X5_slipsOf T_X5_tradesNow T_X5_wordNow T_X5_freesOf T_X5_suspectsNow T_X5_likelyNow) 5 T_X5_digest := by
  refine tO0_ok fun n μ Post G hG hn hM h => ?_
  obtain rfl := n22 hn
  obtain ⟨A, hV, hR, h⟩ := h
  have k316 : ∀ (k : Nat) (c y : Int) (μ1 : Mem), 0 ≤ c → c + k = tE 0 A → Sd A μ μ1 → dg5 A (foP (fun c x => oh_mix x (s_frees A c).1) k c y) = dg A → G 316 [some (oR 22 0), some (oL y), none, some (oI c), none] [] μ1 := by
    intro k
    induction k with
    | zero =>
      intro c y μ1 c0 c1 g1 hp
      have eg := g1.1.2.2.1.1
      rw [← hp] at h
      refine oh_go hG [(316, 4)] 40 ?_
      refine And.intro (fun _ => ?_) (fun q => absurd q (by omega))
      refine And.intro ⟨A, g1.1, ?_⟩ trivial
      refine And.intro ⟨A, g1.1, fun μ2 k2 => ?_⟩ trivial
      exact h μ2 (Ki_L g1.1 k2).2.1 (FrM_tr g1.2.2 (kM_Fr (kL_k k2)))
    | succ k ih =>
      intro c y μ1 c0 c1 g1 hp
      have eg := g1.1.2.2.1.1
      have hE := tE_rg (hV.1 0 (by omega)).1
      have e : (s_frees A c).1 = frA A c := by
        unfold s_frees
        rw [if_pos (by omega)]
      have ih := ih (c + 1) _ μ1 (by omega) (by omega) g1 hp
      dsimp only at ih
      rw [e] at ih
      refine oh_go hG [(316, 4)] 40 ?_
      refine And.intro (fun q => absurd q (by omega)) (fun _ => ?_)
      refine And.intro ⟨A, g1.1, by omega, ?_⟩ trivial
      exact ⟨by omega, ih⟩
  have k226 : ∀ (k : Nat) (c y : Int) (μ1 : Mem), 0 ≤ c → c + k = 3 → Sd A μ μ1 → dg4 A (foP (fun c x => oh_mix x (s_wronged A c).1) k c y) = dg A → G 226 [some (oR 22 0), some (oL y), none, some (oI c), none] [] μ1 := by
    intro k
    induction k with
    | zero =>
      intro c y μ1 c0 c1 g1 hp
      have e1 : (s_met A 0 1).1 = ((mk (mtB A 0 1) 24 : Nat) : Int) := by
        unfold s_met
        rw [if_pos (by omega)]
      have e2 : (s_slips A 0 1).1 = ((mk (slB A 0 1) 24 : Nat) : Int) := by
        unfold s_slips
        rw [if_pos (by omega)]
      have hp : dg4 A y = dg A := hp
      have e3 : (s_gentlest A).1 = gnt A := by simp only [s_gentlest]
      have e4 : (s_trades A).1 = tds A := by simp only [s_trades]
      have e5 : (s_word A).1 = wd (frA A) (tE 0 A).toNat 0 (-1) 0 := by simp only [s_word]
      unfold dg4 at hp
      rw [e1, e2, e3, e4, e5] at hp
      have hE := tE_rg (hV.1 0 (by omega)).1
      refine oh_go hG [(226, 4), (316, 4)] 80 ?_
      refine And.intro (fun _ => ?_) (fun q => absurd q (by omega))
      refine And.intro ⟨A, g1.1, ?_⟩ trivial
      refine And.intro ⟨A, g1.2.1, by omega, by omega, ?_⟩ trivial
      refine And.intro ⟨A, g1.1, by omega, by omega, ?_⟩ trivial
      refine And.intro ⟨A, g1.1, fun μ2 k2 => ?_⟩ trivial
      have g2 := Sd_T g1 k2
      refine And.intro ⟨A, g2.1, ?_⟩ trivial
      have k := k316 (tE 0 A).toNat 0 _ μ2 (by omega) (by omega) g2 hp
      exact k
    | succ k ih =>
      intro c y μ1 c0 c1 g1 hp
      have e : (s_wronged A c).1 = wrg (μ1 30 0) c := by
        unfold s_wronged
        rw [if_pos (by omega), ki_wrg g1.1]
      have ih := ih (c + 1) _ μ1 (by omega) (by omega) g1 hp
      dsimp only at ih
      rw [e] at ih
      refine oh_go hG [(226, 4), (316, 4)] 40 ?_
      refine And.intro (fun q => absurd q (by omega)) (fun _ => ?_)
      refine And.intro ⟨⟨(ki_tok g1.1).2, by omega, by omega⟩, ?_⟩ trivial
      exact ⟨by omega, ih⟩
  have k177 : ∀ (k : Nat) (c y p : Int) (μ1 : Mem), 0 ≤ c → c + k = 4 → (0 ≤ p ∧ p ≤ 5) → Sd A μ μ1 → (∀ μ2, Sd A μ μ2 → G 69 [some (oR 22 0), some (oL (oh_mix (foP (fun c x => oh_mix x (s_run A p c).1) k c y) (s_heir A p 0).1)), none, some (oI (p + 1)), none] [] μ2) → G 177 [some (oR 22 0), some (oL y), none, some (oI p), some (oI c)] [] μ1 := by
    intro k
    induction k with
    | zero =>
      intro c y p μ1 c0 c1 hp g1 hc
      refine oh_go hG [(69, 4), (177, 5)] 40 ?_
      refine And.intro (fun _ => ?_) (fun q => absurd q (by omega))
      refine And.intro ⟨A, hV, g1.1.2.1, fun μ2 j1 j2 => ?_⟩ trivial
      refine And.intro (by omega) ?_
      exact hc μ2 (Sd_R g1 j1 j2)
    | succ k ih =>
      intro c y p μ1 c0 c1 hp g1 hc
      have e : (s_run A p c).1 = rnA A p c := by
        unfold s_run
        rw [if_pos (by omega)]
      have ih := fun μ2 (g2 : Sd A μ μ2) => ih (c + 1) _ p μ2 (by omega) (by omega) hp g2 hc
      dsimp only at ih
      rw [e] at ih
      refine oh_go hG [(69, 4), (177, 5)] 40 ?_
      refine And.intro (fun q => absurd q (by omega)) (fun _ => ?_)
      refine And.intro ⟨A, g1.1, g1.2.1, by omega, fun μ2 j1 => ?_⟩ trivial
      refine And.intro (by omega) ?_
      exact ih μ2 (Sd_N g1 j1)
  have k69 : ∀ (k : Nat) (c y : Int) (μ1 : Mem), 0 ≤ c → c + k = 6 → Sd A μ μ1 → dg3 A (foP (fun c x => mpr A c x) k c y) = dg A → G 69 [some (oR 22 0), some (oL y), none, some (oI c), none] [] μ1 := by
    intro k
    induction k with
    | zero =>
      intro c y μ1 c0 c1 g1 hp
      refine oh_go hG [(226, 4), (177, 5)] 40 ?_
      refine And.intro (fun _ => ?_) (fun q => absurd q (by omega))
      exact k226 3 0 y μ1 (by omega) (by omega) g1 hp
    | succ k ih =>
      intro c y μ1 c0 c1 g1 hp
      have ih := fun μ2 (g2 : Sd A μ μ2) => ih (c + 1) _ μ2 (by omega) (by omega) g2 hp
      dsimp only at ih
      unfold mpr at ih
      have e1 : (s_free A c).1 = ((mk (frB A c) 24 : Nat) : Int) := by
        unfold s_free
        rw [if_pos (by omega)]
      have e2 : (s_holds A c).1 = hld (μ1 30 0) (μ1 22 0 13) c := by
        unfold s_holds
        rw [if_pos (by omega), ki_hld g1.1]
      have e3 : (s_soonest A c 9).1 = sn (cnb A c) 9 24 0 0 := by
        unfold s_soonest
        rw [if_pos (by omega)]
      have e4 : ∀ t, 0 ≤ t → t ≤ 1 → (s_fewest A c 9 t).1 = (if fwA A c 9 = -1 ∨ t = 1 then fwA A c 9 else pc (fwA A c 9).toNat 20) := fun t t0 t1 => by
        unfold s_fewest
        rw [if_pos (by omega)]
      rw [e1, e2, e3, e4 0 (by omega) (by omega), e4 1 (by omega) (by omega)] at ih
      rw [tel3 (tel A c)] at ih
      have kl := ki_law g1.1
      refine oh_go hG [(69, 4), (226, 4), (177, 5)] 80 ?_
      refine And.intro (fun q => absurd q (by omega)) (fun _ => ?_)
      refine And.intro ⟨A, g1.1, by omega, ?_⟩ trivial
      refine And.intro ⟨⟨(ki_tok g1.1).2, by omega, by omega⟩, ?_⟩ trivial
      refine And.intro ⟨A, g1.1, g1.2.1, by omega, by omega, ?_⟩ trivial
      refine And.intro ⟨A, g1.1, g1.2.1, by omega, by omega, ?_⟩ trivial
      refine And.intro ⟨A, g1.1, g1.2.1, by omega, by omega, ?_⟩ trivial
      refine And.intro ⟨A, g1.1, by omega, ?_⟩ trivial
      refine And.intro ⟨A, g1.1, by omega, ?_⟩ trivial
      refine And.intro ⟨A, g1.1, by omega, ?_⟩ trivial
      have k := k177 4 0 _ c μ1 (by omega) (by omega) (by omega) g1 ih
      exact k
  have k6 : ∀ (k : Nat) (c y : Int) (μ1 : Mem), 0 ≤ c → c + k = 8 → RepM A μ1 → FrM μ μ1 → dg1 A (foP (fun c x => oh_mix x (s_count A c).1) k c y) = dg A → G 6 [some (oR 22 0), some (oL y), none, some (oI c), none] [] μ1 := by
    intro k
    induction k with
    | zero =>
      intro c y μ1 c0 c1 g1 g2 hp
      have e0 : (s_fault A 0).1 = flw 0 (tl 0 A) (tB 0 A) := by
        unfold s_fault
        rw [if_neg (by omega)]
        rfl
      have e1 : (s_fault A 1).1 = flw 1 (tl 1 A) (tB 1 A) := by
        unfold s_fault
        rw [if_neg (by omega)]
        rfl
      unfold dg1 dg2 at hp
      rw [show foP (fun c x => oh_mix x (s_fault A c).1) 2 0 (foP (fun c x => oh_mix x (s_count A c).1) 0 c y) = oh_mix (oh_mix y (s_fault A 0).1) (s_fault A 1).1 from rfl, e0, e1] at hp
      refine oh_go hG [(6, 4), (69, 4)] 60 ?_
      refine And.intro (fun _ => ?_) (fun q => absurd q (by omega))
      refine And.intro ⟨A, hV, g1, fun μ2 j1 j2 => ?_⟩ trivial
      have r2 := RepM_k g1 (fun s n j hs => j1 s n j (fun z => hs (by unfold scr; omega)))
      have f2 : FrM μ1 μ2 := fun s n hs => funext fun j => j1 s n j (by omega)
      refine And.intro ⟨A, hV, r2, fun μ3 j3 j4 => ?_⟩ trivial
      have r3 := RepM_k r2 (fun s n j hs => j3 s n j (fun z => hs (by unfold scr; omega)))
      have f3 : FrM μ2 μ3 := fun s n hs => funext fun j => j3 s n j (by omega)
      refine And.intro ⟨A, hV, r3, fun μ4 j5 j6 j7 => ?_⟩ trivial
      have k := k69 6 0 _ μ4 (by omega) (by omega) ⟨j5, j6, FrM_tr g2 (FrM_tr f2 (FrM_tr f3 j7))⟩ hp
      exact k
    | succ k ih =>
      intro c y μ1 c0 c1 g1 g2 hp
      refine oh_go hG [(6, 4), (69, 4)] 60 ?_
      refine And.intro (fun q => absurd q (by omega)) (fun _ => ?_)
      refine And.intro ⟨A, hV, g1, fun μ2 j1 j2 => ?_⟩ trivial
      rw [q_count] at j1
      refine And.intro (by omega) ?_
      exact ih (c + 1) _ μ2 (by omega) (by omega) j1 (FrM_tr g2 j2) hp
  refine oh_go hG [(6, 4)] 10 ?_
  exact k6 8 0 17 μ (by omega) (by omega) hR FrM_rf rfl
