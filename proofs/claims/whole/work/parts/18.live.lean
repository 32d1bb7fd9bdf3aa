/-! A DAY LIVED -/
def Aw (w : Int → Int) (law c : Int) : Int := act w law (c / 24) (c % 24)
theorem Aw_rg {w : Int → Int} (ht : tok w) {law c : Int} (h : 0 ≤ c ∧ c < 144) : -1 ≤ Aw w law c ∧ Aw w law c ≤ 5 := act_rg ht (by omega) (by omega)
theorem Aw_at (w : Int → Int) (law : Int) {b h : Int} (hh : 0 ≤ h ∧ h ≤ 23) : Aw w law (b * 24 + h) = act w law b h := by
  unfold Aw
  have e1 : (b * 24 + h) / 24 = b := by omega
  have e2 : (b * 24 + h) % 24 = h := by omega
  rw [e1, e2]
theorem dd_congr {a a' f : Int → Int} {c : Int} (h : a c = a' c) : ∀ k : Nat, dd a f k c = dd a' f k c
  | 0 => rfl
  | k + 1 => by
    show (if c = oc f k ∧ a c = fi 1 f k ∧ dd a f k c = -1 then la 1 f k else dd a f k c) = if c = oc f k ∧ a' c = fi 1 f k ∧ dd a' f k c = -1 then la 1 f k else dd a' f k c
    rw [dd_congr h k, h]
theorem dn_congr {a a' f : Int → Int} {k : Int} (h : a (oc f k) = a' (oc f k)) : dn a f k = dn a' f k := by
  unfold dn
  rw [dd_congr h, h]
theorem dd_rg {a f : Int → Int} {c : Int} : ∀ (k : Nat), (∀ j : Int, 0 ≤ j → j < k → 0 ≤ la 1 f j ∧ la 1 f j ≤ 4) → -1 ≤ dd a f k c ∧ dd a f k c ≤ 4
  | 0, _ => by show (-1 : Int) ≤ -1 ∧ (-1 : Int) ≤ 4; omega
  | k + 1, h => by
    have ih := dd_rg (a := a) (c := c) k (fun j a b => h j a (by omega))
    have hk := h k (by omega) (by omega)
    show -1 ≤ (if c = oc f k ∧ a c = fi 1 f k ∧ dd a f k c = -1 then la 1 f k else dd a f k c) ∧ (if c = oc f k ∧ a c = fi 1 f k ∧ dd a f k c = -1 then la 1 f k else dd a f k c) ≤ 4
    split <;> omega
theorem de_congr {d d' : Int → Int} {c wr : Int} (h : d c = d' c) : de d c wr = de d' c wr := by
  unfold de
  rw [h]
theorem dy_congr {d d' : Int → Int} {b home : Int} : ∀ (k : Nat), (∀ j : Int, 0 ≤ j → j < k → d (b * 24 + j) = d' (b * 24 + j)) → dy d b home k = dy d' b home k
  | 0, _ => rfl
  | k + 1, h => by
    show (nxp (de d (b * 24 + k) (dy d b home k).2) (dy d b home k).1, max 0 ((dy d b home k).2 + oh_toil (de d (b * 24 + k) (dy d b home k).2))) = (nxp (de d' (b * 24 + k) (dy d' b home k).2) (dy d' b home k).1, max 0 ((dy d' b home k).2 + oh_toil (de d' (b * 24 + k) (dy d' b home k).2)))
    rw [dy_congr k (fun j a c => h j a (by omega)), de_congr (h k (by omega) (by omega))]
theorem dee_congr {d d' : Int → Int} {b home k : Int} (h0 : 0 ≤ k ∧ k ≤ 23) (h : ∀ j : Int, 0 ≤ j → j < 24 → d (b * 24 + j) = d' (b * 24 + j)) : dee d b home k = dee d' b home k ∧ pla d b home k = pla d' b home k ∧ tir d b home k = tir d' b home k := by
  unfold dee pla tir
  rw [dy_congr k.toNat (fun j a c => h j a (by omega)), dy_congr (k.toNat + 1) (fun j a c => h j a (by omega)), de_congr (h k h0.1 (by omega))]
  exact ⟨rfl, rfl, rfl⟩
/-- a day by a law is as owners (w), orders (f, e of them) and homes (hm) have it -/
def dayOK (law : Int) (w f : Int → Int) (e : Int) (hm : Int → Int) (n : Nat) (μ : Mem) : Prop :=
  (∀ c, 0 ≤ c → c < 144 → μ 1 n c = Aw w law c) ∧
  (∀ b k, (0 ≤ b ∧ b ≤ 5) → (0 ≤ k ∧ k ≤ 23) → μ 2 n (b * 24 + k) = dee (dd (Aw w law) f e.toNat) b (hm b) k ∧ μ 3 n (b * 24 + k) = pla (dd (Aw w law) f e.toNat) b (hm b) k ∧ μ 4 n (b * 24 + k) = tir (dd (Aw w law) f e.toNat) b (hm b) k) ∧
  μ 0 n 7 = ((mk (dn (Aw w law) f) e.toNat : Nat) : Int)
def T_X0_live : Tr := fun as μ Post => ∃ n : Nat, as = [oR 0 n, oR 7 0, oR 11 1, oR 15 0] ∧
  (tok (μ 8 0) ∧ tq 1 μ ∧ ov μ (ents 1 (μ 11 1 5) (μ 11 1 6)) ∧ (∀ j, 0 ≤ j → j < ents 1 (μ 11 1 5) (μ 11 1 6) → 0 ≤ la 1 (μ 12 1) j ∧ la 1 (μ 12 1) j ≤ 4) ∧ ∀ b, 0 ≤ b → b < 6 → 0 ≤ μ 15 0 b ∧ μ 15 0 b ≤ 9) ∧
  ∀ μ', (∀ s' n' j', ¬ (s' ≤ 4 ∧ n' = n) → μ' s' n' j' = μ s' n' j') → μ' 0 n 0 = μ 0 n 0 → μ' 0 n 8 = 0 → dayOK (μ 0 n 0) (μ 8 0) (μ 12 1) (ents 1 (μ 11 1 5) (μ 11 1 6)) (μ 15 0) n μ' → Post none μ'
theorem ok_X0_live : oh_Ok (pg_X0_live T_X1_actor T_X0_obey T_X0_spend) 5 T_X0_live := by
  intro as μ Post G hG hwf hM hT
  obtain ⟨n, rfl, ⟨ht, hq, hv, hla, hhm⟩, h⟩ := hT
  have hE := ents_rg (n := 1) (br := μ 11 1 6) hq.2.2.2.2.1
  generalize hEe : ents 1 (μ 11 1 5) (μ 11 1 6) = E at hv hla h hE
  generalize hD : dd (Aw (μ 8 0) (μ 0 n 0)) (μ 12 1) E.toNat = Dd at *
  have hDr : ∀ c, -1 ≤ Dd c ∧ Dd c ≤ 4 := fun c => by
    rw [← hD]
    exact dd_rg _ (fun j a b => hla j a (by omega))
  -- the bodies spend their day
  have third : ∀ c, 0 ≤ c → c ≤ 6 → ∀ μ', (∀ s' n' j', ¬ (s' ≤ 4 ∧ n' = n) → μ' s' n' j' = μ s' n' j') → μ' 0 n 0 = μ 0 n 0 → (∀ j, 0 ≤ j → j < 144 → μ' 1 n j = Aw (μ 8 0) (μ 0 n 0) j) → μ' 0 n 7 = ((mk (dn (Aw (μ 8 0) (μ 0 n 0)) (μ 12 1)) E.toNat : Nat) : Int) →
      (∀ j, c * 24 ≤ j → j < 144 → μ' 2 n j = Dd j) → (∀ b k, (0 ≤ b ∧ b < c) → (0 ≤ k ∧ k ≤ 23) → μ' 2 n (b * 24 + k) = dee Dd b (μ 15 0 b) k ∧ μ' 3 n (b * 24 + k) = pla Dd b (μ 15 0 b) k ∧ μ' 4 n (b * 24 + k) = tir Dd b (μ 15 0 b) k) →
      G 50 [some (oR 0 n), some (oR 7 0), some (oR 11 1), some (oR 15 0), some (oI c)] [] μ' := by
    refine oh_for (F := fun c => 0 ≤ c → c ≤ 6 → ∀ μ', (∀ s' n' j', ¬ (s' ≤ 4 ∧ n' = n) → μ' s' n' j' = μ s' n' j') → μ' 0 n 0 = μ 0 n 0 → (∀ j, 0 ≤ j → j < 144 → μ' 1 n j = Aw (μ 8 0) (μ 0 n 0) j) → μ' 0 n 7 = ((mk (dn (Aw (μ 8 0) (μ 0 n 0)) (μ 12 1)) E.toNat : Nat) : Int) →
      (∀ j, c * 24 ≤ j → j < 144 → μ' 2 n j = Dd j) → (∀ b k, (0 ≤ b ∧ b < c) → (0 ≤ k ∧ k ≤ 23) → μ' 2 n (b * 24 + k) = dee Dd b (μ 15 0 b) k ∧ μ' 3 n (b * 24 + k) = pla Dd b (μ 15 0 b) k ∧ μ' 4 n (b * 24 + k) = tir Dd b (μ 15 0 b) k) →
      G 50 [some (oR 0 n), some (oR 7 0), some (oR 11 1), some (oR 15 0), some (oI c)] [] μ') 6 ?_ ?_
    · intro c hc h0 h1 μ' hof hl ha ho hd hw
      refine oh_go hG [(50, 5)] 40 ?_
      refine And.intro (fun _ => ?_) (fun x => absurd hc x)
      refine And.intro (by omega) ?_
      refine h _ (fun s' n' j' g => ?_) ?_ oh_up_s ⟨fun j a b => ?_, fun b k hb hk => ?_, ?_⟩
      · rw [oh_up_o (fun q => g ⟨by omega, q.2.1⟩)]
        exact hof s' n' j' g
      · rw [oh_up_o (fun q => absurd q.2.2 (by decide))]
        exact hl
      · rw [oh_up_o (fun q => absurd q.1 (by decide))]
        exact ha j a b
      · rw [oh_up_o (fun q => absurd q.1 (by decide)), oh_up_o (fun q => absurd q.1 (by decide)), oh_up_o (fun q => absurd q.1 (by decide)), hD]
        exact hw b k (by omega) hk
      · rw [oh_up_o (fun q => absurd q.2.2 (by decide))]
        exact ho
    · intro c hc ih h0 h1 μ' hof hl ha ho hd hw
      have e15 : μ' 15 0 = μ 15 0 := funext fun j => hof _ _ _ (fun q => by omega)
      refine oh_go hG [(50, 5)] 40 ?_
      refine And.intro (fun x => absurd x (by omega)) (fun _ => ?_)
      refine And.intro (by omega) ?_
      refine And.intro ?_ trivial
      rw [e15]
      refine And.intro ⟨⟨h0, by omega⟩, hhm c h0 hc, fun j a b => ?_⟩ (fun μ2 g1 g2 => ?_)
      · rw [hd j a (by omega)]
        exact hDr j
      refine And.intro (by omega) ?_
      refine ih (by omega) (by omega) μ2 (fun s' n' j' g => ?_) ?_ (fun j a b => ?_) ?_ (fun j a b => ?_) (fun b k hb hk => ?_)
      · rw [g1 s' n' j' (fun q => g ⟨by omega, q.2.1⟩)]
        exact hof s' n' j' g
      · rw [g1 _ _ _ (fun q => by omega)]
        exact hl
      · rw [g1 _ _ _ (fun q => by omega)]
        exact ha j a b
      · rw [g1 _ _ _ (fun q => by omega)]
        exact ho
      · rw [g1 _ _ _ (fun q => by omega)]
        exact hd j (by omega) b
      · by_cases eb : b = c
        · subst eb
          have hcg := dee_congr (d := μ' 2 n) (d' := Dd) (b := b) (home := μ 15 0 b) (k := k) hk (fun j a c => hd _ (by omega) (by omega))
          rw [← hcg.1, ← hcg.2.1, ← hcg.2.2]
          exact g2 k hk.1 (by omega)
        · rw [g1 _ _ _ (fun q => by omega), g1 _ _ _ (fun q => by omega), g1 _ _ _ (fun q => by omega)]
          exact hw b k (by omega) hk
  -- who acts
  have first : ∀ c, 0 ≤ c → c ≤ 144 → ∀ μ', oh_off 1 n 0 144 μ μ' → (∀ j, 0 ≤ j → j < c → μ' 1 n j = Aw (μ 8 0) (μ 0 n 0) j) → G 3 [some (oR 0 n), some (oR 7 0), some (oR 11 1), some (oR 15 0), some (oI c)] [] μ' := by
    refine oh_for (F := fun c => 0 ≤ c → c ≤ 144 → ∀ μ', oh_off 1 n 0 144 μ μ' → (∀ j, 0 ≤ j → j < c → μ' 1 n j = Aw (μ 8 0) (μ 0 n 0) j) → G 3 [some (oR 0 n), some (oR 7 0), some (oR 11 1), some (oR 15 0), some (oI c)] [] μ') 144 ?_ ?_
    · intro c hc h0 h1 μ' hof ha
      have e11 : μ' 11 1 = μ 11 1 := off_row hof (fun q => absurd q.1 (by decide))
      have e12 : μ' 12 1 = μ 12 1 := off_row hof (fun q => absurd q.1 (by decide))
      have e0 : μ' 0 n = μ 0 n := off_row hof (fun q => absurd q.1 (by decide))
      refine oh_go hG [(50, 5)] 40 ?_
      refine And.intro (fun _ => ?_) (fun x => absurd hc x)
      refine And.intro ?_ trivial
      refine And.intro ⟨rfl, tq_row hq e11 e12, ?_⟩ ?_
      · unfold ov
        rw [e11, e12, hEe]
        exact hv
      · rw [e11, e12, hEe]
        intro μ2 g1 g2 g3
        have ha2 : ∀ j, 0 ≤ j → j < 144 → μ' 1 n j = Aw (μ 8 0) (μ 0 n 0) j := fun j a b => ha j a (by omega)
        refine third 0 (by omega) (by omega) μ2 (fun s' n' j' g => ?_) ?_ (fun j a b => ?_) ?_ (fun j a b => ?_) (fun b k hb => absurd hb.2 (by omega))
        · rw [g1 s' n' j' (fun q => g ⟨by omega, q.2⟩) (fun q => g ⟨by omega, q.2.1⟩)]
          exact hof s' n' j' (fun q => g ⟨by omega, q.2.1⟩)
        · rw [g1 _ _ _ (fun q => absurd q.1 (by decide)) (fun q => absurd q.2.2 (by decide)), e0]
        · rw [g1 _ _ _ (fun q => absurd q.1 (by decide)) (fun q => absurd q.1 (by decide))]
          exact ha2 j a b
        · rw [g3, mk_congr _ (fun j a b => dn_congr (ha2 _ ?_ ?_))]
          · have hvj := hv j a (by omega)
            unfold oc
            omega
          · have hvj := hv j a (by omega)
            unfold oc
            omega
        · rw [g2 j (by omega) b, dd_congr (ha2 j (by omega) b), hD]
    · intro c hc ih h0 h1 μ' hof ha
      have e8 : μ' 8 0 = μ 8 0 := off_row hof (fun q => absurd q.1 (by decide))
      have e0 : μ' 0 n = μ 0 n := off_row hof (fun q => absurd q.1 (by decide))
      refine oh_go hG [(3, 5)] 40 ?_
      refine And.intro (fun x => absurd x (by omega)) (fun _ => ?_)
      refine And.intro (by omega) ?_
      refine And.intro (by omega) ?_
      refine And.intro ?_ trivial
      rw [e0]
      refine And.intro ⟨by rw [e8]; exact ht, by omega, by omega⟩ ?_
      rw [e8]
      refine And.intro (by omega) ?_
      refine And.intro (by omega) ?_
      refine ih (by omega) (by omega) _ (oh_off_up hof h0 hc) (fun j a b => ?_)
      by_cases e : j = c
      · rw [e]
        exact oh_up_s
      · rw [oh_up_o (fun q => e q.2.2)]
        exact ha j a (by omega)
  refine oh_go hG [(3, 5)] 5 ?_
  exact first 0 (by omega) (by omega) μ oh_off_rf (fun j a b => absurd b (by omega))
