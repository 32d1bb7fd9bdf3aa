/-! THE FACE: questions of what is done -/
noncomputable def ddA (A : Ab) (l : Int) : Int → Int := dd (Aw (aw A) l) (A 1) (tE 1 A).toNat
noncomputable def dnA (A : Ab) (l : Int) : Int → Bool := dn (Aw (aw A) l) (A 1)
/-- deed, place, tiredness of a cell by a law -/
noncomputable def cD (A : Ab) (l c : Int) : Int := dee (ddA A l) (c / 24) (A 3 (c / 24)) (c % 24)
noncomputable def cP (A : Ab) (l c : Int) : Int := pla (ddA A l) (c / 24) (A 3 (c / 24)) (c % 24)
noncomputable def cT (A : Ab) (l c : Int) : Int := tir (ddA A l) (c / 24) (A 3 (c / 24)) (c % 24)
theorem fr_c {A : Ab} {l : Nat} {μ : Mem} (h : Fresh A l μ) {c : Int} (hc : 0 ≤ c ∧ c < 144) : μ 2 l c = cD A l c ∧ μ 3 l c = cP A l c ∧ μ 4 l c = cT A l c := by
  have := h.2.1 (c / 24) (c % 24) (by omega) (by omega)
  have e : c / 24 * 24 + c % 24 = c := by omega
  rw [e] at this
  exact this
theorem fr_o {A : Ab} {l : Nat} {μ : Mem} (h : Fresh A l μ) : μ 0 l 7 = ((mk (dnA A l) (tE 1 A).toNat : Nat) : Int) := h.2.2
theorem lawN {A : Ab} {μ : Mem} (hR : RepC A μ) : (((A 2 2).toNat : Nat) : Int) = A 2 2 := by have := (law_at hR).2.1; omega
theorem tE_rg {n : Nat} {A : Ab} (hl : 0 ≤ tl n A ∧ tl n A ≤ 99) : 0 ≤ tE n A ∧ tE n A ≤ 20 := ents_rg hl
theorem RepX_len {A : Ab} {μ : Mem} (h : RepC A μ) {n : Nat} (hn : n < 2) : 0 ≤ tl n A ∧ tl n A ≤ 99 := (RepX_n h.1 hn).2.2.2.1
noncomputable def s_done (A : Ab) (o : Int) : Int × Ab := if 0 ≤ o ∧ o < tE 1 A then (if dnA A (A 2 2) o = true then 1 else 0, A) else (-2, A)
theorem mk_bitI {p : Int → Bool} {n : Nat} {o : Int} (h0 : 0 ≤ o) (h1 : o < n) : (mk p n).testBit o.toNat = p o := by
  rw [mk_bit, decide_eq_true (by omega : o.toNat < n), Bool.true_and]
  have e : ((o.toNat : Nat) : Int) = o := by omega
  rw [e]
/-- isObeyed of a day that is lived -/
theorem T_obeyed {A : Ab} {μ : Mem} {Post : Po} {o : Int} (hR : RepC A μ) (hF : Fresh A (A 2 2).toNat μ) (h0 : 0 ≤ o) (h1 : o < tE 1 A) (ht : dnA A (A 2 2) o = true → Post (some (oI 1)) μ) (hf : ¬ dnA A (A 2 2) o = true → Post (some (oI 0)) μ) : T_X0_isObeyed [oR 0 (A 2 2).toNat, oI o] μ Post := by
  have hE := tE_rg (RepX_len hR (n := 1) (by omega))
  have e := lawN hR
  refine ⟨mk (dnA A (A 2 2)) (tE 1 A).toNat, by rw [fr_o hF, e], mk_lt31 _ (by omega), ⟨h0, by omega⟩, ?_, ?_⟩
  · rw [mk_bitI h0 (by omega)]
    exact ht
  · rw [mk_bitI h0 (by omega)]
    exact hf
def T_X4_done : Tr := tC1 s_done
theorem ok_X4_done : oh_Ok (pg_X4_done T_X3_entries T_X4_isBelow T_X4_dayBy T_X0_isObeyed) 2 T_X4_done := by
  refine tO1_ok fun n o μ Post G hG hn ho hM h => ?_
  obtain rfl := n13 hn
  obtain ⟨A, hR, h⟩ := h
  unfold s_done at h
  refine oh_go hG [] 40 ?_
  refine And.intro ?_ trivial
  refine And.intro (RepT_tq hR.1.2.1) ?_
  rw [RepT_ents hR.1.2.1]
  refine And.intro ?_ trivial
  refine And.intro (fun x => ⟨fun _ => ?_, fun y => absurd (by decide) y⟩) (fun x => ⟨fun y => absurd rfl y, fun _ => ?_⟩)
  · rw [if_pos x] at h
    refine And.intro (T_day hR (fun μ1 g1 g2 g3 => ?_)) trivial
    refine And.intro (T_obeyed g1 g3 x.1 x.2 (fun y => ?_) (fun y => ?_)) trivial
    · rw [if_pos y] at h
      exact ⟨fun z => absurd z (by decide), fun _ => h μ1 g1 g2⟩
    · rw [if_neg y] at h
      exact ⟨fun _ => h μ1 g1 g2, fun z => absurd rfl z⟩
  · rw [if_neg x] at h
    exact h μ hR FrC_rf
def jd (p : Int → Bool) : Nat → Int → Int
  | 0, _ => -1
  | k + 1, o => if p o = true then jd p k (o + 1) else o
noncomputable def s_judged (A : Ab) : Int × Ab := (jd (dnA A (A 2 2)) (tE 1 A).toNat 0, A)
def T_X4_judged : Tr := tC0 s_judged
theorem ok_X4_judged : oh_Ok (pg_X4_judged T_X4_dayBy T_X3_entries T_X0_isObeyed) 4 T_X4_judged := by
  refine tO0_ok fun n μ Post G hG hn hM h => ?_
  obtain rfl := n13 hn
  obtain ⟨A, hR, h⟩ := h
  unfold s_judged at h
  dsimp only at h
  have hE := tE_rg (RepX_len hR (n := 1) (by omega))
  refine oh_go hG [(19, 4)] 40 ?_
  refine And.intro (T_day hR (fun μ1 g1 g2 g3 => ?_)) trivial
  refine And.intro ?_ trivial
  refine And.intro (RepT_tq g1.1.2.1) ?_
  rw [RepT_ents g1.1.2.1]
  have key : ∀ (k : Nat) (c : Int), 0 ≤ c → c + k = tE 1 A → Post (some (oI (jd (dnA A (A 2 2)) k c))) μ1 → G 19 [some (oR 13 0), some (oR 0 (A 2 2).toNat), some (oI (tE 1 A)), some (oI c)] [] μ1 := by
    intro k
    induction k with
    | zero =>
      intro c h0 h1 hp
      refine oh_go hG [(19, 4)] 40 ?_
      exact ⟨fun _ => hp, fun q => absurd q (by omega)⟩
    | succ k ih =>
      intro c h0 h1 hp
      unfold jd at hp
      refine oh_go hG [(19, 4)] 40 ?_
      refine And.intro (fun q => absurd q (by omega)) (fun _ => ?_)
      refine And.intro (T_obeyed g1 g3 h0 (by omega) (fun y => ?_) (fun y => ?_)) trivial
      · rw [if_pos y] at hp
        exact ⟨fun _ => ⟨by omega, ih _ (by omega) (by omega) hp⟩, fun z => absurd (by decide) z⟩
      · rw [if_neg y] at hp
        exact ⟨fun z => absurd rfl z, fun _ => hp⟩
  exact key _ 0 (by omega) (by omega) (h μ1 g1 g2)
noncomputable def bdy (A : Ab) (c w : Int) : Int := if w = 0 then cD A (A 2 2) c else if w = 1 then cP A (A 2 2) c else cT A (A 2 2) c
noncomputable def s_body (A : Ab) (b h w : Int) : Int × Ab := if ((0 ≤ b ∧ b < 6) ∧ 0 ≤ h ∧ h < 24) ∧ 0 ≤ w ∧ w ≤ 2 then (bdy A (b * 24 + h) w, A) else (-2, A)
def T_X4_body : Tr := tC3 s_body
theorem ok_X4_body : oh_Ok (pg_X4_body T_X4_isCell T_X4_dayBy T_X4_cell) 4 T_X4_body := by
  refine tO3_ok fun n b hh w μ Post G hG hn hb hh0 hw hM h => ?_
  obtain rfl := n13 hn
  obtain ⟨A, hR, h⟩ := h
  have hbad : ¬ (((0 ≤ b ∧ b < 6) ∧ 0 ≤ hh ∧ hh < 24) ∧ 0 ≤ w ∧ w ≤ 2) → Post (some (oI (-2))) μ := fun x => by
    have e : s_body A b hh w = (-2, A) := if_neg x
    rw [e] at h
    exact h μ hR FrC_rf
  refine oh_go hG [] 40 ?_
  refine And.intro ?_ trivial
  refine And.intro (fun x => ⟨fun _ => ?_, fun y => absurd (by decide) y⟩) (fun x => ⟨fun y => absurd rfl y, fun _ => hbad (fun q => x q.1)⟩)
  have hc : 0 ≤ b * 24 + hh ∧ b * 24 + hh < 144 := by omega
  refine And.intro (fun y => hbad (by omega)) ?_
  refine And.intro (fun y => ?_) (And.intro (fun y => ?_) (And.intro (fun y => ?_) trivial))
  · have e : s_body A b hh w = (cD A (A 2 2) (b * 24 + hh), A) := by
      unfold s_body bdy
      rw [if_pos ⟨x, by omega, by omega⟩, if_pos y]
    rw [e] at h
    refine And.intro (T_day hR (fun μ1 g1 g2 g3 => ?_)) trivial
    refine And.intro ⟨by omega, ?_⟩ trivial
    refine And.intro (by omega) ?_
    rw [(fr_c g3 hc).1, lawN hR]
    exact h μ1 g1 g2
  · have e : s_body A b hh w = (cP A (A 2 2) (b * 24 + hh), A) := by
      unfold s_body bdy
      rw [if_pos ⟨x, by omega, by omega⟩, if_neg (by omega), if_pos y]
    rw [e] at h
    refine And.intro (T_day hR (fun μ1 g1 g2 g3 => ?_)) trivial
    refine And.intro ⟨by omega, ?_⟩ trivial
    refine And.intro (by omega) ?_
    rw [(fr_c g3 hc).2.1, lawN hR]
    exact h μ1 g1 g2
  · have e : s_body A b hh w = (cT A (A 2 2) (b * 24 + hh), A) := by
      unfold s_body bdy
      rw [if_pos ⟨x, by omega, by omega⟩, if_neg (by omega), if_neg (by omega)]
    rw [e] at h
    refine And.intro (T_day hR (fun μ1 g1 g2 g3 => ?_)) trivial
    refine And.intro ⟨by omega, ?_⟩ trivial
    refine And.intro (by omega) ?_
    rw [(fr_c g3 hc).2.2, lawN hR]
    exact h μ1 g1 g2
noncomputable def mtB (A : Ab) (a b h : Int) : Bool := decide (cP A (A 2 2) (a * 24 + h) = cP A (A 2 2) (b * 24 + h))
noncomputable def s_met (A : Ab) (a b : Int) : Int × Ab := if (0 ≤ a ∧ a < 6) ∧ (0 ≤ b ∧ b < 6) ∧ a ≠ b then (((mk (mtB A a b) 24 : Nat) : Int), A) else (-2, A)
def T_X4_met : Tr := tC2 s_met
theorem ok_X4_met : oh_Ok (pg_X4_met T_X4_areTwo T_X4_dayBy T_X4_cell) 6 T_X4_met := by
  refine tO2_ok fun n a b μ Post G hG hn ha hb hM h => ?_
  obtain rfl := n13 hn
  obtain ⟨A, hR, h⟩ := h
  unfold s_met at h
  refine oh_go hG [(26, 6)] 40 ?_
  refine And.intro ?_ trivial
  refine And.intro (fun x => ⟨fun _ => ?_, fun y => absurd (by decide) y⟩) (fun x => ⟨fun y => absurd rfl y, fun _ => ?_⟩)
  · rw [if_pos x] at h
    refine And.intro (T_day hR (fun μ1 g1 g2 g3 => ?_)) trivial
    have key : ∀ c, 0 ≤ c → c ≤ 24 → G 26 [some (oR 13 0), some (oI a), some (oI b), some (oR 0 (A 2 2).toNat), some (oI ((mk (mtB A a b) c.toNat : Nat) : Int)), some (oI c)] [] μ1 := by
      refine oh_for (F := fun c => 0 ≤ c → c ≤ 24 → G 26 [some (oR 13 0), some (oI a), some (oI b), some (oR 0 (A 2 2).toNat), some (oI ((mk (mtB A a b) c.toNat : Nat) : Int)), some (oI c)] [] μ1) 24 ?_ ?_
      · intro c hc h0 h1
        have e : c = 24 := by omega
        subst e
        refine oh_go hG [(26, 6)] 40 ?_
        exact ⟨fun _ => h μ1 g1 g2, fun q => absurd hc q⟩
      · intro c hc ih h0 h1
        have ih := ih (by omega) (by omega)
        refine oh_go hG [(26, 6)] 40 ?_
        refine And.intro (fun q => absurd q (by omega)) (fun _ => ?_)
        refine And.intro ⟨by omega, ?_⟩ trivial
        refine And.intro (by omega) ?_
        refine And.intro ⟨by omega, ?_⟩ trivial
        refine And.intro (by omega) ?_
        rw [(fr_c g3 (c := a * 24 + c) (by omega)).2.1, (fr_c g3 (c := b * 24 + c) (by omega)).2.1, lawN hR]
        refine And.intro (fun q => ?_) (fun q => ?_)
        · rw [mk_skip h0 (by unfold mtB; rw [decide_eq_true_eq]; exact q)] at ih
          exact ⟨by omega, ih⟩
        · refine And.intro (by omega) ?_
          rw [mk_put h0 (by omega) (by unfold mtB; rw [decide_eq_true_eq]; exact Classical.not_not.mp q)]
          exact ih
    exact key 0 (by omega) (by omega)
  · rw [if_neg x] at h
    exact h μ hR FrC_rf
noncomputable def slB (A : Ab) (a b h : Int) : Bool := decide (1 ≤ h ∧ ¬ an A b h = -1 ∧ an A b h = an A a (h - 1))
noncomputable def s_slips (A : Ab) (a b : Int) : Int × Ab := if (0 ≤ a ∧ a < 6) ∧ (0 ≤ b ∧ b < 6) ∧ a ≠ b then (((mk (slB A a b) 24 : Nat) : Int), A) else (-2, A)
def T_X4_slips : Tr := tC2 s_slips
theorem slB_1 (A : Ab) (a b : Int) : mk (slB A a b) (1 : Int).toNat = 0 := by
  show mk (slB A a b) 0 + (if slB A a b ((0 : Nat) : Int) then 2 ^ 0 else 0) = 0
  have : slB A a b ((0 : Nat) : Int) = false := by
    unfold slB
    exact decide_eq_false (fun q => absurd q.1 (by decide))
  rw [this]
  rfl
theorem ok_X4_slips : oh_Ok (pg_X4_slips T_X4_areTwo T_X4_dayBy T_X4_cell) 7 T_X4_slips := by
  refine tO2_ok fun n a b μ Post G hG hn ha hb hM h => ?_
  obtain rfl := n13 hn
  obtain ⟨A, hR, h⟩ := h
  unfold s_slips at h
  refine oh_go hG [(26, 6)] 40 ?_
  refine And.intro ?_ trivial
  refine And.intro (fun x => ⟨fun _ => ?_, fun y => absurd (by decide) y⟩) (fun x => ⟨fun y => absurd rfl y, fun _ => ?_⟩)
  · rw [if_pos x] at h
    refine And.intro (T_day hR (fun μ1 g1 g2 g3 => ?_)) trivial
    have key : ∀ c, 1 ≤ c → c ≤ 24 → G 26 [some (oR 13 0), some (oI a), some (oI b), some (oR 0 (A 2 2).toNat), some (oI ((mk (slB A a b) c.toNat : Nat) : Int)), some (oI c), none] [] μ1 := by
      refine oh_for (F := fun c => 1 ≤ c → c ≤ 24 → G 26 [some (oR 13 0), some (oI a), some (oI b), some (oR 0 (A 2 2).toNat), some (oI ((mk (slB A a b) c.toNat : Nat) : Int)), some (oI c), none] [] μ1) 24 ?_ ?_
      · intro c hc h0 h1
        have e : c = 24 := by omega
        subst e
        refine oh_go hG [(26, 6)] 40 ?_
        exact ⟨fun _ => h μ1 g1 g2, fun q => absurd hc q⟩
      · intro c hc ih h0 h1
        have ih := ih (by omega) (by omega)
        refine oh_go hG [(26, 6)] 50 ?_
        refine And.intro (fun q => absurd q (by omega)) (fun _ => ?_)
        refine And.intro ⟨by omega, ?_⟩ trivial
        refine And.intro (by omega) ?_
        rw [fr_act g1 g3 (b := b) (x := c) (by omega) (by omega)]
        refine And.intro (fun q => ?_) (fun q => ?_)
        · rw [mk_skip (by omega) (by unfold slB; rw [decide_eq_true_eq]; exact fun z => z.2.1 q)] at ih
          exact ⟨by omega, ih⟩
        · refine And.intro (by omega) ?_
          refine And.intro ⟨by omega, ?_⟩ trivial
          refine And.intro (by omega) ?_
          rw [fr_act g1 g3 (b := a) (x := c - 1) (by omega) (by omega)]
          refine And.intro (fun r => ?_) (fun r => ?_)
          · rw [mk_skip (by omega) (by unfold slB; rw [decide_eq_true_eq]; exact fun z => r z.2.2)] at ih
            exact ⟨by omega, ih⟩
          · refine And.intro (by omega) ?_
            rw [mk_put (by omega) (by omega) (by unfold slB; rw [decide_eq_true_eq]; exact ⟨h0, q, Classical.not_not.mp r⟩)]
            exact ih
    have w := key 1 (by omega) (by omega)
    rw [slB_1] at w
    exact w
  · rw [if_neg x] at h
    exact h μ hR FrC_rf
/-- how many bodies a person acts in in an hour; hours of work till n are done -/
noncomputable def cnb (A : Ab) (p h : Int) : Int := sm (fun b => if an A b h = p then 1 else 0) 6
theorem cnb_rg (A : Ab) (p h : Int) : 0 ≤ cnb A p h ∧ cnb A p h ≤ 6 := by
  have := sm_rg (f := fun b => if an A b h = p then 1 else 0) (a := 0) (b := 1) (fun j => by split <;> omega) (fun j => by split <;> omega) 6
  unfold cnb
  omega
def sn (f : Int → Int) (n : Int) : Nat → Int → Int → Int
  | 0, _, _ => -1
  | k + 1, h, w => if w + f h < n then sn f n k (h + 1) (w + f h) else h
noncomputable def s_soonest (A : Ab) (p n : Int) : Int × Ab := if (0 ≤ p ∧ p < 6) ∧ 1 ≤ n ∧ n ≤ 99 then (sn (cnb A p) n 24 0 0, A) else (-2, A)
def T_X4_soonest : Tr := tC2 s_soonest
theorem ok_X4_soonest : oh_Ok (pg_X4_soonest T_X4_isBelow T_X4_isWork T_X4_dayBy T_X0_bodiesOf) 6 T_X4_soonest := by
  refine tO2_ok fun m p n μ Post G hG hm hp hn hM h => ?_
  obtain rfl := n13 hm
  obtain ⟨A, hR, h⟩ := h
  have hbad : ¬ ((0 ≤ p ∧ p < 6) ∧ 1 ≤ n ∧ n ≤ 99) → Post (some (oI (-2))) μ := fun x => by
    have e : s_soonest A p n = (-2, A) := if_neg x
    rw [e] at h
    exact h μ hR FrC_rf
  refine oh_go hG [(34, 6)] 40 ?_
  refine And.intro ?_ trivial
  refine And.intro (fun x => ?_) (fun x => ⟨fun _ => hbad (fun q => x q.1), fun y => absurd rfl y⟩)
  refine And.intro (fun y => absurd y (by decide)) (fun _ => ?_)
  refine And.intro ?_ trivial
  refine And.intro (fun z => ?_) (fun z => ⟨fun y => absurd rfl y, fun _ => hbad (fun q => z q.2)⟩)
  refine And.intro (fun _ => ?_) (fun y => absurd (by decide) y)
  have e : s_soonest A p n = (sn (cnb A p) n 24 0 0, A) := if_pos ⟨x, z⟩
  rw [e] at h
  dsimp only at h
  refine And.intro (T_day hR (fun μ1 g1 g2 g3 => ?_)) trivial
  have key : ∀ (k : Nat) (c w : Int), 0 ≤ c → c + k = 24 → (0 ≤ w ∧ w ≤ 6 * c) → Post (some (oI (sn (cnb A p) n k c w))) μ1 → G 34 [some (oR 13 0), some (oI p), some (oI n), some (oR 0 (A 2 2).toNat), some (oI w), some (oI c)] [] μ1 := by
    intro k
    induction k with
    | zero =>
      intro c w h0 h1 hw hp
      refine oh_go hG [(34, 6)] 40 ?_
      exact ⟨fun _ => hp, fun q => absurd q (by omega)⟩
    | succ k ih =>
      intro c w h0 h1 hw hp
      have hc := cnb_rg A p c
      unfold sn at hp
      have e5 : sm (fun b => is1 (μ1 1 (A 2 2).toNat) p (b * 24 + c)) 6 = cnb A p c := sm_congr 6 (fun b a d => by
        unfold is1
        rw [fr_act g1 g3 (by omega) (by omega)])
      refine oh_go hG [(34, 6)] 40 ?_
      refine And.intro (fun q => absurd q (by omega)) (fun _ => ?_)
      refine And.intro ?_ trivial
      refine And.intro (by omega) ?_
      rw [e5]
      refine And.intro (by omega) ?_
      refine And.intro (fun q => ?_) (fun q => ?_)
      · rw [if_pos q] at hp
        exact ⟨by omega, ih _ _ (by omega) (by omega) (by omega) hp⟩
      · rw [if_neg q] at hp
        exact hp
  exact key 24 0 0 (by omega) (by omega) (by omega) (h μ1 g1 g2)
theorem ahm_cg {pl pl' : Int → Int} {fl : Int} {r r' : Int → Int} {b h : Int} (hb : 0 ≤ b ∧ b < 6) (hh : 0 ≤ h ∧ h < 24) (hp : ∀ c, 0 ≤ c → c < 144 → pl c = pl' c) (hr : ∀ j, 0 ≤ j → j < 6 → r j = r' j) : ahm pl fl r b h = ahm pl' fl r' b h := by
  unfold ahm
  by_cases h0 : 0 < h
  · rw [if_pos h0, if_pos h0]
    refine mx_congr 6 (fun j a c => ?_)
    unfold ahd
    rw [hr j a (by omega), hp (j * 24 + (h - 1)) (by omega) (by omega), hp (b * 24 + (h - 1)) (by omega) (by omega)]
  · rw [if_neg h0, if_neg h0]
theorem rnw_cg {a a' pl pl' : Int → Int} {p fl : Int} {r r' : Int → Int} {h b : Int} (hb : 0 ≤ b ∧ b < 6) (hh : 0 ≤ h ∧ h < 24) (ha : ∀ c, 0 ≤ c → c < 144 → a c = a' c) (hp : ∀ c, 0 ≤ c → c < 144 → pl c = pl' c) (hr : ∀ j, 0 ≤ j → j < 6 → r j = r' j) : rnw a pl p fl r h b = rnw a' pl' p fl r' h b := by
  unfold rnw
  rw [ahm_cg hb hh hp hr, ha (b * 24 + h) (by omega) (by omega)]
theorem er_cg {a a' pl pl' : Int → Int} {p fl : Int} (ha : ∀ c, 0 ≤ c → c < 144 → a c = a' c) (hp : ∀ c, 0 ≤ c → c < 144 → pl c = pl' c) : ∀ (h : Nat), h < 24 → ∀ b, 0 ≤ b → b < 6 → er a pl p fl h b = er a' pl' p fl h b
  | 0, _, b, h0, h1 => rnw_cg ⟨h0, h1⟩ (by omega) ha hp (fun _ _ _ => rfl)
  | h + 1, hh, b, h0, h1 => rnw_cg ⟨h0, h1⟩ (by omega) ha hp (fun j a c => er_cg ha hp h (by omega) j a c)
theorem lr_cg {a a' pl pl' : Int → Int} {p fl : Int} (ha : ∀ c, 0 ≤ c → c < 144 → a c = a' c) (hp : ∀ c, 0 ≤ c → c < 144 → pl c = pl' c) : ∀ (k : Nat), k ≤ 24 → lr a pl p fl k = lr a' pl' p fl k
  | 0, _ => rfl
  | k + 1, hk => by
    have e1 := lr_cg (p := p) (fl := fl) ha hp k (by omega)
    have e2 : Rr a pl p fl k = Rr a' pl' p fl k := mx_congr 6 (fun j x y => er_cg ha hp k (by omega) j x (by omega))
    show (if (lr a pl p fl k).1 < Rr a pl p fl k then (Rr a pl p fl k, k - Rr a pl p fl k + 1) else lr a pl p fl k) = (if (lr a' pl' p fl k).1 < Rr a' pl' p fl k then (Rr a' pl' p fl k, k - Rr a' pl' p fl k + 1) else lr a' pl' p fl k)
    rw [e1, e2]
/-- the longest row and where it begins, by the LAW as it is -/
noncomputable def rn (A : Ab) (p fl : Int) : Int × Int := lr (Aw (aw A) (A 2 2)) (cP A (A 2 2)) p fl 24
noncomputable def rnA (A : Ab) (p w : Int) : Int := if w = 0 then (rn A p 0).1 else if w = 1 then (rn A p 0).2 else if w = 2 then (rn A p 1).1 else (rn A p 1).2
noncomputable def s_run (A : Ab) (p w : Int) : Int × Ab := if (0 ≤ p ∧ p < 6) ∧ 0 ≤ w ∧ w ≤ 3 then (rnA A p w, A) else (-2, A)
def T_X4_run : Tr := tC2 s_run
theorem fr_rn {A : Ab} {μ : Mem} (hR : RepC A μ) (hF : Fresh A (A 2 2).toNat μ) (p fl : Int) : lr (μ 1 (A 2 2).toNat) (μ 3 (A 2 2).toNat) p fl 24 = rn A p fl := lr_cg (fun c a b => by rw [hF.1 c a b, lawN hR]) (fun c a b => by rw [(fr_c hF ⟨a, b⟩).2.1, lawN hR]) 24 (by omega)
theorem rows_keep {A : Ab} {n : Nat} {μ μ' : Mem} (h : RepC A μ) (hk : rowsOff n μ μ') : RepC A μ' ∧ FrC μ μ' := ⟨RepC_keep h (fun s m _ hs => funext fun j => hk s m j (fun q => hs (by omega))), fun s m hs => funext fun j => hk s m j (by omega)⟩
theorem ok_X4_run : oh_Ok (pg_X4_run T_X4_isBelow T_X4_dayBy T_X0_longestRow T_X0_firstOfRow) 3 T_X4_run := by
  refine tO2_ok fun n p w μ Post G hG hn hp hw hM h => ?_
  obtain rfl := n13 hn
  obtain ⟨A, hR, h⟩ := h
  have hbad : ¬ ((0 ≤ p ∧ p < 6) ∧ 0 ≤ w ∧ w ≤ 3) → Post (some (oI (-2))) μ := fun x => by
    have e : s_run A p w = (-2, A) := if_neg x
    rw [e] at h
    exact h μ hR FrC_rf
  refine oh_go hG [] 40 ?_
  refine And.intro ?_ trivial
  refine And.intro (fun x => ⟨fun _ => ?_, fun y => absurd (by decide) y⟩) (fun x => ⟨fun y => absurd rfl y, fun _ => hbad (fun q => x q.1)⟩)
  refine And.intro (fun y => hbad (by omega)) ?_
  refine And.intro (fun y => ?_) (And.intro (fun y => ?_) (And.intro (fun y => ?_) (And.intro (fun y => ?_) trivial)))
  · have e : s_run A p w = ((rn A p 0).1, A) := by
      unfold s_run rnA
      rw [if_pos ⟨x, by omega, by omega⟩, if_pos y]
    rw [e] at h
    refine And.intro (T_day hR (fun μ1 g1 g2 g3 => ?_)) trivial
    refine And.intro (fun μ2 g4 => ?_) trivial
    rw [fr_rn g1 g3]
    exact h μ2 (rows_keep g1 g4).1 (FrC_tr g2 (rows_keep g1 g4).2)
  · have e : s_run A p w = ((rn A p 0).2, A) := by
      unfold s_run rnA
      rw [if_pos ⟨x, by omega, by omega⟩, if_neg (by omega), if_pos y]
    rw [e] at h
    refine And.intro (T_day hR (fun μ1 g1 g2 g3 => ?_)) trivial
    refine And.intro (fun μ2 g4 => ?_) trivial
    rw [fr_rn g1 g3]
    exact h μ2 (rows_keep g1 g4).1 (FrC_tr g2 (rows_keep g1 g4).2)
  · have e : s_run A p w = ((rn A p 1).1, A) := by
      unfold s_run rnA
      rw [if_pos ⟨x, by omega, by omega⟩, if_neg (by omega), if_neg (by omega), if_pos y]
    rw [e] at h
    refine And.intro (T_day hR (fun μ1 g1 g2 g3 => ?_)) trivial
    refine And.intro (fun μ2 g4 => ?_) trivial
    rw [fr_rn g1 g3]
    exact h μ2 (rows_keep g1 g4).1 (FrC_tr g2 (rows_keep g1 g4).2)
  · have e : s_run A p w = ((rn A p 1).2, A) := by
      unfold s_run rnA
      rw [if_pos ⟨x, by omega, by omega⟩, if_neg (by omega), if_neg (by omega), if_neg (by omega)]
    rw [e] at h
    refine And.intro (T_day hR (fun μ1 g1 g2 g3 => ?_)) trivial
    refine And.intro (fun μ2 g4 => ?_) trivial
    rw [fr_rn g1 g3]
    exact h μ2 (rows_keep g1 g4).1 (FrC_tr g2 (rows_keep g1 g4).2)
