/-! THE MODEL reads the texts from the start, each time -/
def Gd (t : Nat) (A : Ab) (p : Int) : Prop := (0 ≤ p ∧ p ≤ tl t A) ∧ brk t (A t) p.toNat = -1
theorem gd_0 {t : Nat} {A : Ab} (h : 0 ≤ tl t A) : Gd t A 0 := ⟨⟨by omega, h⟩, rfl⟩
theorem brk_sc {t : Nat} {f : Int → Int} {p : Int} (h : 0 ≤ p) : brk t f (p + 1).toNat = if brk t f p.toNat = -1 then oh_if (cgo t f p (f p)) (-1) p else brk t f p.toNat := by
  have e : (p + 1).toNat = p.toNat + 1 := by omega
  have e2 : ((p.toNat : Nat) : Int) = p := by omega
  rw [e]
  show (if brk t f p.toNat = -1 then oh_if (cgo t f (p.toNat : Int) (f (p.toNat : Int))) (-1) (p.toNat : Int) else brk t f p.toNat) = _
  rw [e2]
theorem gd_s {t : Nat} {A : Ab} {p : Int} (h : Gd t A p) (h1 : p < tl t A) (hc : cgo t (A t) p (A t p)) : Gd t A (p + 1) := by
  refine ⟨by have := h.1; omega, ?_⟩
  rw [brk_sc h.1.1, if_pos h.2, oh_if_t hc]
theorem brk_stay {t : Nat} {f : Int → Int} {v : Int} (hv : ¬ v = -1) {M : Nat} (h : brk t f M = v) : ∀ d : Nat, brk t f (M + d) = v
  | 0 => h
  | d + 1 => by
    have ih := brk_stay hv h d
    show (if brk t f (M + d) = -1 then _ else brk t f (M + d)) = v
    rw [ih, if_neg hv]
theorem gd_bad {t : Nat} {A : Ab} {p : Int} (h : Gd t A p) (h1 : p < tl t A → ¬ cgo t (A t) p (A t p)) (h2 : ¬ p % stp t = stp t - 1) (h3 : ¬ tl t A = 0) : flw t (tl t A) (tB t A) = p ∧ tE t A = 0 := by
  have h0 := h.1
  have hf : flw t (tl t A) (tB t A) = p := by
    by_cases e : p < tl t A
    · have hb : brk t (A t) (p + 1).toNat = p := by
        rw [brk_sc h0.1, if_pos h.2, oh_if_f (h1 e)]
      have : tB t A = p := by
        unfold tB
        have := brk_stay (by omega) hb ((tl t A).toNat - (p + 1).toNat)
        rw [show (p + 1).toNat + ((tl t A).toNat - (p + 1).toNat) = (tl t A).toNat by omega] at this
        exact this
      unfold flw
      rw [this, if_pos (by omega)]
    · have e2 : p = tl t A := by omega
      have hb : tB t A = -1 := by
        unfold tB
        rw [← e2]
        exact h.2
      unfold flw
      rw [hb, if_neg (by omega), if_neg (by rw [← e2]; rw [← e2] at h3; omega), e2]
  refine ⟨hf, ?_⟩
  unfold tE ents
  rw [hf, if_neg (by omega)]
theorem gd_end {t : Nat} {A : Ab} {k : Int} (h : Gd t A (tl t A)) (e : tl t A = k * stp t + (stp t - 1)) : flw t (tl t A) (tB t A) = -1 ∧ tE t A = k + 1 := by
  have hb : tB t A = -1 := h.2
  have hf : flw t (tl t A) (tB t A) = -1 := by
    unfold flw
    rw [hb, if_neg (by omega), if_pos]
    right
    rcases stp_pos t with e1 | e1 <;> rw [e1] at e ⊢ <;> omega
  refine ⟨hf, ?_⟩
  unfold tE ents
  rw [hf, if_pos rfl]
  rcases stp_pos t with e1 | e1 <;> rw [e1] at e ⊢ <;> omega
theorem gd_none {t : Nat} {A : Ab} (e : tl t A = 0) : flw t (tl t A) (tB t A) = -1 ∧ tE t A = 0 := by
  have hb : tB t A = -1 := by
    unfold tB
    rw [e]
    rfl
  have hf : flw t (tl t A) (tB t A) = -1 := by
    unfold flw
    rw [hb, e, if_neg (by omega), if_pos (Or.inl rfl)]
  refine ⟨hf, ?_⟩
  unfold tE ents
  rw [hf, if_pos rfl, e]
  rcases stp_pos t with e1 | e1 <;> rw [e1] <;> omega
def atM (μ : Mem) (q : Int) (μ' : Mem) : Prop := (∀ s n j, ¬ (s = 22 ∧ n = 0 ∧ j = 7) → μ' s n j = μ s n j) ∧ μ' 22 0 7 = q
theorem atM_tr {μ μ1 μ2 : Mem} {q r : Int} (h : atM μ q μ1) (h' : atM μ1 r μ2) : atM μ r μ2 := ⟨fun s n j hs => (h'.1 s n j hs).trans (h.1 s n j hs), h'.2⟩
theorem atM_k {μ μ1 : Mem} {q : Int} (h : atM μ q μ1) : kM μ μ1 := fun s n j hs => h.1 s n j (fun z => hs (Or.inl ⟨z.1, Or.inl z.2.2⟩))
def T_X5_figure : Tr := tO2 22 fun n t most μ Post => ∃ A, ValA A ∧ RepM A μ ∧ (0 ≤ t ∧ t ≤ 1) ∧ (0 ≤ μ 22 0 7 ∧ μ 22 0 7 ≤ tl t.toNat A) ∧
  ((μ 22 0 7 < tl t.toNat A ∧ 0 ≤ A t.toNat (μ 22 0 7) - 48 ∧ A t.toNat (μ 22 0 7) - 48 ≤ most) → ∀ μ', atM μ (μ 22 0 7 + 1) μ' → Post (some (oI (A t.toNat (μ 22 0 7) - 48))) μ') ∧
  (¬ (μ 22 0 7 < tl t.toNat A ∧ 0 ≤ A t.toNat (μ 22 0 7) - 48 ∧ A t.toNat (μ 22 0 7) - 48 ≤ most) → Post (some (oI (-1))) μ)
theorem ok_X5_figure : oh_Ok (pg_X5_figure T_X5_in) 4 T_X5_figure := by
  refine tO2_ok fun n t most μ Post G hG hn ht hmo hM h => ?_
  obtain rfl := n22 hn
  obtain ⟨A, hV, hR, ht2, hp, h1, h2⟩ := h
  have et : ((t.toNat : Nat) : Int) = t := by omega
  have hl := (hR.2.1 t.toNat (by omega)).1
  have hb := (hR.2.1 t.toNat (by omega)).2 (μ 22 0 7)
  have hlv := (hV.1 t.toNat (by omega)).1
  have hbv := (hV.1 t.toNat (by omega)).2 (μ 22 0 7)
  rw [et] at hl hb
  refine oh_go hG [] 60 ?_
  refine And.intro (by omega) ?_
  rw [hl]
  refine And.intro (fun q => ?_) (fun q => ?_)
  · refine And.intro ?_ trivial
    refine And.intro (fun w => absurd w (by show ¬ ((0 : Int) ≤ -1 ∧ _); omega)) (fun w => ?_)
    refine And.intro (fun y => absurd rfl y) (fun _ => h2 (by omega))
  · have hb := hb (by omega) (by omega)
    have hbv := hbv (by omega) (by omega)
    refine And.intro (by omega) ?_
    refine And.intro (by omega) ?_
    refine And.intro (by omega) ?_
    rw [hb]
    refine And.intro (by omega) ?_
    refine And.intro ?_ trivial
    refine And.intro (fun w => ?_) (fun w => ?_)
    · have w : 0 ≤ A t.toNat (μ 22 0 7) - 48 ∧ A t.toNat (μ 22 0 7) - 48 ≤ most := w
      refine And.intro (fun _ => ?_) (fun y => absurd (by decide) y)
      refine And.intro (by omega) ?_
      exact h1 ⟨by omega, w⟩ _ ⟨fun s n j hs => oh_up_o (fun z => hs ⟨z.1, z.2.1, z.2.2⟩), oh_up_s⟩
    · have w : ¬ (0 ≤ A t.toNat (μ 22 0 7) - 48 ∧ A t.toNat (μ 22 0 7) - 48 ≤ most) := w
      refine And.intro (fun y => absurd rfl y) (fun _ => h2 (fun z => w z.2))
def hD1 (A : Ab) (t : Nat) (p : Int) : Prop := p < tl t A ∧ 0 ≤ A t p - 48 ∧ A t p - 48 ≤ 2
def hD2 (A : Ab) (t : Nat) (p : Int) : Prop := p + 1 < tl t A ∧ 0 ≤ A t (p + 1) - 48 ∧ A t (p + 1) - 48 ≤ if A t p - 48 = 2 then 3 else 9
def T_X5_hour : Tr := tO1 22 fun n t μ Post => ∃ A p, ValA A ∧ RepM A μ ∧ (0 ≤ t ∧ t ≤ 1) ∧ μ 22 0 7 = p ∧ (0 ≤ p ∧ p ≤ tl t.toNat A) ∧
  (hD1 A t.toNat p ∧ hD2 A t.toNat p → ∀ μ', atM μ (p + 2) μ' → Post (some (oI (10 * (A t.toNat p - 48) + (A t.toNat (p + 1) - 48)))) μ') ∧
  (¬ hD1 A t.toNat p → Post (some (oI (-1))) μ) ∧ (hD1 A t.toNat p ∧ ¬ hD2 A t.toNat p → ∀ μ', atM μ (p + 1) μ' → Post (some (oI (-1))) μ')
theorem ok_X5_hour : oh_Ok (pg_X5_hour T_X5_figure) 4 T_X5_hour := by
  refine tO1_ok fun n t μ Post G hG hn ht hM h => ?_
  obtain rfl := n22 hn
  obtain ⟨A, p, hV, hR, ht2, rfl, hp, h1, h2, h3⟩ := h
  refine oh_go hG [] 60 ?_
  refine And.intro ⟨A, hV, hR, ht2, hp, fun ok μ1 k1 => ?_, fun no => ?_⟩ trivial
  · have hR1 := RepM_k hR (atM_k k1)
    have ok1 : hD1 A t.toNat (μ 22 0 7) := ok
    refine And.intro (fun _ => ?_) (fun q => absurd q (by omega))
    have hfin : ∀ (c : Int), (c = if A t.toNat (μ 22 0 7) - 48 = 2 then 3 else 9) → ∀ P : Po, (∀ μ2, atM μ (μ 22 0 7 + 2) μ2 → hD2 A t.toNat (μ 22 0 7) → P (some (oI (A t.toNat (μ 22 0 7 + 1) - 48))) μ2) → (¬ hD2 A t.toNat (μ 22 0 7) → P (some (oI (-1))) μ1) → T_X5_figure [oR 22 0, oI t, oI c] μ1 P := fun c hc P hy hno => by
      refine ⟨A, hV, hR1, ht2, by rw [k1.2]; have := ok.1; omega, fun w μ2 k2 => ?_, fun w => ?_⟩
      · rw [k1.2] at w k2 ⊢
        rw [show μ 22 0 7 + 1 + 1 = μ 22 0 7 + 2 by omega] at k2
        refine hy μ2 (atM_tr k1 k2) ?_
        unfold hD2
        rw [← hc]
        exact w
      · rw [k1.2] at w
        refine hno (fun z => w ?_)
        unfold hD2 at z
        rw [← hc] at z
        exact z
    refine And.intro (fun q => ?_) (fun q => ?_)
    · refine And.intro (hfin 9 (by rw [if_neg q]) _ (fun μ2 k2 w => ?_) (fun w => ?_)) trivial
      · have w2 := w.2
        refine And.intro (fun _ => ?_) (fun y => absurd y (by omega))
        refine And.intro (by omega) ?_
        have : A t.toNat (μ 22 0 7 + 1) - 48 ≤ 9 := by
          have := w2.2
          rw [if_neg q] at this
          exact this
        refine And.intro (by omega) ?_
        exact h1 ⟨ok1, w⟩ μ2 k2
      · refine And.intro (fun y => absurd rfl y) (fun _ => h3 ⟨ok1, w⟩ μ1 k1)
    · have q := Classical.not_not.mp q
      refine And.intro (hfin 3 (by rw [if_pos q]) _ (fun μ2 k2 w => ?_) (fun w => ?_)) trivial
      · have w2 := w.2
        refine And.intro (fun _ => ?_) (fun y => absurd y (by omega))
        refine And.intro (by omega) ?_
        have : A t.toNat (μ 22 0 7 + 1) - 48 ≤ 3 := by
          have := w2.2
          rw [if_pos q] at this
          exact this
        refine And.intro (by omega) ?_
        exact h1 ⟨ok1, w⟩ μ2 k2
      · refine And.intro (fun y => absurd rfl y) (fun _ => h3 ⟨ok1, w⟩ μ1 k1)
  · refine And.intro (fun y => absurd rfl y) (fun _ => ?_)
    exact And.intro (fun y => absurd rfl y) (fun _ => h2 no)
/-- the Model's grants and owners after k entries -/
def RdG (A : Ab) (k : Int) (μ : Mem) : Prop := μ 22 0 8 = k ∧ (∀ j, 0 ≤ j → j < k → μ 29 0 (3 * j) = bo 0 (A 0) j ∧ μ 29 0 (3 * j + 1) = ho 0 (A 0) j ∧ μ 29 0 (3 * j + 2) = la 0 (A 0) j) ∧ ∀ c, 0 ≤ c → c < 144 → μ 30 0 c = own (A 0) k.toNat c
/-- only what readsGrants fills changes -/
def kG (μ μ' : Mem) : Prop := ∀ s n j, ¬ (s = 22 ∧ (j = 7 ∨ j = 8) ∨ s = 29 ∨ s = 30) → μ' s n j = μ s n j
theorem kG_rf {μ : Mem} : kG μ μ := fun _ _ _ _ => rfl
theorem kG_tr {μ μ1 μ2 : Mem} (h : kG μ μ1) (h' : kG μ1 μ2) : kG μ μ2 := fun s n j hs => (h' s n j hs).trans (h s n j hs)
theorem kG_k {μ μ1 : Mem} (h : kG μ μ1) : kM μ μ1 := fun s n j hs => h s n j (fun z => hs (by unfold scr; omega))
theorem atM_G {μ μ1 : Mem} {q : Int} (h : atM μ q μ1) : kG μ μ1 := fun s n j hs => h.1 s n j (fun z => hs (Or.inl ⟨z.1, Or.inl z.2.2⟩))
def T_X5_nobodyGrants : Tr := tO0 22 fun n μ Post => ∀ μ', kG μ μ' → μ' 22 0 7 = μ 22 0 7 → μ' 22 0 8 = 0 → (∀ c, 0 ≤ c → c < 144 → μ' 30 0 c = c / 24) → Post none μ'
theorem ok_X5_nobodyGrants : oh_Ok pg_X5_nobodyGrants 2 T_X5_nobodyGrants := by
  refine tO0_ok fun n μ Post G hG hn hM h => ?_
  obtain rfl := n22 hn
  have key : ∀ c, 0 ≤ c → c ≤ 144 → ∀ μ1, kG μ μ1 → μ1 22 0 7 = μ 22 0 7 → μ1 22 0 8 = 0 → (∀ j, 0 ≤ j → j < c → μ1 30 0 j = j / 24) → G 7 [some (oR 22 0), some (oI c)] [] μ1 := by
    refine oh_for (F := fun c => 0 ≤ c → c ≤ 144 → ∀ μ1, kG μ μ1 → μ1 22 0 7 = μ 22 0 7 → μ1 22 0 8 = 0 → (∀ j, 0 ≤ j → j < c → μ1 30 0 j = j / 24) → G 7 [some (oR 22 0), some (oI c)] [] μ1) 144 ?_ ?_
    · intro c hc h0 h1 μ1 g1 g2 g3 g4
      refine oh_go hG [(7, 2)] 40 ?_
      exact And.intro (fun _ => h μ1 g1 g2 g3 (fun j a b => g4 j a (by omega))) (fun q => absurd hc q)
    · intro c hc ih h0 h1 μ1 g1 g2 g3 g4
      have ih := ih (by omega) (by omega)
      refine oh_go hG [(7, 2)] 40 ?_
      refine And.intro (fun q => absurd q (by omega)) (fun _ => ?_)
      refine And.intro (by omega) ?_
      refine And.intro (by omega) ?_
      refine And.intro (by omega) ?_
      refine ih _ (fun s n j hs => ?_) ?_ ?_ (fun j a b => ?_)
      · rw [oh_up_o (fun q => hs (by omega))]
        exact g1 s n j hs
      · rw [oh_up_o (by omega)]
        exact g2
      · rw [oh_up_o (by omega)]
        exact g3
      · by_cases e : j = c
        · rw [e, oh_up_s]
        · rw [oh_up_o (fun q => e q.2.2)]
          exact g4 j a (by omega)
  refine oh_go hG [(7, 2)] 10 ?_
  refine key 0 (by omega) (by omega) _ (fun s n j hs => oh_up_o (fun q => hs (by omega))) (oh_up_o (by omega)) oh_up_s (fun j a b => absurd b (by omega))
theorem own_0 (f : Int → Int) (c : Int) : own f 0 c = c / 24 := rfl
theorem own_s (f : Int → Int) {k : Int} (h : 0 ≤ k) (c : Int) : own f (k + 1).toNat c = if c = bo 0 f k * 24 + ho 0 f k then la 0 f k else own f k.toNat c := by
  have e : (k + 1).toNat = k.toNat + 1 := by omega
  have e2 : ((k.toNat : Nat) : Int) = k := by omega
  rw [e]
  show (if c = bo 0 f (k.toNat : Int) * 24 + ho 0 f (k.toNat : Int) then la 0 f (k.toNat : Int) else own f k.toNat c) = _
  rw [e2]
def T_X5_isGranted : Tr := tO2 22 fun n b x μ Post => ∃ A k, RdG A k μ ∧ (0 ≤ k ∧ k ≤ 20) ∧ ((∃ j, 0 ≤ j ∧ j < k ∧ bo 0 (A 0) j = b ∧ ho 0 (A 0) j = x) → Post (some (oI 1)) μ) ∧ (¬ (∃ j, 0 ≤ j ∧ j < k ∧ bo 0 (A 0) j = b ∧ ho 0 (A 0) j = x) → Post (some (oI 0)) μ)
theorem ok_X5_isGranted : oh_Ok pg_X5_isGranted 5 T_X5_isGranted := by
  refine tO2_ok fun n b x μ Post G hG hn hb hx hM h => ?_
  obtain rfl := n22 hn
  obtain ⟨A, k, hG2, hk, h1, h2⟩ := h
  have key : ∀ c, 0 ≤ c → c ≤ k → ∀ (r : Int), (r = 1 ∧ (∃ j, 0 ≤ j ∧ j < c ∧ bo 0 (A 0) j = b ∧ ho 0 (A 0) j = x) ∨ r = 0 ∧ ¬ (∃ j, 0 ≤ j ∧ j < c ∧ bo 0 (A 0) j = b ∧ ho 0 (A 0) j = x)) → G 5 [some (oR 22 0), some (oI b), some (oI x), some (oI r), some (oI c)] [] μ := by
    refine oh_for (F := fun c => 0 ≤ c → c ≤ k → ∀ (r : Int), (r = 1 ∧ (∃ j, 0 ≤ j ∧ j < c ∧ bo 0 (A 0) j = b ∧ ho 0 (A 0) j = x) ∨ r = 0 ∧ ¬ (∃ j, 0 ≤ j ∧ j < c ∧ bo 0 (A 0) j = b ∧ ho 0 (A 0) j = x)) → G 5 [some (oR 22 0), some (oI b), some (oI x), some (oI r), some (oI c)] [] μ) k ?_ ?_
    · intro c hc h0 h3 r hr
      have e : c = k := by omega
      subst e
      refine oh_go hG [(5, 5)] 40 ?_
      refine And.intro (fun _ => ?_) (fun q => absurd q (by rw [hG2.1]; omega))
      rcases hr with ⟨rfl, hr⟩ | ⟨rfl, hr⟩
      · exact ⟨by omega, h1 hr⟩
      · exact ⟨by omega, h2 hr⟩
    · intro c hc ih h0 h3 r hr
      have ih := ih (by omega) (by omega)
      obtain ⟨e1, e2, e3⟩ := hG2.2.1 c h0 hc
      have hno : ¬ (bo 0 (A 0) c = b ∧ ho 0 (A 0) c = x) → ¬ (∃ j, 0 ≤ j ∧ j < c ∧ bo 0 (A 0) j = b ∧ ho 0 (A 0) j = x) → ¬ (∃ j, 0 ≤ j ∧ j < c + 1 ∧ bo 0 (A 0) j = b ∧ ho 0 (A 0) j = x) := fun hn1 hn2 ⟨j, a1, a2, a3, a4⟩ => by
        by_cases e : j = c
        · rw [e] at a3 a4
          exact hn1 ⟨a3, a4⟩
        · exact hn2 ⟨j, a1, by omega, a3, a4⟩
      refine oh_go hG [(5, 5)] 40 ?_
      refine And.intro (fun q => absurd q (by rw [hG2.1]; omega)) (fun _ => ?_)
      rcases hr with ⟨rfl, hr⟩ | ⟨rfl, hr⟩
      · refine And.intro (fun _ => ?_) (fun y => absurd (by decide) y)
        obtain ⟨j, a1, a2, a3, a4⟩ := hr
        exact ⟨by omega, ih 1 (Or.inl ⟨rfl, j, a1, by omega, a3, a4⟩)⟩
      · refine And.intro (fun y => absurd rfl y) (fun _ => ?_)
        refine And.intro (by omega) ?_
        refine And.intro (by omega) ?_
        rw [e1]
        refine And.intro (fun q => ⟨by omega, ih 0 (Or.inr ⟨rfl, hno (fun z => q z.1) hr⟩)⟩) (fun q => ?_)
        refine And.intro (by omega) ?_
        refine And.intro (by omega) ?_
        refine And.intro (by omega) ?_
        rw [e2]
        refine And.intro (fun w => ⟨by omega, ih 0 (Or.inr ⟨rfl, hno (fun z => w z.2) hr⟩)⟩) (fun w => ?_)
        exact ⟨by omega, ih 1 (Or.inl ⟨rfl, c, h0, by omega, Classical.not_not.mp q, Classical.not_not.mp w⟩)⟩
  refine oh_go hG [(5, 5)] 10 ?_
  exact key 0 (by omega) (by omega) 0 (Or.inr ⟨rfl, fun ⟨j, a, b, _⟩ => absurd b (by omega)⟩)
