/-! THE FACE: texts, LAW, HOME, WORTH -/
def T_X4_textOf : Tr := tO1 13 fun n t μ Post => (t = 0 → Post (some (oR 11 0)) μ) ∧ (¬ t = 0 → Post (some (oR 11 1)) μ)
theorem ok_X4_textOf : oh_Ok pg_X4_textOf 2 T_X4_textOf := by
  refine tO1_ok fun n t μ Post G hG hn ht hM h => ?_
  refine oh_go hG [] 40 ?_
  exact ⟨fun q => h.2 q, fun q => h.1 (Classical.not_not.mp q)⟩
def T_X4_ageDays : Tr := tO0 13 fun n μ Post => ∀ μ', (∀ s' n' j', ¬ (s' = 0 ∧ j' = 8) → μ' s' n' j' = μ s' n' j') → (∀ l : Nat, l < 3 → μ' 0 l 8 = 1) → Post none μ'
theorem ok_X4_ageDays : oh_Ok pg_X4_ageDays 2 T_X4_ageDays := by
  refine tO0_ok fun n μ Post G hG hn hM h => ?_
  refine oh_go hG [] 80 ?_
  refine ⟨fun x => absurd x (by decide), fun _ => ⟨by decide, by decide, by decide, ?_⟩⟩
  refine ⟨fun x => absurd x (by decide), fun _ => ⟨by decide, by decide, by decide, ?_⟩⟩
  refine ⟨fun x => absurd x (by decide), fun _ => ⟨by decide, by decide, by decide, ?_⟩⟩
  refine ⟨fun _ => ?_, fun x => absurd (by decide) x⟩
  refine h _ (fun s' n' j' g => ?_) (fun l hl => ?_)
  · rw [oh_up_o (fun q => g ⟨q.1, q.2.2⟩), oh_up_o (fun q => g ⟨q.1, q.2.2⟩), oh_up_o (fun q => g ⟨q.1, q.2.2⟩)]
  · rcases (show l = 0 ∨ l = 1 ∨ l = 2 by omega) with rfl | rfl | rfl <;> simp [oh_up]
theorem tB_congr {n : Nat} {A A' : Ab} (h1 : A' n = A n) (h2 : tl n A' = tl n A) : tB n A' = tB n A := by
  unfold tB
  rw [h1, h2]
theorem tE_congr {n : Nat} {A A' : Ab} (h1 : A' n = A n) (h2 : tl n A' = tl n A) : tE n A' = tE n A := by
  unfold tE
  rw [tB_congr h1 h2, h2]
theorem aw_congr {A A' : Ab} (h1 : A' 0 = A 0) (h2 : tl 0 A' = tl 0 A) : aw A' = aw A := by
  unfold aw
  rw [tE_congr h1 h2, h1]
theorem RepX_gv {A : Ab} {μ : Mem} (h : RepT 0 A μ) : gv μ (ents 0 (μ 11 0 5) (μ 11 0 6)) := by
  rw [RepT_ents h]
  obtain ⟨-, h5, -, h7, -, h9⟩ := h
  intro k k0 k1
  obtain ⟨e1, e2, e3, -⟩ := ent_ok h7 k0 k1
  rw [h9, h5]
  exact ⟨e1, e2, e3⟩
theorem RepX_ov {A : Ab} {μ : Mem} (h : RepT 1 A μ) : ov μ (ents 1 (μ 11 1 5) (μ 11 1 6)) ∧ ∀ j, 0 ≤ j → j < ents 1 (μ 11 1 5) (μ 11 1 6) → 0 ≤ la 1 (μ 12 1) j ∧ la 1 (μ 12 1) j ≤ 4 := by
  rw [RepT_ents h]
  obtain ⟨-, h5, -, h7, -, h9⟩ := h
  refine ⟨fun k k0 k1 => ?_, fun k k0 k1 => ?_⟩
  · obtain ⟨e1, e2, e3, -⟩ := ent_ok h7 k0 k1
    rw [h9, h5]
    exact ⟨e1, e2, e3⟩
  · obtain ⟨-, -, -, e4, -⟩ := ent_ok h7 k0 k1
    have e : lst 1 = 5 := rfl
    rw [h9]
    omega
def T_X4_settleTexts : Tr := tO0 13 fun n μ Post => ∃ A, RepX A μ ∧ ∀ μ', RepC A μ' → FrC μ μ' → keepX μ μ' → Post none μ'
theorem ok_X4_settleTexts : oh_Ok (pg_X4_settleTexts T_X1_tell T_X4_ageDays) 1 T_X4_settleTexts := by
  refine tO0_ok fun n μ Post G hG hn hM h => ?_
  obtain ⟨A, hR, h⟩ := h
  have hT := hR.1
  refine oh_go hG [] 40 ?_
  refine And.intro ?_ trivial
  refine And.intro ⟨rfl, RepT_tq hT, RepX_gv hT⟩ (fun μ1 g1 g2 => ?_)
  refine And.intro (fun μ2 g3 g4 => ?_) trivial
  have hrow : ∀ s n, ¬ s = 0 → ¬ (s = 8 ∧ n = 0) → μ2 s n = μ s n := fun s n h0 h8 => funext fun j => by
    rw [g3 s n j (fun q => h0 q.1), g1 s n j (fun q => h8 ⟨q.1, q.2.1⟩)]
  have hkX : keepX μ μ2 := fun s n hs => hrow s n (by omega) (by omega)
  refine h μ2 ⟨RepX_keep hR hkX (fun l _ => by rw [g3 0 l 0 (fun q => absurd q.2 (by decide)), g1 0 l 0 (fun q => absurd q.1 (by decide))]), fun c a b => ?_, fun l hl => ⟨Or.inl (g4 l hl), fun z => ?_⟩⟩ (fun s n hs => hrow s n (by omega) (by omega)) hkX
  · rw [g3 8 0 c (fun q => absurd q.1 (by decide)), g2 c a b, RepT_ents hT, hT.2.2.2.2.2]
    rfl
  · rw [g4 l hl] at z
    exact absurd z (by decide)
def ti (n : Nat) : Int := match n with
  | 0 => 0
  | _ => 1
theorem RepX_text {n : Nat} {A A' : Ab} {μ μ' : Mem} (hn : n < 2) (h : RepX A μ) (hT : RepT n A' μ') (hA : ∀ k, ¬ k = n → ¬ k = 2 → A' k = A k) (h2 : ∀ j, ¬ j = ti n → A' 2 j = A 2 j) (hm : ∀ s m, ¬ ((s = 11 ∨ s = 12) ∧ m = n) → μ' s m = μ s m) : RepX A' μ' := by
  obtain ⟨h1, h2', h3, h4, h5, h6, h7, h8, h9⟩ := h
  have ho : ∀ m, m < 2 → ¬ m = n → RepT m A μ → RepT m A' μ' := fun m hm2 hmn hq => by
    have el : tl m A' = tl m A := by
      rcases (show m = 0 ∨ m = 1 by omega) with rfl | rfl
      · rcases (show n = 1 by omega) with rfl
        exact h2 0 (by decide)
      · rcases (show n = 0 by omega) with rfl
        exact h2 1 (by decide)
    have ea : A' m = A m := hA m hmn (by omega)
    have eb := tB_congr ea el
    unfold RepT at hq ⊢
    rw [el, eb, ea, hm 11 m (by omega), hm 12 m (by omega)]
    exact hq
  have hti : ti n = 0 ∨ ti n = 1 := by
    rcases (show n = 0 ∨ n = 1 by omega) with rfl | rfl
    · exact Or.inl rfl
    · exact Or.inr rfl
  refine ⟨?_, ?_, fun l hl => by rw [hm 0 l (by omega)]; exact h3 l hl, ?_, ?_, ?_, ?_, ?_, ?_⟩
  · by_cases e : n = 0
    · subst e
      exact hT
    · exact ho 0 (by omega) (by omega) h1
  · by_cases e : n = 1
    · subst e
      exact hT
    · exact ho 1 (by omega) (by omega) h2'
  · rw [hm 15 0 (by omega), hA 3 (by omega) (by omega)]
    exact h4
  · rw [hm 16 0 (by omega), hA 4 (by omega) (by omega)]
    exact h5
  · rw [hm 13 0 (by omega), h2 2 (by omega)]
    exact h6
  · rw [hm 13 0 (by omega), h2 4 (by omega)]
    exact h7
  · unfold RepV at h8 ⊢
    rw [hm 13 0 (by omega), hm 19 0 (by omega), hm 20 0 (by omega), h2 3 (by omega), hA 5 (by omega) (by omega), hA 6 (by omega) (by omega)]
    exact h8
  · intro s hs
    rw [hm 9 s (by omega), hm 10 s (by omega), hA 7 (by omega) (by omega), hA 8 (by omega) (by omega), hA (9 + s) (by omega) (by omega)]
    exact h9 s hs
/-- the acts on texts -/
def typA (n : Nat) (A : Ab) (b : Int) : Ab := up2 (up2 A n (tl n A) b) 2 (ti n) (tl n A + 1)
def lenA (n : Nat) (A : Ab) (v : Int) : Ab := up2 A 2 (ti n) v
def s_type (A : Ab) (t b : Int) : Int × Ab := if ¬ (0 ≤ t ∧ t < 2) ∨ ¬ (0 ≤ b ∧ b < 256) then (-2, A) else if 99 ≤ tl t.toNat A then (-4, A) else (tl t.toNat A + 1, typA t.toNat A b)
def s_wipe (A : Ab) (t : Int) : Int × Ab := if ¬ (0 ≤ t ∧ t < 2) then (-2, A) else (tl t.toNat A, lenA t.toNat A 0)
noncomputable def s_undo (A : Ab) (t : Int) : Int × Ab := if ¬ (0 ≤ t ∧ t < 2) then (-2, A) else if tE t.toNat A = 0 then (-3, A) else (tE t.toNat A - 1, lenA t.toNat A (max 0 (tl t.toNat A - stp t.toNat)))
noncomputable def s_fault (A : Ab) (t : Int) : Int × Ab := if ¬ (0 ≤ t ∧ t < 2) then (-2, A) else (flw t.toNat (tl t.toNat A) (tB t.toNat A), A)
theorem tl_len {n : Nat} {A : Ab} {v : Int} (hn : n < 2) : tl n (lenA n A v) = v := by
  rcases (show n = 0 ∨ n = 1 by omega) with rfl | rfl
  · show up2 A 2 0 v 2 0 = v
    exact up2_s
  · show up2 A 2 1 v 2 1 = v
    exact up2_s
theorem tl_typ {n : Nat} {A : Ab} {b : Int} (hn : n < 2) : tl n (typA n A b) = tl n A + 1 := by
  rcases (show n = 0 ∨ n = 1 by omega) with rfl | rfl
  · show up2 (up2 A 0 (tl 0 A) b) 2 0 (tl 0 A + 1) 2 0 = _
    exact up2_s
  · show up2 (up2 A 1 (tl 1 A) b) 2 1 (tl 1 A + 1) 2 1 = _
    exact up2_s
theorem typ_row {n : Nat} {A : Ab} {b : Int} (hn : n < 2) : typA n A b n = fun j => if j = tl n A then b else A n j := by
  funext j
  unfold typA
  rw [up2_o (fun q => absurd q.1 (by omega))]
  unfold up2
  by_cases e : j = tl n A
  · simp [e]
  · simp [e]
theorem RepT_typ {n : Nat} {A : Ab} {μ μ' : Mem} {b : Int} (hn : n < 2) (h : RepT n A μ) (hb : 0 ≤ b ∧ b ≤ 255) (hl : tl n A < 99)
    (h1 : ∀ j, ¬ j = 5 → ¬ j = 6 → μ' 11 n j = μ 11 n j) (h5 : μ' 11 n 5 = tl n A + 1) (h12 : μ' 12 n = fun j => if j = tl n A then b else A n j)
    (h6 : (tB n A = -1 ∧ ¬ cgo n (A n) (tl n A) b → μ' 11 n 6 = tl n A) ∧ (¬ (tB n A = -1 ∧ ¬ cgo n (A n) (tl n A) b) → μ' 11 n 6 = tB n A)) : RepT n (typA n A b) μ' := by
  obtain ⟨⟨a1, a2, a3, a4⟩, a5, a6, a7, a8, a9⟩ := h
  have e2 : (((tl n A).toNat : Nat) : Int) = tl n A := by omega
  have etB : tB n (typA n A b) = if tB n A = -1 then oh_if (cgo n (A n) (tl n A) b) (-1) (tl n A) else tB n A := by
    unfold tB
    rw [tl_typ hn, typ_row hn]
    have e : (tl n A + 1).toNat = (tl n A).toNat + 1 := by omega
    rw [e]
    show (if brk n (fun j => if j = tl n A then b else A n j) (tl n A).toNat = -1 then oh_if (cgo n (fun j => if j = tl n A then b else A n j) ((tl n A).toNat : Int) (if (((tl n A).toNat : Nat) : Int) = tl n A then b else A n ((tl n A).toNat : Int))) (-1) ((tl n A).toNat : Int) else brk n (fun j => if j = tl n A then b else A n j) (tl n A).toNat) = _
    have eb : brk n (fun j => if j = tl n A then b else A n j) (tl n A).toNat = brk n (A n) (tl n A).toNat := brk_congr _ (fun j j0 j1 => by
      show (if j = tl n A then b else A n j) = A n j
      rw [if_neg (by omega)])
    have ec := cgo_congr (n := n) (f := fun j => if j = tl n A then b else A n j) (f' := A n) (p := tl n A) (b := b) a7.1 (fun j j0 j1 => by
      show (if j = tl n A then b else A n j) = A n j
      rw [if_neg (by omega)])
    rw [e2, if_pos rfl, eb]
    by_cases hc : cgo n (A n) (tl n A) b
    · rw [oh_if_t hc, oh_if_t (ec.mpr hc)]
    · rw [oh_if_f hc, oh_if_f (fun z => hc (ec.mp z))]
  refine ⟨⟨by rw [h1 _ (by decide) (by decide)]; exact a1, by rw [h1 _ (by decide) (by decide)]; exact a2, by rw [h1 _ (by decide) (by decide)]; exact a3, by rw [h1 _ (by decide) (by decide)]; exact a4⟩, by rw [h5, tl_typ hn], ?_, by rw [tl_typ hn]; omega, fun j j0 j1 => ?_, by rw [h12, typ_row hn]⟩
  · rw [etB]
    by_cases hb1 : tB n A = -1
    · rw [if_pos hb1]
      by_cases hc : cgo n (A n) (tl n A) b
      · rw [oh_if_t hc, h6.2 (fun q => q.2 hc), hb1]
      · rw [oh_if_f hc, h6.1 ⟨hb1, hc⟩]
    · rw [if_neg hb1, h6.2 (fun q => hb1 q.1)]
  · rw [tl_typ hn] at j1
    rw [typ_row hn]
    show 0 ≤ (if j = tl n A then b else A n j) ∧ (if j = tl n A then b else A n j) ≤ 255
    split
    · exact hb
    · exact a8 j j0 (by omega)
theorem ents_m1 {n : Nat} {len : Int} (h0 : 0 ≤ len) : ents n len (-1) = if len = 0 ∨ len % stp n = stp n - 1 then (len + 1) / stp n else 0 := by
  unfold ents flw
  rw [if_neg (not_not_intro (rfl : (-1 : Int) = -1))]
  by_cases q : len = 0 ∨ len % stp n = stp n - 1
  · rw [if_pos q, if_pos q, if_pos rfl]
  · rw [if_neg q, if_neg q, if_neg (by omega)]
theorem ents_drop {n : Nat} {len : Int} (h0 : 0 ≤ len) (h : ¬ ents n len (-1) = 0) : ents n (max 0 (len - stp n)) (-1) = ents n len (-1) - 1 := by
  rw [ents_m1 h0] at h ⊢
  rw [ents_m1 (by omega)]
  by_cases q : len = 0 ∨ len % stp n = stp n - 1
  · rw [if_pos q] at h ⊢
    rcases stp_pos n with e | e
    · rw [e] at h q ⊢
      have hl : 4 ≤ len ∧ len % 5 = 4 := by omega
      rw [if_pos (by omega)]
      omega
    · rw [e] at h q ⊢
      have hl : 5 ≤ len ∧ len % 6 = 5 := by omega
      rw [if_pos (by omega)]
      omega
  · rw [if_neg q] at h
    exact absurd rfl h
theorem ents_ok {n : Nat} {A : Ab} (h : ¬ tE n A = 0) : tB n A = -1 := by
  unfold tE ents at h
  split at h
  · rename_i hf
    unfold flw at hf
    split at hf
    · omega
    · rename_i hn
      exact Classical.not_not.mp hn
  · exact absurd rfl h
theorem lenA_row {n k : Nat} {A : Ab} {v : Int} (h : ¬ k = 2) : lenA n A v k = A k := up2_r h
theorem RepT_len {n : Nat} {A : Ab} {μ μ' : Mem} {v : Int} (hn : n < 2) (h : RepT n A μ) (hv : 0 ≤ v ∧ v ≤ tl n A) (h1 : ∀ j, ¬ j = 5 → ¬ j = 6 → μ' 11 n j = μ 11 n j) (h5 : μ' 11 n 5 = v) (h6 : μ' 11 n 6 = brk n (A n) v.toNat) (h12 : μ' 12 n = μ 12 n) : RepT n (lenA n A v) μ' := by
  obtain ⟨⟨a1, a2, a3, a4⟩, a5, a6, a7, a8, a9⟩ := h
  have er : lenA n A v n = A n := lenA_row (by omega)
  refine ⟨⟨by rw [h1 _ (by decide) (by decide)]; exact a1, by rw [h1 _ (by decide) (by decide)]; exact a2, by rw [h1 _ (by decide) (by decide)]; exact a3, by rw [h1 _ (by decide) (by decide)]; exact a4⟩, by rw [h5, tl_len hn], ?_, by rw [tl_len hn]; omega, fun j j0 j1 => ?_, by rw [h12, a9, er]⟩
  · unfold tB
    rw [tl_len hn, er, h6]
  · rw [tl_len hn] at j1
    rw [er]
    exact a8 j j0 (by omega)
theorem iO {α : Type} {p : Prop} {a b : α} (h : p) [Decidable p] : (if p then a else b) = a := if_pos h
def T_X4_fault : Tr := tC1 s_fault
theorem ok_X4_fault : oh_Ok (pg_X4_fault T_X4_isBelow T_X4_textOf T_X3_flaw) 2 T_X4_fault := by
  refine tO1_ok fun n t μ Post G hG hn ht hM h => ?_
  obtain ⟨A, hR, h⟩ := h
  refine oh_go hG [] 40 ?_
  refine And.intro ?_ trivial
  refine And.intro (fun x => ?_) (fun x => ?_)
  · have e : s_fault A t = (flw t.toNat (tl t.toNat A) (tB t.toNat A), A) := if_neg (not_not_intro x)
    rw [e] at h
    refine And.intro (fun y => absurd y (by decide)) (fun _ => ?_)
    refine And.intro ?_ trivial
    rcases (show t = 0 ∨ t = 1 by omega) with rfl | rfl
    · refine And.intro (fun _ => ?_) (fun y => absurd rfl y)
      refine And.intro ?_ trivial
      refine And.intro (RepT_tq hR.1.1) ?_
      rw [hR.1.1.2.1, hR.1.1.2.2.1]
      exact h μ hR FrC_rf
    · refine And.intro (fun y => absurd y (by decide)) (fun _ => ?_)
      refine And.intro ?_ trivial
      refine And.intro (RepT_tq hR.1.2.1) ?_
      rw [hR.1.2.1.2.1, hR.1.2.1.2.2.1]
      exact h μ hR FrC_rf
  · have e : s_fault A t = (-2, A) := if_pos x
    rw [e] at h
    exact ⟨fun _ => h μ hR FrC_rf, fun y => absurd rfl y⟩
/-- the text with number t, as textOf gives it -/
theorem T_text {t : Int} {μ : Mem} {Post : Po} (ht : 0 ≤ t ∧ t < 2) (h : Post (some (oR 11 t.toNat)) μ) : T_X4_textOf [oR 13 0, oI t] μ Post := by
  rcases (show t = 0 ∨ t = 1 by omega) with rfl | rfl
  · exact ⟨fun _ => h, fun y => absurd rfl y⟩
  · exact ⟨fun y => absurd y (by decide), fun _ => h⟩
theorem RepX_n {A : Ab} {μ : Mem} (h : RepX A μ) {n : Nat} (hn : n < 2) : RepT n A μ := by
  rcases (show n = 0 ∨ n = 1 by omega) with rfl | rfl
  · exact h.1
  · exact h.2.1
def T_X4_type : Tr := tC2 s_type
theorem ok_X4_type : oh_Ok (pg_X4_type T_X4_isBelow T_X4_textOf T_X3_append T_X4_settleTexts) 4 T_X4_type := by
  refine tO2_ok fun n t b μ Post G hG hn ht hb hM h => ?_
  obtain rfl := n13 hn
  obtain ⟨A, hR, h⟩ := h
  have hbad : ¬ (0 ≤ t ∧ t < 2) ∨ ¬ (0 ≤ b ∧ b < 256) → Post (some (oI (-2))) μ := fun x => by
    have e : s_type A t b = (-2, A) := if_pos x
    rw [e] at h
    exact h μ hR FrC_rf
  refine oh_go hG [] 60 ?_
  refine And.intro ?_ trivial
  refine And.intro (fun x => ?_) (fun x => ?_)
  · refine And.intro (fun y => absurd y (by decide)) (fun _ => ?_)
    refine And.intro ?_ trivial
    refine And.intro (fun z => ?_) (fun z => ?_)
    · refine And.intro (fun _ => ?_) (fun y => absurd (by decide) y)
      have e : s_type A t b = if 99 ≤ tl t.toNat A then (-4, A) else (tl t.toNat A + 1, typA t.toNat A b) := if_neg (by omega)
      rw [e] at h
      have hn2 : t.toNat < 2 := by omega
      have hT := RepX_n hR.1 hn2
      refine And.intro (T_text x ?_) trivial
      generalize t.toNat = k at hn2 hT h
      have h5 := hT.2.1
      have h6 := hT.2.2.1
      have h12 := hT.2.2.2.2.2
      refine And.intro (fun w => ?_) (fun w => ?_)
      · rw [h5] at w
        rw [if_neg (by omega)] at h
        have fin : ∀ μ1, RepX (typA k A b) μ1 → FrC μ μ1 → T_X4_settleTexts [oR 13 0] μ1 (fun r μ2 => match r with
            | none => Post (some (oI (μ2 11 k 5))) μ2
            | some v => False) := fun μ1 hx hf => ⟨typA k A b, hx, fun μ2 g1 g2 g3 => by
          show Post (some (oI (μ2 11 k 5))) μ2
          rw [(RepX_n g1.1 hn2).2.1, tl_typ hn2]
          exact h μ2 g1 (FrC_tr hf g2)⟩
        refine And.intro ?_ trivial
        refine And.intro ⟨RepT_tq hT, by rw [h5]; exact w, by omega, by omega⟩ ?_
        rw [h5, h6, h12]
        refine And.intro (fun hb1 => ?_) (fun hb1 => ?_)
        · refine And.intro (fin _ (RepX_text hn2 hR.1 (RepT_typ hn2 hT (by omega) w (fun j j5 j6 => ?_) ?_ ?_ ⟨fun _ => ?_, fun q => absurd hb1 q⟩) (fun k' a1 a2 => ?_) (fun j a1 => ?_) (fun s m a1 => ?_)) (fun s m a1 => ?_)) trivial
          · rw [oh_up_o (fun q => j5 q.2.2), oh_up_o (fun q => absurd q.1 (by decide)), oh_up_o (fun q => j6 q.2.2)]
          · exact oh_up_s
          · funext j
            rw [oh_up_o (fun q => absurd q.1 (by decide))]
            by_cases e : j = tl k A
            · rw [e, oh_up_s, if_pos rfl]
            · rw [oh_up_o (fun q => e q.2.2), oh_up_o (fun q => absurd q.1 (by decide)), if_neg e, h12]
          · rw [oh_up_o (fun q => absurd q.2.2 (by decide)), oh_up_o (fun q => absurd q.1 (by decide)), oh_up_s]
          · unfold typA
            rw [up2_r a2, up2_r a1]
          · unfold typA
            rw [up2_o (fun q => a1 q.2), up2_o (fun q => absurd q.1 (by omega))]
          · funext j
            rw [oh_up_o (fun q => a1 ⟨by omega, q.2.1⟩), oh_up_o (fun q => a1 ⟨by omega, q.2.1⟩), oh_up_o (fun q => a1 ⟨by omega, q.2.1⟩)]
          · funext j
            rw [oh_up_o (fun q => by omega), oh_up_o (fun q => by omega), oh_up_o (fun q => by omega)]
        · refine And.intro (fin _ (RepX_text hn2 hR.1 (RepT_typ hn2 hT (by omega) w (fun j j5 j6 => ?_) ?_ ?_ ⟨fun q => absurd q hb1, fun _ => ?_⟩) (fun k' a1 a2 => ?_) (fun j a1 => ?_) (fun s m a1 => ?_)) (fun s m a1 => ?_)) trivial
          · rw [oh_up_o (fun q => j5 q.2.2), oh_up_o (fun q => absurd q.1 (by decide))]
          · exact oh_up_s
          · funext j
            rw [oh_up_o (fun q => absurd q.1 (by decide))]
            by_cases e : j = tl k A
            · rw [e, oh_up_s, if_pos rfl]
            · rw [oh_up_o (fun q => e q.2.2), if_neg e, h12]
          · rw [oh_up_o (fun q => absurd q.2.2 (by decide)), oh_up_o (fun q => absurd q.1 (by decide)), h6]
          · unfold typA
            rw [up2_r a2, up2_r a1]
          · unfold typA
            rw [up2_o (fun q => a1 q.2), up2_o (fun q => absurd q.1 (by omega))]
          · funext j
            rw [oh_up_o (fun q => a1 ⟨by omega, q.2.1⟩), oh_up_o (fun q => a1 ⟨by omega, q.2.1⟩)]
          · funext j
            rw [oh_up_o (fun q => by omega), oh_up_o (fun q => by omega)]
      · rw [h5] at w
        rw [if_pos (by omega)] at h
        exact h μ hR FrC_rf
    · exact ⟨fun y => absurd rfl y, fun _ => hbad (Or.inr z)⟩
  · exact ⟨fun _ => hbad (Or.inl x), fun y => absurd rfl y⟩
def T_X4_wipe : Tr := tC1 s_wipe
theorem ok_X4_wipe : oh_Ok (pg_X4_wipe T_X4_isBelow T_X4_textOf T_X3_clear T_X4_settleTexts) 4 T_X4_wipe := by
  refine tO1_ok fun n t μ Post G hG hn ht hM h => ?_
  obtain rfl := n13 hn
  obtain ⟨A, hR, h⟩ := h
  refine oh_go hG [] 60 ?_
  refine And.intro ?_ trivial
  refine And.intro (fun x => ?_) (fun x => ?_)
  · refine And.intro (fun _ => ?_) (fun y => absurd (by decide) y)
    have e : s_wipe A t = (tl t.toNat A, lenA t.toNat A 0) := if_neg (not_not_intro x)
    rw [e] at h
    have hn2 : t.toNat < 2 := by omega
    have hT := RepX_n hR.1 hn2
    refine And.intro (T_text x ?_) trivial
    generalize t.toNat = k at hn2 hT h
    refine And.intro ?_ trivial
    refine And.intro ⟨lenA k A 0, RepX_text hn2 hR.1 (RepT_len hn2 hT ⟨by omega, hT.2.2.2.1.1⟩ (fun j j5 j6 => ?_) ?_ ?_ ?_) (fun k' a1 a2 => lenA_row a2) (fun j a1 => ?_) (fun s m a1 => ?_), fun μ2 g1 g2 g3 => ?_⟩ trivial
    · rw [oh_up_o (fun q => j6 q.2.2), oh_up_o (fun q => j5 q.2.2)]
    · rw [oh_up_o (fun q => absurd q.2.2 (by decide)), oh_up_s]
    · rw [oh_up_s]
      rfl
    · funext j
      rw [oh_up_o (fun q => absurd q.1 (by decide)), oh_up_o (fun q => absurd q.1 (by decide))]
    · unfold lenA
      rw [up2_o (fun q => a1 q.2)]
    · funext j
      rw [oh_up_o (fun q => a1 ⟨by omega, q.2.1⟩), oh_up_o (fun q => a1 ⟨by omega, q.2.1⟩)]
    · show Post (some (oI (μ 11 k 5))) μ2
      rw [hT.2.1]
      refine h μ2 g1 (FrC_tr (fun s m a1 => ?_) g2)
      funext j
      rw [oh_up_o (fun q => by omega), oh_up_o (fun q => by omega)]
  · have e : s_wipe A t = (-2, A) := if_pos x
    rw [e] at h
    exact ⟨fun y => absurd rfl y, fun _ => h μ hR FrC_rf⟩
def T_X4_undo : Tr := tC1 s_undo
theorem ok_X4_undo : oh_Ok (pg_X4_undo T_X4_isBelow T_X4_textOf T_X3_entries T_X3_dropLast T_X4_settleTexts) 3 T_X4_undo := by
  refine tO1_ok fun n t μ Post G hG hn ht hM h => ?_
  obtain rfl := n13 hn
  obtain ⟨A, hR, h⟩ := h
  refine oh_go hG [] 60 ?_
  refine And.intro ?_ trivial
  refine And.intro (fun x => ?_) (fun x => ?_)
  · refine And.intro (fun _ => ?_) (fun y => absurd (by decide) y)
    have e : s_undo A t = if tE t.toNat A = 0 then (-3, A) else (tE t.toNat A - 1, lenA t.toNat A (max 0 (tl t.toNat A - stp t.toNat))) := if_neg (not_not_intro x)
    rw [e] at h
    have hn2 : t.toNat < 2 := by omega
    have hT := RepX_n hR.1 hn2
    refine And.intro (T_text x ?_) trivial
    generalize t.toNat = k at hn2 hT h
    refine And.intro ?_ trivial
    refine And.intro (RepT_tq hT) ?_
    rw [RepT_ents hT]
    refine And.intro (fun y => ?_) (fun y => ?_)
    · rw [if_neg y] at h
      have hb := ents_ok y
      have hes := stp_pos k
      have hl := hT.2.2.2.1
      refine And.intro ?_ trivial
      refine And.intro (RepT_tq hT) ?_
      rw [hT.2.1]
      have hlen : RepT k (lenA k A (max 0 (tl k A - stp k))) (oh_up μ 11 k 5 (max 0 (tl k A - stp k))) := by
        refine RepT_len hn2 hT ⟨by omega, by omega⟩ (fun j j5 j6 => ?_) ?_ ?_ ?_
        · rw [oh_up_o (fun q => j5 q.2.2)]
        · exact oh_up_s
        · rw [oh_up_o (fun q => absurd q.2.2 (by decide)), hT.2.2.1, hb, brk_less _ hb _ (by omega)]
        · funext j
          rw [oh_up_o (fun q => absurd q.1 (by decide))]
      refine And.intro ⟨lenA k A (max 0 (tl k A - stp k)), RepX_text hn2 hR.1 hlen (fun k' a1 a2 => lenA_row a2) (fun j a1 => ?_) (fun s m a1 => ?_), fun μ2 g1 g2 g3 => ?_⟩ trivial
      · unfold lenA
        rw [up2_o (fun q => a1 q.2)]
      · funext j
        rw [oh_up_o (fun q => a1 ⟨by omega, q.2.1⟩)]
      · refine And.intro ?_ trivial
        have hT2 := RepX_n g1.1 hn2
        refine And.intro (RepT_tq hT2) ?_
        rw [RepT_ents hT2]
        have e2 : tE k (lenA k A (max 0 (tl k A - stp k))) = tE k A - 1 := by
          have hb2 : tB k (lenA k A (max 0 (tl k A - stp k))) = -1 := by
            unfold tB
            rw [tl_len hn2, lenA_row (by omega)]
            exact brk_less _ hb _ (by omega)
          unfold tE at y ⊢
          rw [hb2, tl_len hn2]
          rw [hb] at y ⊢
          exact ents_drop hl.1 y
        rw [e2]
        refine h μ2 g1 (FrC_tr (fun s m a1 => ?_) g2)
        funext j
        rw [oh_up_o (fun q => by omega)]
    · rw [if_pos (Classical.not_not.mp y)] at h
      exact h μ hR FrC_rf
  · have e : s_undo A t = (-2, A) := if_pos x
    rw [e] at h
    exact ⟨fun y => absurd rfl y, fun _ => h μ hR FrC_rf⟩
def s_setLaw (A : Ab) (v : Int) : Int × Ab := if ¬ (0 ≤ v ∧ v < 3) then (-2, A) else (A 2 2, up2 A 2 2 v)
def T_X4_setLaw : Tr := tC1 s_setLaw
theorem ok_X4_setLaw : oh_Ok (pg_X4_setLaw T_X4_isBelow) 3 T_X4_setLaw := by
  refine tO1_ok fun n v μ Post G hG hn hv hM h => ?_
  obtain rfl := n13 hn
  obtain ⟨A, hR, h⟩ := h
  refine oh_go hG [] 60 ?_
  refine And.intro ?_ trivial
  refine And.intro (fun x => ?_) (fun x => ?_)
  · refine And.intro (fun _ => ?_) (fun y => absurd (by decide) y)
    have e : s_setLaw A v = (A 2 2, up2 A 2 2 v) := if_neg (not_not_intro x)
    rw [e] at h
    have h : ∀ μ', RepC (up2 A 2 2 v) μ' → FrC μ μ' → Post (some (oI (μ 13 0 13))) μ' := by
      rw [hR.1.2.2.2.2.2.1.1]
      exact h
    refine h _ ?_ (fun s m a1 => funext fun j => oh_up_o (fun q => by omega))
    have hrow : ∀ s m, ¬ s = 13 → oh_up μ 13 0 13 v s m = μ s m := fun s m hs => funext fun j => oh_up_o (fun q => hs q.1)
    have el : ∀ m, tl m (up2 A 2 2 v) = tl m A := fun m => by
      unfold tl
      split
      · exact up2_o (fun q => absurd q.2 (by decide))
      · exact up2_o (fun q => absurd q.2 (by decide))
    have ea : ∀ k, ¬ k = 2 → up2 A 2 2 v k = A k := fun k hk => up2_r hk
    obtain ⟨⟨h1, h2, h3, h4, h5, h6, h7, h8, h9⟩, hO, hD⟩ := hR
    have ht : ∀ m, m < 2 → RepT m A μ → RepT m (up2 A 2 2 v) (oh_up μ 13 0 13 v) := fun m hm hq => by
      unfold RepT at hq ⊢
      rw [el m, tB_congr (ea m (by omega)) (el m), ea m (by omega), hrow 11 m (by decide), hrow 12 m (by decide)]
      exact hq
    refine ⟨⟨ht 0 (by omega) h1, ht 1 (by omega) h2, fun l hl => by rw [hrow 0 l (by decide)]; exact h3 l hl, ?_, ?_, ?_, ?_, ?_, ?_⟩, fun c a b => ?_, fun l hl => ?_⟩
    · rw [hrow 15 0 (by decide), ea 3 (by decide)]
      exact h4
    · rw [hrow 16 0 (by decide), ea 4 (by decide)]
      exact h5
    · rw [oh_up_s, up2_s]
      exact ⟨rfl, by omega, by omega⟩
    · rw [oh_up_o (fun q => absurd q.2.2 (by decide)), up2_o (fun q => absurd q.2 (by decide))]
      exact h7
    · unfold RepV at h8 ⊢
      rw [oh_up_o (fun q => absurd q.2.2 (by decide)), up2_o (fun q => absurd q.2 (by decide)), hrow 19 0 (by decide), hrow 20 0 (by decide), ea 5 (by decide), ea 6 (by decide)]
      exact h8
    · intro s hs
      rw [hrow 9 s (by decide), hrow 10 s (by decide), ea 7 (by decide), ea 8 (by decide), ea (9 + s) (by omega)]
      exact h9 s hs
    · rw [hrow 8 0 (by decide), aw_congr (ea 0 (by decide)) (el 0)]
      exact hO c a b
    · rw [aw_congr (ea 0 (by decide)) (el 0), ea 1 (by decide), tE_congr (ea 1 (by decide)) (el 1), ea 3 (by decide), hrow 0 l (by decide)]
      exact ⟨(hD l hl).1, fun z => dayOK_keep ((hD l hl).2 z) (hrow _ _ (by decide)) (hrow _ _ (by decide)) (hrow _ _ (by decide)) (hrow _ _ (by decide)) (by rw [hrow 0 l (by decide)])⟩
  · have e : s_setLaw A v = (-2, A) := if_pos x
    rw [e] at h
    exact ⟨fun y => absurd rfl y, fun _ => h μ hR FrC_rf⟩
