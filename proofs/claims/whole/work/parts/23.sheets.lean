/-! THE FACE: SHEETS -/
/-- an act on one SHEET alone -/
theorem RepC_s {A A' : Ab} {μ μ' : Mem} {k : Nat} (h : RepC A μ) (hk : k < 4) (ea : ∀ i, ¬ i = 7 → ¬ i = 8 → ¬ i = 9 + k → A' i = A i) (e7 : ∀ j, ¬ j = (k : Int) → A' 7 j = A 7 j) (e8 : ∀ j, ¬ j = (k : Int) → A' 8 j = A 8 j) (hm : ∀ s n, ¬ ((s = 9 ∨ s = 10) ∧ n = k) → μ' s n = μ s n)
    (hs : μ' 9 k 2 = A' 8 k ∧ (-1 ≤ A' 8 k ∧ A' 8 k ≤ 60) ∧ (¬ A' 8 k = -1 → μ' 9 k 1 = A' 7 k ∧ 0 ≤ A' 7 k ∧ A' 7 k ≤ 2) ∧ μ' 10 k = A' (9 + k)) : RepC A' μ' := by
  refine RepC_mk h ⟨ea 0 (by decide) (by decide) (by omega), ea 1 (by decide) (by decide) (by omega), by rw [ea 2 (by decide) (by decide) (by omega)], by rw [ea 2 (by decide) (by decide) (by omega)], ea 3 (by decide) (by decide) (by omega)⟩ (fun s n hs => hm s n (by omega)) ?_ ?_ ?_ ?_ ?_
  · rw [hm 16 0 (by omega), ea 4 (by decide) (by decide) (by omega)]
    exact h.1.2.2.2.2.1
  · rw [hm 13 0 (by omega), ea 2 (by decide) (by decide) (by omega)]
    exact h.1.2.2.2.2.2.1
  · rw [hm 13 0 (by omega), ea 2 (by decide) (by decide) (by omega)]
    exact h.1.2.2.2.2.2.2.1
  · exact RepV_cg h.1.2.2.2.2.2.2.2.1 (by rw [ea 2 (by decide) (by decide) (by omega)]) (ea 5 (by decide) (by decide) (by omega)) (ea 6 (by decide) (by decide) (by omega)) (by rw [hm 13 0 (by omega)]) (hm _ _ (by omega)) (hm _ _ (by omega))
  · intro s hs4
    by_cases e : s = k
    · rw [e]
      exact hs
    · rw [hm 9 s (by omega), hm 10 s (by omega), e7 s (by omega), e8 s (by omega), ea (9 + s) (by omega) (by omega) (by omega)]
      exact h.1.2.2.2.2.2.2.2.2 s hs4
def shA (A : Ab) (s : Nat) (f n : Int) : Ab := fun k j => if k = 9 + s then (if 0 ≤ j ∧ j < 60 then 0 else A k j) else if k = 7 ∧ j = s then f else if k = 8 ∧ j = s then n else A k j
def s_sheet (A : Ab) (s f n : Int) : Int × Ab := if ¬ (0 ≤ s ∧ s < 4) ∨ ¬ (0 ≤ f ∧ f < 3) ∨ 60 < n then (-2, A) else if n < 0 then (-15, fndA A 5) else (n, shA A s.toNat f n)
def T_X4_sheet : Tr := tC3 s_sheet
theorem ok_X4_sheet : oh_Ok (pg_X4_sheet T_X4_isBelow T_X4_found T_X2_renew) 4 T_X4_sheet := by
  refine tO3_ok fun n s f k μ Post G hG hn hs hf hk hM h => ?_
  obtain rfl := n13 hn
  obtain ⟨A, hR, h⟩ := h
  have hbad : ¬ (0 ≤ s ∧ s < 4) ∨ ¬ (0 ≤ f ∧ f < 3) ∨ 60 < k → Post (some (oI (-2))) μ := fun x => by
    have e : s_sheet A s f k = (-2, A) := if_pos x
    rw [e] at h
    exact h μ hR FrC_rf
  refine oh_go hG [] 60 ?_
  refine And.intro ?_ trivial
  refine And.intro (fun x => ?_) (fun x => ⟨fun _ => hbad (Or.inl x), fun y => absurd rfl y⟩)
  refine And.intro (fun y => absurd y (by decide)) (fun _ => ?_)
  refine And.intro ?_ trivial
  refine And.intro (fun z => ?_) (fun z => ⟨fun _ => hbad (Or.inr (Or.inl z)), fun y => absurd rfl y⟩)
  refine And.intro (fun y => absurd y (by decide)) (fun _ => ?_)
  refine And.intro (fun w => ?_) (fun w => hbad (by omega))
  have e : s_sheet A s f k = if k < 0 then (-15, fndA A 5) else (k, shA A s.toNat f k) := if_neg (by omega)
  rw [e] at h
  refine And.intro (fun y => ?_) (fun y => ?_)
  · rw [if_neg (by omega)] at h
    dsimp only at h
    have hs4 : s.toNat < 4 := by omega
    refine And.intro (by omega) ?_
    refine And.intro (fun μ1 g1 g2 => ?_) trivial
    generalize s.toNat = m at hs4 h g1 g2 ⊢
    have hrow : ∀ s n, ¬ ((s = 9 ∨ s = 10) ∧ n = m) → μ1 s n = μ s n := fun s n hs => funext fun j => by
      rw [g1 s n j (fun q => hs ⟨by omega, q.2.1⟩), oh_up_o (fun q => hs ⟨by omega, q.2.1⟩), oh_up_o (fun q => hs ⟨by omega, q.2.1⟩)]
    have m2 : μ1 9 m 2 = k := by rw [g1 9 m 2 (fun q => absurd q.1 (by decide)), oh_up_s]
    have m1 : μ1 9 m 1 = f := by rw [g1 9 m 1 (fun q => absurd q.1 (by decide)), oh_up_o (fun q => absurd q.2.2 (by decide)), oh_up_s]
    have a8 : shA A m f k 8 m = k := by
      unfold shA
      rw [if_neg (by omega), if_neg (by omega), if_pos ⟨rfl, rfl⟩]
    have a7 : shA A m f k 7 m = f := by
      unfold shA
      rw [if_neg (by omega), if_pos ⟨rfl, rfl⟩]
    refine h μ1 (RepC_s hR hs4 (fun i i7 i8 i9 => funext fun j => ?_) (fun j hj => ?_) (fun j hj => ?_) hrow ⟨by rw [m2, a8], by rw [a8]; omega, fun _ => by rw [m1, a7]; omega, funext fun j => ?_⟩) (fun s n hs => hrow s n (by omega))
    · unfold shA
      rw [if_neg i9, if_neg (fun q => i7 q.1), if_neg (fun q => i8 q.1)]
    · unfold shA
      rw [if_neg (by omega), if_neg (fun q => hj q.2), if_neg (by omega)]
    · unfold shA
      rw [if_neg (by omega), if_neg (by omega), if_neg (fun q => hj q.2)]
    · unfold shA
      rw [if_pos rfl]
      by_cases e : 0 ≤ j ∧ j < 60
      · rw [if_pos e]
        exact g2 j e.1 e.2
      · rw [if_neg e, g1 10 m j (fun q => e q.2.2), oh_up_o (fun q => absurd q.1 (by decide)), oh_up_o (fun q => absurd q.1 (by decide)), (hR.1.2.2.2.2.2.2.2.2 m hs4).2.2.2]
  · rw [if_pos (by omega)] at h
    refine And.intro ⟨by omega, ?_⟩ trivial
    exact h _ (RepC_fnd 5 hR) (FrC_up (by decide))
def s_lose (A : Ab) (s : Int) : Int × Ab := if ¬ (0 ≤ s ∧ s < 4) then (-2, A) else if A 8 s = -1 then (-11, fndA A 1) else (A 8 s, up2 A 8 s (-1))
theorem RepS_at {A : Ab} {μ : Mem} (h : RepC A μ) {s : Int} (hs : 0 ≤ s ∧ s < 4) : μ 9 s.toNat 2 = A 8 s ∧ (-1 ≤ A 8 s ∧ A 8 s ≤ 60) ∧ (¬ A 8 s = -1 → μ 9 s.toNat 1 = A 7 s ∧ 0 ≤ A 7 s ∧ A 7 s ≤ 2) ∧ μ 10 s.toNat = A (9 + s.toNat) := by
  have := h.1.2.2.2.2.2.2.2.2 s.toNat (by omega)
  have e : ((s.toNat : Nat) : Int) = s := by omega
  rw [e] at this
  exact this
def T_X4_lose : Tr := tC1 s_lose
theorem ok_X4_lose : oh_Ok (pg_X4_lose T_X4_isBelow T_X2_isLost T_X4_found) 3 T_X4_lose := by
  refine tO1_ok fun n s μ Post G hG hn hs hM h => ?_
  obtain rfl := n13 hn
  obtain ⟨A, hR, h⟩ := h
  refine oh_go hG [] 60 ?_
  refine And.intro ?_ trivial
  refine And.intro (fun x => ?_) (fun x => ?_)
  · refine And.intro (fun _ => ?_) (fun y => absurd (by decide) y)
    have e : s_lose A s = if A 8 s = -1 then (-11, fndA A 1) else (A 8 s, up2 A 8 s (-1)) := if_neg (not_not_intro x)
    rw [e] at h
    obtain ⟨s1, s2, s3, s4⟩ := RepS_at hR x
    refine And.intro (by omega) ?_
    refine And.intro ?_ trivial
    rw [← s1] at h
    refine And.intro (fun y => ?_) (fun y => ?_)
    · rw [if_pos y] at h
      refine And.intro (fun z => absurd z (by decide)) (fun _ => ?_)
      exact ⟨⟨by omega, h _ (RepC_fnd 1 hR) (FrC_up (by decide))⟩, trivial⟩
    · rw [if_neg y] at h
      dsimp only at h
      refine And.intro (fun _ => ?_) (fun z => absurd rfl z)
      refine And.intro (by omega) ?_
      refine And.intro (by omega) ?_
      have e2 : ((s.toNat : Nat) : Int) = s := by omega
      refine h _ (RepC_s (k := s.toNat) hR (by omega) (fun i i7 i8 i9 => up2_r i8) (fun j hj => by rw [up2_r (by decide)]) (fun j hj => up2_o (fun q => by omega)) (fun s' n' hs' => funext fun j => oh_up_o (fun q => hs' ⟨by omega, q.2.1⟩)) ⟨?_, ?_, fun z => ?_, ?_⟩) (FrC_up (by decide))
      · rw [oh_up_s, e2]
        exact up2_s.symm
      · rw [e2, up2_s]
        omega
      · rw [e2, up2_s] at z
        exact absurd rfl z
      · rw [up2_r (by omega), ← s4]
        exact funext fun j => oh_up_o (fun q => absurd q.1 (by decide))
  · have e : s_lose A s = (-2, A) := if_pos x
    rw [e] at h
    exact ⟨fun y => absurd rfl y, fun _ => h μ hR FrC_rf⟩
theorem fnd_at {A : Ab} {μ : Mem} (h : RepC A μ) {s f i : Int} (hs : 0 ≤ s ∧ s < 4) : oh_fnd (μ 9 s.toNat 2) (μ 9 s.toNat 1) f i = oh_fnd (A 8 s) (A 7 s) f i := by
  obtain ⟨s1, s2, s3, s4⟩ := RepS_at h hs
  unfold oh_fnd
  rw [s1]
  by_cases e : A 8 s = -1
  · rw [if_pos e, if_pos e]
  · rw [if_neg e, if_neg e, (s3 e).1]
theorem fnd_rg (z g f i : Int) : oh_fnd z g f i = 0 ∨ oh_fnd z g f i = 1 ∨ oh_fnd z g f i = 2 ∨ oh_fnd z g f i = 3 := by
  unfold oh_fnd
  split
  · omega
  · split
    · omega
    · split <;> omega
theorem fnd_0 {z g f i : Int} (h : oh_fnd z g f i = 0) : ¬ z = -1 ∧ g = f ∧ 0 ≤ i ∧ i < z := by
  unfold oh_fnd at h
  split at h
  · omega
  · split at h
    · omega
    · split at h
      · rename_i a b c
        exact ⟨a, Classical.not_not.mp b, c⟩
      · omega
def s_lay (A : Ab) (s f i v : Int) : Int × Ab := if ¬ (0 ≤ s ∧ s < 4) ∨ ¬ (0 ≤ f ∧ f < 3) then (-2, A) else if ¬ oh_fnd (A 8 s) (A 7 s) f i = 0 then (-10 - oh_fnd (A 8 s) (A 7 s) f i, fndA A (oh_fnd (A 8 s) (A 7 s) f i)) else (1, up2 A (9 + s.toNat) i (oh_cut (A 7 s) v))
def T_X4_lay : Tr := tC4 s_lay
theorem ok_X4_lay : oh_Ok (pg_X4_lay T_X4_isBelow T_X2_findingAt T_X4_found T_X2_put) 6 T_X4_lay := by
  refine tO4_ok fun n s f i v μ Post G hG hn hs hf hi hv hM h => ?_
  obtain rfl := n13 hn
  obtain ⟨A, hR, h⟩ := h
  have hbad : ¬ (0 ≤ s ∧ s < 4) ∨ ¬ (0 ≤ f ∧ f < 3) → Post (some (oI (-2))) μ := fun x => by
    have e : s_lay A s f i v = (-2, A) := if_pos x
    rw [e] at h
    exact h μ hR FrC_rf
  refine oh_go hG [] 60 ?_
  refine And.intro ?_ trivial
  refine And.intro (fun x => ?_) (fun x => ⟨fun _ => hbad (Or.inl x), fun y => absurd rfl y⟩)
  refine And.intro (fun y => absurd y (by decide)) (fun _ => ?_)
  refine And.intro ?_ trivial
  refine And.intro (fun z => ?_) (fun z => ⟨fun y => absurd rfl y, fun _ => hbad (Or.inr z)⟩)
  refine And.intro (fun _ => ?_) (fun y => absurd (by decide) y)
  have e : s_lay A s f i v = if ¬ oh_fnd (A 8 s) (A 7 s) f i = 0 then (-10 - oh_fnd (A 8 s) (A 7 s) f i, fndA A (oh_fnd (A 8 s) (A 7 s) f i)) else (1, up2 A (9 + s.toNat) i (oh_cut (A 7 s) v)) := if_neg (by omega)
  rw [e] at h
  have hfa := fnd_at hR (f := f) (i := i) x
  have hr := fnd_rg (A 8 s) (A 7 s) f i
  obtain ⟨s1, s2, s3, s4⟩ := RepS_at hR x
  refine And.intro (by omega) ?_
  refine And.intro ?_ trivial
  show oh_wp _ Post G _ _ _ _ [oI (oh_fnd (μ 9 s.toNat 2) (μ 9 s.toNat 1) f i)] μ
  rw [hfa]
  refine And.intro (fun y => ?_) (fun y => ?_)
  · rw [if_neg (not_not_intro y)] at h
    dsimp only at h
    obtain ⟨b1, b2, b3⟩ := fnd_0 y
    refine And.intro (by omega) ?_
    refine And.intro ?_ trivial
    refine And.intro (by omega) ?_
    rw [(s3 b1).1]
    have e2 : ((s.toNat : Nat) : Int) = s := by omega
    refine h _ (RepC_s (k := s.toNat) hR (by omega) (fun i i7 i8 i9 => up2_r i9) (fun j hj => by rw [up2_r (by omega)]) (fun j hj => by rw [up2_r (by omega)]) (fun s' n' hs' => funext fun j => oh_up_o (fun q => hs' ⟨by omega, q.2.1⟩)) ⟨?_, ?_, fun z => ?_, funext fun j => ?_⟩) (FrC_up (by decide))
    · rw [up2_r (by omega), e2, oh_up_o (fun q => absurd q.1 (by decide))]
      exact s1
    · rw [up2_r (by omega), e2]
      exact s2
    · rw [up2_r (by omega), e2, oh_up_o (fun q => absurd q.1 (by decide))]
      exact s3 b1
    · by_cases e : j = i
      · rw [e, oh_up_s, up2_s]
      · rw [oh_up_o (fun q => e q.2.2), up2_o (fun q => e q.2), s4]
  · rw [if_pos y] at h
    refine And.intro ⟨by omega, ?_⟩ trivial
    exact h _ (RepC_fnd _ hR) (FrC_up (by decide))
def s_get (A : Ab) (s f i : Int) : Int × Ab := if ¬ (0 ≤ s ∧ s < 4) ∨ ¬ (0 ≤ f ∧ f < 3) then (-2147483648, A) else if ¬ oh_fnd (A 8 s) (A 7 s) f i = 0 then (-2147483648, fndA A (oh_fnd (A 8 s) (A 7 s) f i)) else (A (9 + s.toNat) i, A)
def T_X4_get : Tr := tC3 s_get
theorem ok_X4_get : oh_Ok (pg_X4_get T_X4_isBelow T_X2_findingAt) 5 T_X4_get := by
  refine tO3_ok fun n s f i μ Post G hG hn hs hf hi hM h => ?_
  obtain rfl := n13 hn
  obtain ⟨A, hR, h⟩ := h
  have hbad : ¬ (0 ≤ s ∧ s < 4) ∨ ¬ (0 ≤ f ∧ f < 3) → Post (some (oI (-2147483648))) μ := fun x => by
    have e : s_get A s f i = (-2147483648, A) := if_pos x
    rw [e] at h
    exact h μ hR FrC_rf
  refine oh_go hG [] 60 ?_
  refine And.intro ?_ trivial
  refine And.intro (fun x => ?_) (fun x => ⟨fun _ => hbad (Or.inl x), fun y => absurd rfl y⟩)
  refine And.intro (fun y => absurd y (by decide)) (fun _ => ?_)
  refine And.intro ?_ trivial
  refine And.intro (fun z => ?_) (fun z => ⟨fun y => absurd rfl y, fun _ => hbad (Or.inr z)⟩)
  refine And.intro (fun _ => ?_) (fun y => absurd (by decide) y)
  have e : s_get A s f i = if ¬ oh_fnd (A 8 s) (A 7 s) f i = 0 then (-2147483648, fndA A (oh_fnd (A 8 s) (A 7 s) f i)) else (A (9 + s.toNat) i, A) := if_neg (by omega)
  rw [e] at h
  have hfa := fnd_at hR (f := f) (i := i) x
  obtain ⟨s1, s2, s3, s4⟩ := RepS_at hR x
  refine And.intro (by omega) ?_
  refine And.intro ?_ trivial
  show oh_wp _ Post G _ _ _ _ [oI (oh_fnd (μ 9 s.toNat 2) (μ 9 s.toNat 1) f i)] μ
  rw [hfa]
  refine And.intro (fun y => ?_) (fun y => ?_)
  · rw [if_neg (not_not_intro y), ← s4] at h
    obtain ⟨b1, b2, b3⟩ := fnd_0 y
    refine And.intro (by omega) ?_
    refine And.intro (by omega) ?_
    exact h μ hR FrC_rf
  · rw [if_pos y] at h
    exact h _ (RepC_fnd _ hR) (FrC_up (by decide))
def cpA (A : Ab) (s t : Nat) (i j n : Int) : Ab := fun k x => if k = 9 + t ∧ j ≤ x ∧ x < j + n then A (9 + s) (i + (x - j)) else A k x
def s_copy (A : Ab) (s i t j n : Int) : Int × Ab := if ¬ (0 ≤ s ∧ s < 4) ∨ ¬ (0 ≤ t ∧ t < 4) then (-2, A) else if A 8 s = -1 ∨ A 8 t = -1 then (-11, fndA A 1) else if ¬ A 7 s = A 7 t then (-14, fndA A 4) else
  if ¬ (0 ≤ i ∧ 0 ≤ n ∧ i + n ≤ A 8 s) ∨ ¬ (0 ≤ j ∧ 0 ≤ n ∧ j + n ≤ A 8 t) then (-12, fndA A 2) else (1, cpA A s.toNat t.toNat i j n)
def T_X4_copy : Tr := tC5 s_copy
theorem ok_X4_copy : oh_Ok (pg_X4_copy T_X4_isBelow T_X2_isLost T_X4_found T_X2_hasItems T_cp) 8 T_X4_copy := by
  refine tO5_ok fun n s i t j k μ Post G hG hn hs hi ht hj hk hM h => ?_
  obtain rfl := n13 hn
  obtain ⟨A, hR, h⟩ := h
  have hbad : ¬ (0 ≤ s ∧ s < 4) ∨ ¬ (0 ≤ t ∧ t < 4) → Post (some (oI (-2))) μ := fun x => by
    have e : s_copy A s i t j k = (-2, A) := if_pos x
    rw [e] at h
    exact h μ hR FrC_rf
  refine oh_go hG [] 100 ?_
  refine And.intro ?_ trivial
  refine And.intro (fun x => ?_) (fun x => ⟨fun _ => hbad (Or.inl x), fun y => absurd rfl y⟩)
  refine And.intro (fun y => absurd y (by decide)) (fun _ => ?_)
  refine And.intro ?_ trivial
  refine And.intro (fun z => ?_) (fun z => ⟨fun y => absurd rfl y, fun _ => hbad (Or.inr z)⟩)
  refine And.intro (fun _ => ?_) (fun y => absurd (by decide) y)
  unfold s_copy at h
  rw [if_neg (by omega)] at h
  obtain ⟨s1, s2, s3, s4⟩ := RepS_at hR x
  obtain ⟨t1, t2, t3, t4⟩ := RepS_at hR z
  have lost : A 8 s = -1 ∨ A 8 t = -1 → Post (some (oI (-10 - 1))) (oh_up μ 13 0 14 1) := fun q => by
    rw [if_pos q] at h
    exact h _ (RepC_fnd 1 hR) (FrC_up (by decide))
  refine And.intro (by omega) ?_
  refine And.intro (by omega) ?_
  refine And.intro ?_ trivial
  refine And.intro (fun y => ⟨fun _ => ⟨⟨by omega, lost (Or.inl (by omega))⟩, trivial⟩, fun q => absurd (by decide) q⟩) (fun y => ?_)
  refine And.intro (fun q => absurd rfl q) (fun _ => ?_)
  refine And.intro ?_ trivial
  refine And.intro (fun w => ⟨fun q => absurd q (by decide), fun _ => ⟨⟨by omega, lost (Or.inr (by omega))⟩, trivial⟩⟩) (fun w => ?_)
  refine And.intro (fun _ => ?_) (fun q => absurd rfl q)
  rw [if_neg (by omega), ← (s3 (by omega)).1, ← (t3 (by omega)).1] at h
  refine And.intro (fun v => ?_) (fun v => ?_)
  · rw [if_neg (not_not_intro v)] at h
    have idx : ¬ (0 ≤ i ∧ 0 ≤ k ∧ i + k ≤ A 8 s) ∨ ¬ (0 ≤ j ∧ 0 ≤ k ∧ j + k ≤ A 8 t) → Post (some (oI (-10 - 2))) (oh_up μ 13 0 14 2) := fun q => by
      rw [if_pos q] at h
      exact h _ (RepC_fnd 2 hR) (FrC_up (by decide))
    refine And.intro ?_ trivial
    refine And.intro (by rw [s1]; exact s2) ?_
    rw [s1]
    refine And.intro (fun u => ?_) (fun u => ⟨fun _ => ⟨⟨by omega, idx (Or.inl u)⟩, trivial⟩, fun q => absurd rfl q⟩)
    refine And.intro (fun q => absurd q (by decide)) (fun _ => ?_)
    refine And.intro ?_ trivial
    refine And.intro (by rw [t1]; exact t2) ?_
    rw [t1]
    refine And.intro (fun r => ?_) (fun r => ⟨fun q => absurd rfl q, fun _ => ⟨⟨by omega, idx (Or.inr r)⟩, trivial⟩⟩)
    refine And.intro (fun _ => ?_) (fun q => absurd (by decide) q)
    rw [if_neg (by omega)] at h
    dsimp only at h
    refine And.intro ⟨_, _, _, _, _, _, _, 60, 60, rfl, rfl, rfl, by omega, by omega, by omega, by omega, by omega, ?_⟩ trivial
    have e2 : ((t.toNat : Nat) : Int) = t := by omega
    have hk4 : t.toNat < 4 := by omega
    refine h _ (RepC_s (k := t.toNat) hR hk4 (fun a i7 i8 i9 => funext fun b => ?_) (fun b hb => ?_) (fun b hb => ?_) (fun s' n' hs' => funext fun b => ?_) ⟨?_, ?_, fun q => ?_, funext fun b => ?_⟩) (fun s' n' hs' => funext fun b => ?_)
    · unfold cpA
      rw [if_neg (fun q => i9 q.1)]
    · unfold cpA
      rw [if_neg (by omega)]
    · unfold cpA
      rw [if_neg (by omega)]
    · unfold oh_cp
      rw [if_neg (fun q => hs' ⟨by omega, q.2.1⟩)]
    · unfold cpA oh_cp
      rw [if_neg (by omega), if_neg (by omega), e2]
      exact t1
    · unfold cpA
      rw [if_neg (by omega), e2]
      exact t2
    · unfold cpA oh_cp
      rw [if_neg (by omega), if_neg (by omega), e2]
      exact t3 (by omega)
    · unfold cpA oh_cp
      by_cases e : j ≤ b ∧ b < j + k
      · rw [if_pos ⟨rfl, rfl, e⟩, if_pos ⟨rfl, e⟩, s4]
      · rw [if_neg (fun q => e q.2.2), if_neg (fun q => e q.2), t4]
    · unfold oh_cp
      rw [if_neg (by omega)]
  · rw [if_pos v] at h
    exact ⟨⟨by omega, h _ (RepC_fnd 4 hR) (FrC_up (by decide))⟩, trivial⟩
