/-! LEAVES: small functions of both classes and of the JDK -/
def T_X4_isBelow : Tr := tS2 fun v e μ Post => (0 ≤ v ∧ v < e → Post (some (oI 1)) μ) ∧ (¬ (0 ≤ v ∧ v < e) → Post (some (oI 0)) μ)
theorem ok_X4_isBelow : oh_Ok pg_X4_isBelow 2 T_X4_isBelow := by
  refine tS2_ok fun v e μ Post G hG hv he hM h => ?_
  refine oh_go hG [] 40 ?_
  repeat' (first | apply And.intro | intro _)
  all_goals first | trivial | omega | exact h.1 (by omega) | exact h.2 (by omega)
def T_X4_isCell : Tr := tS2 fun b h μ Post => ((0 ≤ b ∧ b < 6) ∧ 0 ≤ h ∧ h < 24 → Post (some (oI 1)) μ) ∧ (¬ ((0 ≤ b ∧ b < 6) ∧ 0 ≤ h ∧ h < 24) → Post (some (oI 0)) μ)
theorem ok_X4_isCell : oh_Ok (pg_X4_isCell T_X4_isBelow) 2 T_X4_isCell := by
  refine tS2_ok fun v e μ Post G hG hv he hM h => ?_
  refine oh_go hG [] 40 ?_
  repeat' (first | apply And.intro | intro _)
  all_goals first | trivial | omega | exact h.1 (by omega) | exact h.2 (by omega)
def T_X4_areTwo : Tr := tS2 fun a b μ Post => ((0 ≤ a ∧ a < 6) ∧ (0 ≤ b ∧ b < 6) ∧ a ≠ b → Post (some (oI 1)) μ) ∧ (¬ ((0 ≤ a ∧ a < 6) ∧ (0 ≤ b ∧ b < 6) ∧ a ≠ b) → Post (some (oI 0)) μ)
theorem ok_X4_areTwo : oh_Ok (pg_X4_areTwo T_X4_isBelow) 2 T_X4_areTwo := by
  refine tS2_ok fun v e μ Post G hG hv he hM h => ?_
  refine oh_go hG [] 40 ?_
  repeat' (first | apply And.intro | intro _)
  all_goals first | trivial | omega | exact h.1 (by omega) | exact h.2 (by omega)
def T_X4_isWork : Tr := tS1 fun n μ Post => (1 ≤ n ∧ n ≤ 99 → Post (some (oI 1)) μ) ∧ (¬ (1 ≤ n ∧ n ≤ 99) → Post (some (oI 0)) μ)
theorem ok_X4_isWork : oh_Ok pg_X4_isWork 1 T_X4_isWork := by
  refine tS1_ok fun v μ Post G hG hv hM h => ?_
  refine oh_go hG [] 40 ?_
  repeat' (first | apply And.intro | intro _)
  all_goals first | trivial | omega | exact h.1 (by omega) | exact h.2 (by omega)
def T_X4_cell : Tr := tS2 fun b h μ Post => ((-1000000 ≤ b ∧ b ≤ 1000000) ∧ -1000000 ≤ h ∧ h ≤ 1000000) ∧ Post (some (oI (b * 24 + h))) μ
theorem ok_X4_cell : oh_Ok pg_X4_cell 2 T_X4_cell := by
  refine tS2_ok fun v e μ Post G hG hv he hM h => ?_
  refine oh_go hG [] 40 ?_
  exact ⟨⟨by omega, by omega⟩, ⟨by omega, by omega⟩, h.2⟩
def oh_mix (h v : Int) : Int := oh_w64 (oh_w64 (31 * h) + v)
def T_X4_mix : Tr := tL2 fun h v μ Post => Post (some (oL (oh_mix h v))) μ
theorem ok_X4_mix : oh_Ok pg_X4_mix 4 T_X4_mix := by
  refine tL2_ok fun v e μ Post G hG hv he hM h => ?_
  refine oh_go hG [] 40 ?_
  exact h
def oh_max (a b : Int) : Int := if a < b then b else a
def oh_min (a b : Int) : Int := if b < a then b else a
theorem oh_max_eq (a b : Int) : oh_max a b = max a b := by unfold oh_max; omega
theorem oh_min_eq (a b : Int) : oh_min a b = min a b := by unfold oh_min; omega
def T_J9_max_7cf53 : Tr := tS2 fun a b μ Post => Post (some (oI (max a b))) μ
theorem ok_J9_max_7cf53 : oh_Ok pg_J9_max_7cf53 2 T_J9_max_7cf53 := by
  refine tS2_ok fun v e μ Post G hG hv he hM h => ?_
  refine oh_go hG [] 40 ?_
  refine ⟨fun a => ?_, fun a => ?_⟩
  · have q : max v e = e := by omega
    rw [q] at h
    exact h
  · have q : max v e = v := by omega
    rw [q] at h
    exact h
def T_J9_min_7cf53 : Tr := tS2 fun a b μ Post => Post (some (oI (min a b))) μ
theorem ok_J9_min_7cf53 : oh_Ok pg_J9_min_7cf53 2 T_J9_min_7cf53 := by
  refine tS2_ok fun v e μ Post G hG hv he hM h => ?_
  refine oh_go hG [] 40 ?_
  refine ⟨fun a => ?_, fun a => ?_⟩
  · have q : min v e = e := by omega
    rw [q] at h
    exact h
  · have q : min v e = v := by omega
    rw [q] at h
    exact h
/-- a memory that differs at most within a row's places lo .. hi - 1 -/
def oh_off (s n : Nat) (lo hi : Int) (μ μ' : Mem) : Prop := ∀ s' n' j', ¬ (s' = s ∧ n' = n ∧ lo ≤ j' ∧ j' < hi) → μ' s' n' j' = μ s' n' j'
def T_J7_rangeCheck_23922 : Tr := tS3 fun L a b μ Post => (a ≤ b ∧ 0 ≤ a ∧ b ≤ L) ∧ Post none μ
theorem ok_J7_rangeCheck_23922 : oh_Ok pg_J7_rangeCheck_23922 3 T_J7_rangeCheck_23922 := by
  refine tS3_ok fun L a b μ Post G hG hL ha hb hM h => ?_
  refine oh_go hG [] 40 ?_
  refine ⟨fun x => ⟨fun y => ⟨fun z => h.2, fun z => absurd h.1.2.2 z⟩, fun y => absurd h.1.2.1 y⟩, fun x => absurd h.1.1 x⟩
def oh_fl (s : Nat) : Int := match s with
  | 10 => 60
  | _ => 144
def T_J7_fill_53178 : Tr := tA1 fun s n v μ Post => (s = 2 ∨ s = 10) ∧ ∀ μ', oh_off s n 0 (oh_fl s) μ μ' → (∀ j, 0 ≤ j → j < oh_fl s → μ' s n j = v) → Post none μ'
def T_J7_fill_fda19 : Tr := tA3 fun s n a b v μ Post => s = 8 ∧ (a ≤ b ∧ 0 ≤ a ∧ b ≤ 144) ∧ ∀ μ', oh_off s n a b μ μ' → (∀ j, a ≤ j → j < b → μ' s n j = v) → Post none μ'
theorem oh_off_up {s n : Nat} {lo hi j v : Int} {μ μ' : Mem} (h : oh_off s n lo hi μ μ') (h1 : lo ≤ j) (h2 : j < hi) : oh_off s n lo hi μ (oh_up μ' s n j v) := by
  intro s' n' j' hq
  rw [oh_up_o (fun q => hq ⟨q.1, q.2.1, by omega, by omega⟩)]
  exact h _ _ _ hq
theorem oh_off_rf {s n : Nat} {lo hi : Int} {μ : Mem} : oh_off s n lo hi μ μ := fun _ _ _ _ => rfl
theorem ok_fill_at {Post : Po} {F : Int → Mem → Prop} (s n : Nat) (v a b : Int) (μ : Mem) (h : ∀ μ', oh_off s n a b μ μ' → (∀ j, a ≤ j → j < b → μ' s n j = v) → Post none μ')
    (hhd : ∀ c, a ≤ c → c ≤ b → ∀ μ', (b ≤ c → Post none μ') → (c < b → F (c + 1) (oh_up μ' s n c v)) → F c μ') :
    ∀ c, a ≤ c → c ≤ b → ∀ μ', oh_off s n a b μ μ' → (∀ j, a ≤ j → j < c → μ' s n j = v) → F c μ' := by
  refine oh_for (F := fun c => a ≤ c → c ≤ b → ∀ μ', oh_off s n a b μ μ' → (∀ j, a ≤ j → j < c → μ' s n j = v) → F c μ') b ?_ ?_
  · intro c hc h0 h1 μ' ho hv
    exact hhd c h0 h1 μ' (fun _ => h μ' ho (fun j a b => hv j a (by omega))) (fun q => absurd q (by omega))
  · intro c hc ih h0 h1 μ' ho hv
    refine hhd c h0 h1 μ' (fun q => absurd hc (by omega)) (fun _ => ih (by omega) (by omega) _ (oh_off_up ho h0 hc) (fun j a b => ?_))
    by_cases e : j = c
    · rw [e, oh_up_s]
    · rw [oh_up_o (fun q => e q.2.2)]
      exact hv j a (by omega)
theorem ok_J7_fill_53178 : oh_Ok pg_J7_fill_53178 4 T_J7_fill_53178 := by
  refine tA1_ok fun s n v μ Post G hG hn hv hM h => ?_
  obtain ⟨rfl | rfl, h⟩ := h
  · refine oh_go hG [(5, 4)] 12 ?_
    refine ok_fill_at (F := fun c μ' => G 5 [some (oR 2 n), some (oI v), some (oI c), some (oI 144)] [] μ') 2 n v 0 144 μ h ?_ 0 (by omega) (by omega) μ oh_off_rf (fun j a b => absurd b (by omega))
    intro c h0 h1 μ' he hs
    refine oh_go hG [(5, 4)] 20 ?_
    exact ⟨fun a => he a, fun a => ⟨⟨h0, by omega⟩, ⟨by omega, by omega⟩, hs (by omega)⟩⟩
  · refine oh_go hG [(5, 4)] 12 ?_
    refine ok_fill_at (F := fun c μ' => G 5 [some (oR 10 n), some (oI v), some (oI c), some (oI 60)] [] μ') 10 n v 0 60 μ h ?_ 0 (by omega) (by omega) μ oh_off_rf (fun j a b => absurd b (by omega))
    intro c h0 h1 μ' he hs
    refine oh_go hG [(5, 4)] 20 ?_
    exact ⟨fun a => he a, fun a => ⟨⟨h0, by omega⟩, ⟨by omega, by omega⟩, hs (by omega)⟩⟩
theorem ok_J7_fill_fda19 : oh_Ok (pg_J7_fill_fda19 T_J7_rangeCheck_23922) 5 T_J7_fill_fda19 := by
  refine tA3_ok fun s n a b v μ Post G hG hn ha hb hv hM h => ?_
  obtain ⟨rfl, hr, h⟩ := h
  refine oh_go hG [(10, 5)] 12 ?_
  refine ⟨⟨hr, ?_⟩, trivial⟩
  refine ok_fill_at (F := fun c μ' => G 10 [some (oR 8 n), some (oI a), some (oI b), some (oI v), some (oI c)] [] μ') 8 n v a b μ h ?_ a (by omega) (by omega) μ oh_off_rf (fun j a b => absurd b (by omega))
  intro c h0 h1 μ' he hs
  refine oh_go hG [(10, 5)] 20 ?_
  exact ⟨fun a => he a, fun a => ⟨⟨by omega, by omega⟩, ⟨by omega, by omega⟩, hs (by omega)⟩⟩
/-! sheets -/
def T_X2_isLost : Tr := tO0 9 fun n μ Post => (μ 9 n 2 = -1 → Post (some (oI 1)) μ) ∧ (¬ μ 9 n 2 = -1 → Post (some (oI 0)) μ)
theorem ok_X2_isLost : oh_Ok pg_X2_isLost 1 T_X2_isLost := by
  refine tO0_ok fun n μ Post G hG hn hM h => ?_
  refine oh_go hG [] 40 ?_
  exact ⟨fun a => ⟨by omega, h.2 a⟩, fun a => ⟨by omega, h.1 (by omega)⟩⟩
def T_X2_renew : Tr := tO2 9 fun n f k μ Post => ∀ μ', oh_off 10 n 0 60 (oh_up (oh_up μ 9 n 1 f) 9 n 2 k) μ' → (∀ j, 0 ≤ j → j < 60 → μ' 10 n j = 0) → Post none μ'
theorem ok_X2_renew : oh_Ok (pg_X2_renew T_J7_fill_53178) 3 T_X2_renew := by
  refine tO2_ok fun n f k μ Post G hG hn hf hk hM h => ?_
  refine oh_go hG [] 40 ?_
  exact ⟨⟨Or.inr rfl, fun μ' h1 h2 => h μ' h1 h2⟩, trivial⟩
/-- what forbids the use of item i of a sheet as one of a form -/
def oh_fnd (size form f i : Int) : Int := if size = -1 then 1 else if ¬ form = f then 3 else if 0 ≤ i ∧ i < size then 0 else 2
def T_X2_findingAt : Tr := tO2 9 fun n f i μ Post => Post (some (oI (oh_fnd (μ 9 n 2) (μ 9 n 1) f i))) μ
theorem ok_X2_findingAt : oh_Ok (pg_X2_findingAt T_X2_isLost T_X4_isBelow) 3 T_X2_findingAt := by
  refine tO2_ok fun n f i μ Post G hG hn hf hi hM h => ?_
  unfold oh_fnd at h
  refine oh_go hG [] 40 ?_
  refine ⟨⟨fun a => ⟨fun b => absurd b (by decide), fun _ => ?_⟩, fun a => ⟨fun _ => ⟨fun b => ?_, fun b => ?_⟩, fun b => absurd rfl b⟩⟩, trivial⟩
  · rw [if_pos a] at h
    exact h
  · rw [if_neg a, if_neg (not_not_intro b)] at h
    refine ⟨⟨fun c => ⟨fun d => absurd d (by decide), fun _ => ?_⟩, fun c => ⟨fun _ => ?_, fun d => absurd rfl d⟩⟩, trivial⟩
    · rw [if_pos c] at h
      exact h
    · rw [if_neg c] at h
      exact h
  · rw [if_neg a, if_pos b] at h
    exact h
def T_X2_hasItems : Tr := tO2 9 fun n i k μ Post => (-1 ≤ μ 9 n 2 ∧ μ 9 n 2 ≤ 60) ∧ ((0 ≤ i ∧ 0 ≤ k ∧ i + k ≤ μ 9 n 2) → Post (some (oI 1)) μ) ∧ (¬ (0 ≤ i ∧ 0 ≤ k ∧ i + k ≤ μ 9 n 2) → Post (some (oI 0)) μ)
theorem ok_X2_hasItems : oh_Ok pg_X2_hasItems 3 T_X2_hasItems := by
  refine tO2_ok fun n i k μ Post G hG hn hi hk hM h => ?_
  refine oh_go hG [] 40 ?_
  repeat' (first | apply And.intro | intro _)
  all_goals first | trivial | omega | exact h.2.1 (by omega) | exact h.2.2 (by omega)
def oh_cut (f v : Int) : Int := if f = 0 then oh_i2b v else if f = 1 then oh_i2s v else v
def T_X2_put : Tr := tO2 9 fun n i v μ Post => (0 ≤ i ∧ i < 60) ∧ Post none (oh_up μ 10 n i (oh_cut (μ 9 n 1) v))
theorem ok_X2_put : oh_Ok pg_X2_put 3 T_X2_put := by
  refine tO2_ok fun n i k μ Post G hG hn hi hk hM h => ?_
  obtain ⟨h0, h⟩ := h
  unfold oh_cut at h
  refine oh_go hG [] 40 ?_
  refine ⟨fun a => ⟨fun b => ⟨h0, ?_⟩, fun b => ⟨h0, ?_⟩⟩, fun a => ⟨h0, ?_⟩⟩
  · rw [if_neg a, if_neg b] at h
    exact h
  · rw [if_neg a, if_pos (by omega)] at h
    exact h
  · rw [if_pos (by omega)] at h
    exact h
/-! the reference's small functions -/
theorem oh_cmp_lt {x y : Int} : oh_cmp x y < 0 ↔ x < y := by
  unfold oh_cmp
  split
  · omega
  · split <;> omega
theorem oh_cmp_gt {x y : Int} : 0 < oh_cmp x y ↔ y < x := by
  unfold oh_cmp
  split
  · omega
  · split <;> omega
def T_X5_in : Tr := tL3 fun v a b μ Post => (a ≤ v ∧ v ≤ b → Post (some (oI 1)) μ) ∧ (¬ (a ≤ v ∧ v ≤ b) → Post (some (oI 0)) μ)
theorem ok_X5_in : oh_Ok pg_X5_in 6 T_X5_in := by
  refine tL3_ok fun v a b μ Post G hG hv ha hb hM h => ?_
  refine oh_go hG [] 40 ?_
  refine ⟨fun x => ⟨by omega, h.2 (by have := oh_cmp_lt.mp x; omega)⟩, fun x => ⟨fun y => ⟨by omega, h.2 (by have := oh_cmp_gt.mp y; omega)⟩, fun y => ⟨by omega, h.1 ?_⟩⟩⟩
  have e1 : ¬ v < a := fun q => x (oh_cmp_lt.mpr q)
  have e2 : ¬ b < v := fun q => y (oh_cmp_gt.mpr q)
  omega
def T_X5_isTwo : Tr := tS1 fun v μ Post => (0 ≤ v ∧ v ≤ 1 → Post (some (oI 1)) μ) ∧ (¬ (0 ≤ v ∧ v ≤ 1) → Post (some (oI 0)) μ)
theorem ok_X5_isTwo : oh_Ok (pg_X5_isTwo T_X5_in) 1 T_X5_isTwo := by
  refine tS1_ok fun v μ Post G hG hv hM h => ?_
  refine oh_go hG [] 40 ?_
  exact ⟨⟨fun a => ⟨by omega, h.1 a⟩, fun a => ⟨by omega, h.2 a⟩⟩, trivial⟩
def T_X5_isSheet : Tr := tS1 fun v μ Post => (0 ≤ v ∧ v ≤ 3 → Post (some (oI 1)) μ) ∧ (¬ (0 ≤ v ∧ v ≤ 3) → Post (some (oI 0)) μ)
theorem ok_X5_isSheet : oh_Ok (pg_X5_isSheet T_X5_in) 1 T_X5_isSheet := by
  refine tS1_ok fun v μ Post G hG hv hM h => ?_
  refine oh_go hG [] 40 ?_
  exact ⟨⟨fun a => ⟨by omega, h.1 a⟩, fun a => ⟨by omega, h.2 a⟩⟩, trivial⟩
def T_X5_isBody : Tr := tS1 fun v μ Post => (0 ≤ v ∧ v ≤ 5 → Post (some (oI 1)) μ) ∧ (¬ (0 ≤ v ∧ v ≤ 5) → Post (some (oI 0)) μ)
theorem ok_X5_isBody : oh_Ok (pg_X5_isBody T_X5_in) 1 T_X5_isBody := by
  refine tS1_ok fun v μ Post G hG hv hM h => ?_
  refine oh_go hG [] 40 ?_
  exact ⟨⟨fun a => ⟨by omega, h.1 a⟩, fun a => ⟨by omega, h.2 a⟩⟩, trivial⟩
def T_X5_isHour : Tr := tS1 fun v μ Post => (0 ≤ v ∧ v ≤ 23 → Post (some (oI 1)) μ) ∧ (¬ (0 ≤ v ∧ v ≤ 23) → Post (some (oI 0)) μ)
theorem ok_X5_isHour : oh_Ok (pg_X5_isHour T_X5_in) 1 T_X5_isHour := by
  refine tS1_ok fun v μ Post G hG hv hM h => ?_
  refine oh_go hG [] 40 ?_
  exact ⟨⟨fun a => ⟨by omega, h.1 a⟩, fun a => ⟨by omega, h.2 a⟩⟩, trivial⟩
def T_X5_greater : Tr := tS2 fun a b μ Post => Post (some (oI (max a b))) μ
theorem ok_X5_greater : oh_Ok pg_X5_greater 2 T_X5_greater := by
  refine tS2_ok fun v e μ Post G hG hv he hM h => ?_
  refine oh_go hG [] 40 ?_
  refine ⟨fun a => ?_, fun a => ?_⟩
  · have q : max v e = e := by omega
    rw [q] at h
    exact h
  · have q : max v e = v := by omega
    rw [q] at h
    exact h
def T_X5_lesser : Tr := tS2 fun a b μ Post => Post (some (oI (min a b))) μ
theorem ok_X5_lesser : oh_Ok pg_X5_lesser 2 T_X5_lesser := by
  refine tS2_ok fun v e μ Post G hG hv he hM h => ?_
  refine oh_go hG [] 40 ?_
  refine ⟨fun a => ?_, fun a => ?_⟩
  · have q : min v e = e := by omega
    rw [q] at h
    exact h
  · have q : min v e = v := by omega
    rw [q] at h
    exact h
def T_X5_finds : Tr := tO1 22 fun n f μ Post => (0 ≤ f ∧ f ≤ 10) ∧ Post (some (oI (-10 - f))) (oh_up μ 22 n 4 f)
theorem ok_X5_finds : oh_Ok pg_X5_finds 2 T_X5_finds := by
  refine tO1_ok fun n f μ Post G hG hn hf hM h => ?_
  refine oh_go hG [] 40 ?_
  exact ⟨by omega, h.2⟩
def T_X4_found : Tr := tO1 13 fun n f μ Post => (0 ≤ f ∧ f ≤ 10) ∧ Post (some (oI (-10 - f))) (oh_up μ 13 n 14 f)
theorem ok_X4_found : oh_Ok pg_X4_found 2 T_X4_found := by
  refine tO1_ok fun n f μ Post G hG hn hf hM h => ?_
  refine oh_go hG [] 40 ?_
  exact ⟨by omega, h.2⟩
def T_X5_cut : Tr := tS2 fun f v μ Post => Post (some (oI (oh_cut f v))) μ
theorem ok_X5_cut : oh_Ok pg_X5_cut 2 T_X5_cut := by
  refine tS2_ok fun f v μ Post G hG hf hv hM h => ?_
  unfold oh_cut at h
  refine oh_go hG [] 40 ?_
  refine ⟨fun a => ⟨fun b => ?_, fun b => ?_⟩, fun a => ?_⟩
  · rw [if_neg a, if_neg b] at h
    exact h
  · rw [if_neg a, if_pos (by omega)] at h
    exact h
  · rw [if_pos (by omega)] at h
    exact h
def oh_toil (d : Int) : Int := if d = 0 then -3 else if d = 1 then 2 else if d = 4 then 0 else 1
def T_X5_more : Tr := tS1 fun d μ Post => Post (some (oI (oh_toil d))) μ
theorem ok_X5_more : oh_Ok pg_X5_more 1 T_X5_more := by
  refine tS1_ok fun v μ Post G hG hv hM h => ?_
  unfold oh_toil at h
  refine oh_go hG [] 40 ?_
  refine ⟨fun a => ⟨fun b => ⟨fun c => ?_, fun c => ?_⟩, fun b => ?_⟩, fun a => ?_⟩
  · rw [if_neg a, if_neg b, if_neg c] at h
    exact h
  · rw [if_neg a, if_neg b, if_pos (by omega)] at h
    exact h
  · rw [if_neg a, if_pos (by omega)] at h
    exact h
  · rw [if_pos (by omega)] at h
    exact h
