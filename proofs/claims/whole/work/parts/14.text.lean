/-! TEXTS: grants (0) and orders (1), byte by byte -/
def stp (n : Nat) : Int := match n with
  | 0 => 5
  | _ => 6
def ldd (n : Nat) : Int := match n with
  | 0 => 1
  | _ => 2
def lst (n : Nat) : Int := match n with
  | 0 => 6
  | _ => 5
def onc (n : Nat) : Int := match n with
  | 0 => 1
  | _ => 0
/-- figures of entry k of a text with bytes f -/
def fig (n : Nat) (f : Int → Int) (k a : Int) : Int := f (k * stp n + a) - 48
def bo (n : Nat) (f : Int → Int) (k : Int) : Int := fig n f k (ldd n - 1)
def ho (n : Nat) (f : Int → Int) (k : Int) : Int := 10 * fig n f k (ldd n) + fig n f k (ldd n + 1)
def la (n : Nat) (f : Int → Int) (k : Int) : Int := fig n f k (ldd n + 2)
def fi (n : Nat) (f : Int → Int) (k : Int) : Int := fig n f k 0
/-- a text object as it is made and filled -/
def tq (n : Nat) (μ : Mem) : Prop := μ 11 n 1 = ldd n ∧ μ 11 n 2 = stp n ∧ μ 11 n 3 = lst n ∧ μ 11 n 4 = onc n ∧ (0 ≤ μ 11 n 5 ∧ μ 11 n 5 ≤ 99) ∧ ∀ j, 0 ≤ j → j < μ 11 n 5 → 0 ≤ μ 12 n j ∧ μ 12 n j ≤ 255
def T_X3_figure : Tr := tO2 11 fun n k a μ Post => (tq n μ ∧ (0 ≤ k ∧ 0 ≤ a ∧ a ≤ 5) ∧ k * stp n + a < μ 11 n 5) ∧ Post (some (oI (fig n (μ 12 n) k a))) μ
theorem ok_X3_figure : oh_Ok pg_X3_figure 3 T_X3_figure := by
  refine tO2_ok fun n k a μ Post G hG hn hk ha hM h => ?_
  have hn : n < 2 := hn
  obtain ⟨⟨⟨h1, h2, h3, h4, h5, h6⟩, hr, hi⟩, h⟩ := h
  unfold fig at h
  rcases (show n = 0 ∨ n = 1 by omega) with rfl | rfl
  · have h2 : μ 11 0 2 = 5 := h2
    have hi : k * 5 + a < μ 11 0 5 := hi
    have h : Post (some (oI (μ 12 0 (k * 5 + a) - 48))) μ := h
    have hb := h6 (k * 5 + a) (by omega) hi
    refine oh_go hG [] 40 ?_
    refine ⟨by rw [h2]; omega, by rw [h2]; omega, by rw [h2]; omega, by rw [h2]; omega, ?_⟩
    rw [h2]
    exact h
  · have h2 : μ 11 1 2 = 6 := h2
    have hi : k * 6 + a < μ 11 1 5 := hi
    have h : Post (some (oI (μ 12 1 (k * 6 + a) - 48))) μ := h
    have hb := h6 (k * 6 + a) (by omega) hi
    refine oh_go hG [] 40 ?_
    refine ⟨by rw [h2]; omega, by rw [h2]; omega, by rw [h2]; omega, by rw [h2]; omega, ?_⟩
    rw [h2]
    exact h
/-- entry k's figures stand: as far as its place a -/
def eq_ (n : Nat) (μ : Mem) (k a : Int) : Prop := tq n μ ∧ 0 ≤ k ∧ k * stp n + a < μ 11 n 5
theorem fig_rg {n : Nat} {μ : Mem} {k a : Int} (h : tq n μ) (h0 : 0 ≤ k * stp n + a) (h1 : k * stp n + a < μ 11 n 5) : -48 ≤ fig n (μ 12 n) k a ∧ fig n (μ 12 n) k a ≤ 207 := by
  have := h.2.2.2.2.2 _ h0 h1
  unfold fig
  omega
theorem stp_pos (n : Nat) : stp n = 5 ∨ stp n = 6 := by unfold stp; split <;> simp
theorem stp_mul {n : Nat} {k : Int} (h : 0 ≤ k) : 0 ≤ k * stp n := Int.mul_nonneg h (by rcases stp_pos n with e | e <;> omega)
def T_X3_firstOf : Tr := tO1 11 fun n k μ Post => eq_ n μ k 0 ∧ Post (some (oI (fi n (μ 12 n) k))) μ
theorem ok_X3_firstOf : oh_Ok (pg_X3_firstOf T_X3_figure) 2 T_X3_firstOf := by
  refine tO1_ok fun n k μ Post G hG hn hk hM h => ?_
  obtain ⟨⟨h1, h2, h3⟩, h⟩ := h
  refine oh_go hG [] 40 ?_
  exact ⟨⟨⟨h1, ⟨h2, by omega, by omega⟩, h3⟩, h⟩, trivial⟩
def T_X3_bodyOf : Tr := tO1 11 fun n k μ Post => eq_ n μ k (ldd n - 1) ∧ Post (some (oI (bo n (μ 12 n) k))) μ
theorem ok_X3_bodyOf : oh_Ok (pg_X3_bodyOf T_X3_figure) 2 T_X3_bodyOf := by
  refine tO1_ok fun n k μ Post G hG hn hk hM h => ?_
  obtain ⟨⟨h1, h2, h3⟩, h⟩ := h
  have e1 := h1.1
  have el : ldd n = 1 ∨ ldd n = 2 := by unfold ldd; split <;> simp
  refine oh_go hG [] 40 ?_
  refine ⟨by rw [e1]; omega, ?_⟩
  rw [e1]
  exact ⟨⟨⟨h1, ⟨h2, by omega, by omega⟩, h3⟩, h⟩, trivial⟩
def T_X3_lastOf : Tr := tO1 11 fun n k μ Post => eq_ n μ k (ldd n + 2) ∧ Post (some (oI (la n (μ 12 n) k))) μ
theorem ok_X3_lastOf : oh_Ok (pg_X3_lastOf T_X3_figure) 2 T_X3_lastOf := by
  refine tO1_ok fun n k μ Post G hG hn hk hM h => ?_
  obtain ⟨⟨h1, h2, h3⟩, h⟩ := h
  have e1 := h1.1
  have el : ldd n = 1 ∨ ldd n = 2 := by unfold ldd; split <;> simp
  refine oh_go hG [] 40 ?_
  refine ⟨by rw [e1]; omega, ?_⟩
  rw [e1]
  exact ⟨⟨⟨h1, ⟨h2, by omega, by omega⟩, h3⟩, h⟩, trivial⟩
def T_X3_hourOf : Tr := tO1 11 fun n k μ Post => eq_ n μ k (ldd n + 1) ∧ Post (some (oI (ho n (μ 12 n) k))) μ
theorem ok_X3_hourOf : oh_Ok (pg_X3_hourOf T_X3_figure) 2 T_X3_hourOf := by
  refine tO1_ok fun n k μ Post G hG hn hk hM h => ?_
  obtain ⟨⟨h1, h2, h3⟩, h⟩ := h
  have e1 := h1.1
  have el : ldd n = 1 ∨ ldd n = 2 := by unfold ldd; split <;> simp
  have es := stp_mul (n := n) h2
  have r1 := fig_rg h1 (k := k) (a := ldd n) (by omega) (by omega)
  have r2 := fig_rg h1 (k := k) (a := ldd n + 1) (by omega) (by omega)
  refine oh_go hG [] 40 ?_
  refine And.intro ?_ trivial
  rw [e1]
  refine ⟨⟨h1, ⟨h2, by omega, by omega⟩, by omega⟩, ?_⟩
  refine And.intro (by omega) ?_
  refine And.intro (by rw [e1]; omega) ?_
  refine And.intro ?_ trivial
  rw [e1]
  refine ⟨⟨h1, ⟨h2, by omega, by omega⟩, h3⟩, ?_⟩
  exact ⟨by omega, h⟩
/-- where a text's bytes stop being well: what may come at place p, with the bytes ahead of it -/
def told (n : Nat) (f : Int → Int) (k : Int) : Prop := ∃ j, 0 ≤ j ∧ j < k ∧ bo n f j = bo n f k ∧ ho n f j = ho n f k
noncomputable def oh_if {α : Type} (p : Prop) (a b : α) : α := @ite α p (Classical.propDecidable p) a b
theorem oh_if_t {α : Type} {p : Prop} {a b : α} (h : p) : oh_if p a b = a := by unfold oh_if; exact if_pos h
theorem oh_if_f {α : Type} {p : Prop} {a b : α} (h : ¬ p) : oh_if p a b = b := by unfold oh_if; exact if_neg h
def fe (n : Nat) (f : Int → Int) (k a : Int) : Int := if a < ldd n then 6 else if a = ldd n then 3 else if a = ldd n + 1 then (if fig n f k (ldd n) = 2 then 4 else 10) else lst n
def cgo (n : Nat) (f : Int → Int) (p b : Int) : Prop := if p % stp n = stp n - 1 then b = 59 else (0 ≤ b - 48 ∧ b - 48 < fe n f (p / stp n) (p % stp n)) ∧ ¬ (p % stp n = ldd n + 2 ∧ ¬ onc n = 0 ∧ told n f (p / stp n))
def T_X3_figureEnd : Tr := tO2 11 fun n k a μ Post => (eq_ n μ k (a - 1) ∧ 0 ≤ a ∧ a ≤ 4) ∧ Post (some (oI (fe n (μ 12 n) k a))) μ
theorem ok_X3_figureEnd : oh_Ok (pg_X3_figureEnd T_X3_figure) 3 T_X3_figureEnd := by
  refine tO2_ok fun n k a μ Post G hG hn hk ha hM h => ?_
  obtain ⟨⟨⟨h1, h2, h3⟩, hr⟩, h⟩ := h
  have e1 := h1.1
  have e3 := h1.2.2.1
  have el : ldd n = 1 ∨ ldd n = 2 := by unfold ldd; split <;> simp
  unfold fe at h
  refine oh_go hG [] 60 ?_
  refine And.intro (fun x => ?_) (fun x => ?_)
  · rw [e1] at x
    rw [if_neg (by omega)] at h
    refine And.intro (fun y => ?_) (fun y => ?_)
    · rw [e1] at y
      rw [if_neg (by omega)] at h
      refine And.intro (by rw [e1]; omega) ?_
      refine And.intro (fun z => ?_) (fun z => ?_)
      · rw [e1] at z
        rw [if_neg (by omega)] at h
        rw [← e3] at h
        exact h
      · rw [e1] at z
        rw [if_pos (by omega)] at h
        refine And.intro ?_ trivial
        rw [e1]
        refine ⟨⟨h1, ⟨h2, by omega, by omega⟩, by omega⟩, ?_⟩
        refine And.intro (fun w => ?_) (fun w => ?_)
        · rw [if_neg w] at h
          exact h
        · rw [if_pos (by omega)] at h
          exact h
    · rw [e1] at y
      rw [if_pos (by omega)] at h
      exact h
  · rw [e1] at x
    rw [if_pos (by omega)] at h
    exact h
def T_X3_isToldAhead : Tr := tO1 11 fun n k μ Post => eq_ n μ k (ldd n + 1) ∧ (told n (μ 12 n) k → Post (some (oI 1)) μ) ∧ (¬ told n (μ 12 n) k → Post (some (oI 0)) μ)
theorem stp_mono {n : Nat} {j k : Int} (h : j ≤ k) : j * stp n ≤ k * stp n := Int.mul_le_mul_of_nonneg_right h (by rcases stp_pos n with e | e <;> omega)
theorem ok_X3_isToldAhead : oh_Ok (pg_X3_isToldAhead T_X3_bodyOf T_X3_hourOf) 3 T_X3_isToldAhead := by
  refine tO1_ok fun n k μ Post G hG hn hk hM h => ?_
  obtain ⟨⟨h1, h2, h3⟩, ht, hf⟩ := h
  have el : ldd n = 1 ∨ ldd n = 2 := by unfold ldd; split <;> simp
  have hk2 : k ≤ 99 := by
    have := h1.2.2.2.2.1.2
    rcases stp_pos n with e | e <;> rw [e] at h3 <;> omega
  have key : ∀ c, 0 ≤ c → c ≤ k → (∀ j, 0 ≤ j → j < c → ¬ (bo n (μ 12 n) j = bo n (μ 12 n) k ∧ ho n (μ 12 n) j = ho n (μ 12 n) k)) → G 2 [some (oR 11 n), some (oI k), some (oI c)] [] μ := by
    refine oh_for (F := fun c => 0 ≤ c → c ≤ k → (∀ j, 0 ≤ j → j < c → ¬ (bo n (μ 12 n) j = bo n (μ 12 n) k ∧ ho n (μ 12 n) j = ho n (μ 12 n) k)) → G 2 [some (oR 11 n), some (oI k), some (oI c)] [] μ) k ?_ ?_
    · intro c hc h0 h1 hv
      refine oh_go hG [(2, 3)] 40 ?_
      refine ⟨fun a => ⟨by omega, hf ?_⟩, fun a => absurd hc a⟩
      rintro ⟨j, a1, a2, a3⟩
      exact hv j a1 (by omega) a3
    · intro c hc ih h0 h4 hv
      have hm := stp_mono (n := n) h4
      refine oh_go hG [(2, 3)] 40 ?_
      refine ⟨fun a => absurd a (by omega), fun a => ?_⟩
      refine ⟨⟨⟨h1, h0, by omega⟩, ?_⟩, trivial⟩
      refine ⟨⟨⟨h1, h2, by omega⟩, ?_⟩, trivial⟩
      refine ⟨fun b => ?_, fun b => ?_⟩
      · refine ⟨by omega, ih (by omega) (by omega) (fun j a1 a2 => ?_)⟩
        by_cases e : j = c
        · rw [e]
          exact fun q => b q.1
        · exact hv j a1 (by omega)
      · refine ⟨⟨⟨h1, h0, by omega⟩, ?_⟩, trivial⟩
        refine ⟨⟨⟨h1, h2, by omega⟩, ?_⟩, trivial⟩
        refine ⟨fun d => ?_, fun d => ?_⟩
        · refine ⟨by omega, ih (by omega) (by omega) (fun j a1 a2 => ?_)⟩
          by_cases e : j = c
          · rw [e]
            exact fun q => d q.2
          · exact hv j a1 (by omega)
        · exact ⟨by omega, ht ⟨c, h0, hc, by omega, by omega⟩⟩
  refine oh_go hG [(2, 3)] 5 ?_
  exact key 0 (by omega) h2 (fun j a b => absurd b (by omega))
theorem stp_dm {n : Nat} (p : Int) (hp : 0 ≤ p) : 0 ≤ p / stp n ∧ p / stp n * stp n + p % stp n = p ∧ 0 ≤ p % stp n ∧ p % stp n < stp n := by
  rcases stp_pos n with e | e <;> rw [e] <;> omega
def T_X3_canGoOn : Tr := tO1 11 fun n b μ Post => (tq n μ ∧ 0 ≤ b ∧ b ≤ 255) ∧ (cgo n (μ 12 n) (μ 11 n 5) b → Post (some (oI 1)) μ) ∧ (¬ cgo n (μ 12 n) (μ 11 n 5) b → Post (some (oI 0)) μ)
theorem ok_X3_canGoOn : oh_Ok (pg_X3_canGoOn T_X3_figureEnd T_X4_isBelow T_X3_isToldAhead) 4 T_X3_canGoOn := by
  refine tO1_ok fun n b μ Post G hG hn hb hM h => ?_
  obtain ⟨⟨h1, hb0, hb1⟩, ht, hf⟩ := h
  have el : ldd n = 1 ∨ ldd n = 2 := by unfold ldd; split <;> simp
  have es := stp_pos n
  have els : stp n = ldd n + 4 := by unfold stp ldd; split <;> rfl
  obtain ⟨e1, e2, e3, e4, hl, -⟩ := id h1
  obtain ⟨d1, d2, d3, d4⟩ := stp_dm (n := n) (μ 11 n 5) hl.1
  unfold cgo at ht hf
  have hne : 0 < stp n := by omega
  refine oh_go hG [] 60 ?_
  refine And.intro (by rw [e2]; omega) ?_
  refine And.intro (by rw [e2]; omega) ?_
  refine And.intro (by rw [e2]; omega) ?_
  rw [e2]
  refine And.intro (fun x => ?_) (fun x => ?_)
  · rw [if_neg x] at ht hf
    refine And.intro (by omega) ?_
    refine And.intro ?_ trivial
    refine And.intro ⟨⟨h1, d1, by omega⟩, d3, by omega⟩ ?_
    refine And.intro ?_ trivial
    refine And.intro (fun y => ?_) (fun y => ?_)
    · refine And.intro (fun z => absurd z (by decide)) (fun _ => ?_)
      refine And.intro (by rw [e1]; omega) ?_
      rw [e1]
      refine And.intro (fun z => ?_) (fun z => ?_)
      · exact ⟨by omega, ht ⟨y, fun q => z q.1⟩⟩
      · refine And.intro (fun w => ?_) (fun w => ?_)
        · rw [e4] at w
          exact ⟨by omega, ht ⟨y, fun q => q.2.1 w⟩⟩
        · rw [e4] at w
          refine And.intro ?_ trivial
          refine And.intro ⟨h1, d1, by omega⟩ ?_
          refine And.intro (fun v => ?_) (fun v => ?_)
          · exact ⟨fun _ => ⟨by omega, hf (fun q => q.2 ⟨by omega, w, v⟩)⟩, fun q => absurd (by decide) q⟩
          · exact ⟨fun q => absurd rfl q, fun _ => ⟨by omega, ht ⟨y, fun q => v q.2.2⟩⟩⟩
    · refine And.intro (fun _ => ⟨by omega, hf (fun q => y q.1)⟩) (fun z => absurd rfl z)
  · rw [if_pos (by omega)] at ht hf
    refine And.intro (fun y => ⟨by omega, hf y⟩) (fun y => ⟨by omega, ht (by omega)⟩)
def T_X3_clear : Tr := tO0 11 fun n μ Post => Post none (oh_up (oh_up μ 11 n 5 0) 11 n 6 (-1))
theorem ok_X3_clear : oh_Ok pg_X3_clear 1 T_X3_clear := by
  refine tO0_ok fun n μ Post G hG hn hM h => ?_
  refine oh_go hG [] 40 ?_
  exact h
def T_X3_dropLast : Tr := tO0 11 fun n μ Post => tq n μ ∧ Post none (oh_up μ 11 n 5 (max 0 (μ 11 n 5 - stp n)))
theorem ok_X3_dropLast : oh_Ok (pg_X3_dropLast T_J9_max_7cf53) 1 T_X3_dropLast := by
  refine tO0_ok fun n μ Post G hG hn hM h => ?_
  obtain ⟨⟨e1, e2, e3, e4, hl, -⟩, h⟩ := h
  have es := stp_pos n
  refine oh_go hG [] 40 ?_
  refine And.intro (by rw [e2]; omega) ?_
  refine And.intro ?_ trivial
  rw [e2]
  exact h
def flw (n : Nat) (len br : Int) : Int := if ¬ br = -1 then br else if len = 0 ∨ len % stp n = stp n - 1 then -1 else len
def ents (n : Nat) (len br : Int) : Int := if flw n len br = -1 then (len + 1) / stp n else 0
def T_X3_flaw : Tr := tO0 11 fun n μ Post => tq n μ ∧ Post (some (oI (flw n (μ 11 n 5) (μ 11 n 6)))) μ
theorem ok_X3_flaw : oh_Ok pg_X3_flaw 1 T_X3_flaw := by
  refine tO0_ok fun n μ Post G hG hn hM h => ?_
  obtain ⟨⟨e1, e2, e3, e4, hl, -⟩, h⟩ := h
  have es := stp_pos n
  unfold flw at h
  refine oh_go hG [] 40 ?_
  refine And.intro (fun x => ?_) (fun x => ?_)
  · rw [if_neg (not_not_intro x)] at h
    refine And.intro (fun y => ?_) (fun y => ?_)
    · rw [if_pos (Or.inl (by omega))] at h
      exact h
    · refine And.intro (by rw [e2]; omega) ?_
      refine And.intro (by rw [e2]; omega) ?_
      rw [e2]
      refine And.intro (fun z => ?_) (fun z => ?_)
      · rw [if_neg (by omega)] at h
        exact h
      · rw [if_pos (Or.inr (by omega))] at h
        exact h
  · rw [if_pos x] at h
    exact h
def T_X3_entries : Tr := tO0 11 fun n μ Post => tq n μ ∧ Post (some (oI (ents n (μ 11 n 5) (μ 11 n 6)))) μ
theorem ok_X3_entries : oh_Ok (pg_X3_entries T_X3_flaw) 1 T_X3_entries := by
  refine tO0_ok fun n μ Post G hG hn hM h => ?_
  obtain ⟨h1, h⟩ := h
  obtain ⟨e1, e2, e3, e4, hl, -⟩ := id h1
  have es := stp_pos n
  unfold ents at h
  refine oh_go hG [] 40 ?_
  refine And.intro ?_ trivial
  refine And.intro h1 ?_
  refine And.intro (fun x => ?_) (fun x => ?_)
  · rw [if_neg x] at h
    exact h
  · rw [if_pos (by omega)] at h
    refine And.intro (by omega) ?_
    refine And.intro (by rw [e2]; omega) ?_
    rw [e2]
    exact h
/-- a byte more: where it can't go on, that place is kept -/
def T_X3_append : Tr := tO1 11 fun n b μ Post => (tq n μ ∧ μ 11 n 5 < 99 ∧ 0 ≤ b ∧ b ≤ 255) ∧
  (μ 11 n 6 = -1 ∧ ¬ cgo n (μ 12 n) (μ 11 n 5) b → Post none (oh_up (oh_up (oh_up μ 11 n 6 (μ 11 n 5)) 12 n (μ 11 n 5) b) 11 n 5 (μ 11 n 5 + 1))) ∧
  (¬ (μ 11 n 6 = -1 ∧ ¬ cgo n (μ 12 n) (μ 11 n 5) b) → Post none (oh_up (oh_up μ 12 n (μ 11 n 5) b) 11 n 5 (μ 11 n 5 + 1)))
theorem ok_X3_append : oh_Ok (pg_X3_append T_X3_canGoOn) 2 T_X3_append := by
  refine tO1_ok fun n b μ Post G hG hn hb hM h => ?_
  obtain ⟨⟨h1, hlt, hb0, hb1⟩, ht, hf⟩ := h
  obtain ⟨e1, e2, e3, e4, hl, -⟩ := id h1
  have a1 : oh_up μ 12 n (μ 11 n 5) b 11 n 5 = μ 11 n 5 := oh_up_o (fun q => absurd q.1 (by decide))
  have a2 : oh_up μ 11 n 6 (μ 11 n 5) 11 n 5 = μ 11 n 5 := oh_up_o (fun q => absurd q.2.2 (by decide))
  have a3 : oh_up (oh_up μ 11 n 6 (μ 11 n 5)) 12 n (μ 11 n 5) b 11 n 5 = μ 11 n 5 := by
    rw [oh_up_o (fun q => absurd q.1 (by decide)), a2]
  refine oh_go hG [] 60 ?_
  refine And.intro (fun x => ?_) (fun x => ?_)
  · have hf := hf (fun q => x q.1)
    refine And.intro ⟨by omega, by omega⟩ ?_
    refine And.intro (by rw [a1]; omega) ?_
    rw [a1]
    exact hf
  · refine And.intro ?_ trivial
    refine And.intro ⟨h1, hb0, hb1⟩ (And.intro (fun y => ?_) (fun y => ?_))
    · have hf := hf (fun q => q.2 y)
      refine And.intro (fun _ => ?_) (fun q => absurd (by decide) q)
      refine And.intro ⟨by omega, by omega⟩ ?_
      refine And.intro (by rw [a1]; omega) ?_
      rw [a1]
      exact hf
    · have ht := ht ⟨by omega, y⟩
      refine And.intro (fun q => absurd rfl q) (fun _ => ?_)
      refine And.intro (by rw [a2]; omega) ?_
      refine And.intro ?_ ?_
      · rw [a2, a3]
        omega
      · rw [a2, a3]
        exact ht
