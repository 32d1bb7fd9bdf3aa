def T_isBelow : Tr := fun as μ Post => ∃ v e : Int, as = [oI v, oI e] ∧ ((0 ≤ v ∧ v < e → Post (some (oI 1)) μ) ∧ (¬ (0 ≤ v ∧ v < e) → Post (some (oI 0)) μ))
theorem ok_isBelow : oh_Ok pg_X4_isBelow 2 T_isBelow := by
  rintro _ μ Post G hG - - ⟨v, e, rfl, h1, h2⟩
  refine oh_go hG [] 20 ?_
  refine ⟨fun a => ?_, fun a => ?_⟩
  · trace_state
    exact ⟨by omega, h2 (by omega)⟩
  · refine ⟨fun b => ?_, fun b => ?_⟩
    · exact ⟨by omega, h2 (by omega)⟩
    · exact ⟨by omega, h1 (by omega)⟩
def T_dayBy : Tr := fun as μ Post => ∃ v : Int, as = [oR 13 0, oI v] ∧ (0 ≤ v ∧ v < 3) ∧ ∀ μ', (∀ s n j, s = 0 → μ' s n j = μ s n j) → Post (some (oR 0 v.toNat)) μ'
set_option maxRecDepth 10000 in
theorem ok_test : oh_Ok (pg_X4_holds T_isBelow T_dayBy) 5 (fun as μ Post => ∃ v : Int, as = [oR 13 0, oI v] ∧ (0 ≤ μ 13 0 13 ∧ μ 13 0 13 < 3) ∧ ∀ μ' r, Post (some (oI r)) μ') := by
  rintro _ μ Post G hG - - ⟨v, rfl, hl, h⟩
  refine oh_go hG [(26, 5)] 60 ?_
  refine ⟨⟨v, 6, rfl, fun a => ?_, fun a => ?_⟩, trivial⟩
  · refine ⟨fun b => ?_, fun b => ?_⟩
    · refine ⟨⟨_, rfl, hl, fun μ' hμ => ?_⟩, trivial⟩
      trace_state
      sorry
    · exact absurd b (by decide)
  · refine ⟨fun b => ?_, fun b => ?_⟩
    · exact absurd rfl b
    · exact h _ _
