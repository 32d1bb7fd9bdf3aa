/-! THE FIRST WORLD in the heap: written by program -/
theorem oh_ids_is : oh_ids = [(0, 0), (0, 1), (0, 2), (1, 0), (1, 1), (1, 2), (2, 0), (2, 1), (2, 2), (3, 0), (3, 1), (3, 2), (4, 0), (4, 1), (4, 2), (5, 0), (5, 1), (5, 2), (6, 0), (6, 1), (6, 2), (7, 0), (7, 1), (8, 0), (8, 1), (9, 0), (9, 1), (9, 2), (9, 3), (10, 0), (10, 1), (10, 2), (10, 3), (11, 0), (11, 1), (12, 0), (12, 1), (13, 0), (14, 0), (15, 0), (16, 0), (17, 0), (18, 0), (19, 0), (20, 0), (21, 0), (22, 0), (23, 0), (24, 0), (25, 0), (26, 0), (27, 0), (28, 0), (29, 0), (30, 0), (31, 0), (32, 0), (33, 0), (34, 0), (35, 0), (36, 0), (37, 0), (38, 0), (39, 0), (40, 0), (41, 0)] := by decide +kernel
theorem va_at_alt {D : va_G} {cl : List vw_C} {a : Nat} {cA : ClassId} {n : Nat} {f g : Nat → Option Nat} {H : Heap} (h : va_at D cl (a, .inl (cA, n, .inr (.inr (.inr (.inr f))))) H) (e : ∀ j, j < n → f j = g j) : va_at D cl (a, .inl (cA, n, .inr (.inr (.inr (.inr g))))) H := by
  have e2 : vp_cell cA (n, .inr (.inr (.inr (.inr f)))) = vp_cell cA (n, .inr (.inr (.inr (.inr g)))) := by
    unfold vp_cell arrV
    dsimp only
    congr 2
    funext j
    rw [e j.val j.isLt]
  show H[a]? = some (vp_cell cA (n, .inr (.inr (.inr (.inr g)))))
  rw [← e2]
  exact h
theorem va_at_int {D : va_G} {cl : List vw_C} {a : Nat} {cA : ClassId} {n : Nat} {f g : Nat → Int32} {H : Heap} (h : va_at D cl (a, .inl (cA, n, .inl f)) H) (e : f = g) : va_at D cl (a, .inl (cA, n, .inl g)) H := by
  rw [← e]
  exact h
theorem va_D_addr {A : Nat → Prop} {ws ws' : va_W} (hD : va_D A ws) (is : List Nat) (hn : va_nd is = true) (hs : is.map (fun i => (ws[i]?).map (fun q => q.1)) = ws'.map (fun q => some q.1)) : va_D A ws' := by
  have key : ∀ (k : Nat) (q : Nat × va_E), ws'[k]? = some q → ∃ i q0, is[k]? = some i ∧ ws[i]? = some q0 ∧ q0.1 = q.1 := by
    intro k q hk
    have h1 : (is.map (fun i => (ws[i]?).map (fun q => q.1)))[k]? = some (some q.1) := by rw [hs, List.getElem?_map, hk]; rfl
    rw [List.getElem?_map] at h1
    cases hi : is[k]? with
    | none => rw [hi] at h1; cases h1
    | some i =>
      rw [hi] at h1
      have h1 : (ws[i]?).map (fun q => q.1) = some q.1 := Option.some.inj h1
      cases hw : ws[i]? with
      | none => rw [hw] at h1; cases h1
      | some q0 =>
        rw [hw] at h1
        exact ⟨i, q0, rfl, hw, Option.some.inj h1⟩
  refine ⟨fun i j x y hi hj hxy => ?_, fun k q hk => ?_⟩
  · obtain ⟨a, x0, h1, h2, e1⟩ := key i x hi
    obtain ⟨b, y0, h3, h4, e2⟩ := key j y hj
    have hab := hD.1 a b x0 y0 h2 h4 (by rw [e1, e2]; exact hxy)
    subst hab
    exact va_nd_inj is hn i j a h1 h3
  · obtain ⟨a, q0, -, h2, e1⟩ := key k q hk
    rw [← e1]
    exact hD.2 a q0 h2
theorem mu0_own (n : Nat) : (fun j : Nat => ow0 j 144) = fun j : Nat => Int32.ofInt (mu0 8 n j) := by
  funext j
  show (if j < 144 then nI (j / 24) else 0) = Int32.ofInt (if 0 ≤ (j : Int) ∧ (j : Int) < 144 then (j : Int) / 24 else 0)
  by_cases q : j < 144
  · rw [if_pos q, if_pos ⟨by omega, by omega⟩]
    show Int32.ofNat (j / 24) = Int32.ofInt ((j : Int) / 24)
    rw [show (j : Int) / 24 = ((j / 24 : Nat) : Int) by omega]
    exact (Int32.ofInt_eq_ofNat).symm
  · rw [if_neg q, if_neg (by omega)]
    rfl
theorem mu0_forms : upd (upd (upd (upd (fun _ => 0) 0 (-1)) 1 (-1)) 2 (-1)) 3 (-1) = fun j : Nat => Int32.ofInt (mu0 23 0 j) := by
  funext j
  show upd (upd (upd (upd (fun _ => 0) 0 (-1)) 1 (-1)) 2 (-1)) 3 (-1) j = Int32.ofInt (if 0 ≤ (j : Int) ∧ (j : Int) < 4 then -1 else 0)
  by_cases q : j < 4
  · rw [if_pos ⟨by omega, by omega⟩]
    rcases (show j = 0 ∨ j = 1 ∨ j = 2 ∨ j = 3 by omega) with rfl | rfl | rfl | rfl <;> rfl
  · rw [if_neg (by omega), pk_un (by omega), pk_un (by omega), pk_un (by omega), pk_un (by omega)]
    rfl

def w66 (h4 h5 : Nat) (u4 u5 : UU) : va_W := wX4 h4 u4 ++ wX5 h5 u5
set_option maxRecDepth 100000 in
theorem at0_0_0 {D : va_G} {h4 h5 : Nat} {u4 u5 : UU} {H : Heap} (hP : va_P D vwCl (w66 h4 h5 u4 u5) H) : va_at D vwCl (adl h4 h5 u4 u5 0 0, oh_e (adl h4 h5 u4 u5) (cal u4 u5) mu0 0 0) H := hP 10 _ rfl
set_option maxRecDepth 100000 in
theorem at0_0_1 {D : va_G} {h4 h5 : Nat} {u4 u5 : UU} {H : Heap} (hP : va_P D vwCl (w66 h4 h5 u4 u5) H) : va_at D vwCl (adl h4 h5 u4 u5 0 1, oh_e (adl h4 h5 u4 u5) (cal u4 u5) mu0 0 1) H := hP 17 _ rfl
set_option maxRecDepth 100000 in
theorem at0_0_2 {D : va_G} {h4 h5 : Nat} {u4 u5 : UU} {H : Heap} (hP : va_P D vwCl (w66 h4 h5 u4 u5) H) : va_at D vwCl (adl h4 h5 u4 u5 0 2, oh_e (adl h4 h5 u4 u5) (cal u4 u5) mu0 0 2) H := hP 24 _ rfl
set_option maxRecDepth 100000 in
theorem at0_1_0 {D : va_G} {h4 h5 : Nat} {u4 u5 : UU} {H : Heap} (hP : va_P D vwCl (w66 h4 h5 u4 u5) H) : va_at D vwCl (adl h4 h5 u4 u5 1 0, oh_e (adl h4 h5 u4 u5) (cal u4 u5) mu0 1 0) H := hP 11 _ rfl
set_option maxRecDepth 100000 in
theorem at0_1_1 {D : va_G} {h4 h5 : Nat} {u4 u5 : UU} {H : Heap} (hP : va_P D vwCl (w66 h4 h5 u4 u5) H) : va_at D vwCl (adl h4 h5 u4 u5 1 1, oh_e (adl h4 h5 u4 u5) (cal u4 u5) mu0 1 1) H := hP 18 _ rfl
set_option maxRecDepth 100000 in
theorem at0_1_2 {D : va_G} {h4 h5 : Nat} {u4 u5 : UU} {H : Heap} (hP : va_P D vwCl (w66 h4 h5 u4 u5) H) : va_at D vwCl (adl h4 h5 u4 u5 1 2, oh_e (adl h4 h5 u4 u5) (cal u4 u5) mu0 1 2) H := hP 25 _ rfl
set_option maxRecDepth 100000 in
theorem at0_2_0 {D : va_G} {h4 h5 : Nat} {u4 u5 : UU} {H : Heap} (hP : va_P D vwCl (w66 h4 h5 u4 u5) H) : va_at D vwCl (adl h4 h5 u4 u5 2 0, oh_e (adl h4 h5 u4 u5) (cal u4 u5) mu0 2 0) H := hP 12 _ rfl
set_option maxRecDepth 100000 in
theorem at0_2_1 {D : va_G} {h4 h5 : Nat} {u4 u5 : UU} {H : Heap} (hP : va_P D vwCl (w66 h4 h5 u4 u5) H) : va_at D vwCl (adl h4 h5 u4 u5 2 1, oh_e (adl h4 h5 u4 u5) (cal u4 u5) mu0 2 1) H := hP 19 _ rfl
set_option maxRecDepth 100000 in
theorem at0_2_2 {D : va_G} {h4 h5 : Nat} {u4 u5 : UU} {H : Heap} (hP : va_P D vwCl (w66 h4 h5 u4 u5) H) : va_at D vwCl (adl h4 h5 u4 u5 2 2, oh_e (adl h4 h5 u4 u5) (cal u4 u5) mu0 2 2) H := hP 26 _ rfl
set_option maxRecDepth 100000 in
theorem at0_3_0 {D : va_G} {h4 h5 : Nat} {u4 u5 : UU} {H : Heap} (hP : va_P D vwCl (w66 h4 h5 u4 u5) H) : va_at D vwCl (adl h4 h5 u4 u5 3 0, oh_e (adl h4 h5 u4 u5) (cal u4 u5) mu0 3 0) H := hP 13 _ rfl
set_option maxRecDepth 100000 in
theorem at0_3_1 {D : va_G} {h4 h5 : Nat} {u4 u5 : UU} {H : Heap} (hP : va_P D vwCl (w66 h4 h5 u4 u5) H) : va_at D vwCl (adl h4 h5 u4 u5 3 1, oh_e (adl h4 h5 u4 u5) (cal u4 u5) mu0 3 1) H := hP 20 _ rfl
set_option maxRecDepth 100000 in
theorem at0_3_2 {D : va_G} {h4 h5 : Nat} {u4 u5 : UU} {H : Heap} (hP : va_P D vwCl (w66 h4 h5 u4 u5) H) : va_at D vwCl (adl h4 h5 u4 u5 3 2, oh_e (adl h4 h5 u4 u5) (cal u4 u5) mu0 3 2) H := hP 27 _ rfl
set_option maxRecDepth 100000 in
theorem at0_4_0 {D : va_G} {h4 h5 : Nat} {u4 u5 : UU} {H : Heap} (hP : va_P D vwCl (w66 h4 h5 u4 u5) H) : va_at D vwCl (adl h4 h5 u4 u5 4 0, oh_e (adl h4 h5 u4 u5) (cal u4 u5) mu0 4 0) H := hP 14 _ rfl
set_option maxRecDepth 100000 in
theorem at0_4_1 {D : va_G} {h4 h5 : Nat} {u4 u5 : UU} {H : Heap} (hP : va_P D vwCl (w66 h4 h5 u4 u5) H) : va_at D vwCl (adl h4 h5 u4 u5 4 1, oh_e (adl h4 h5 u4 u5) (cal u4 u5) mu0 4 1) H := hP 21 _ rfl
set_option maxRecDepth 100000 in
theorem at0_4_2 {D : va_G} {h4 h5 : Nat} {u4 u5 : UU} {H : Heap} (hP : va_P D vwCl (w66 h4 h5 u4 u5) H) : va_at D vwCl (adl h4 h5 u4 u5 4 2, oh_e (adl h4 h5 u4 u5) (cal u4 u5) mu0 4 2) H := hP 28 _ rfl
set_option maxRecDepth 100000 in
theorem at0_5_0 {D : va_G} {h4 h5 : Nat} {u4 u5 : UU} {H : Heap} (hP : va_P D vwCl (w66 h4 h5 u4 u5) H) : va_at D vwCl (adl h4 h5 u4 u5 5 0, oh_e (adl h4 h5 u4 u5) (cal u4 u5) mu0 5 0) H := hP 15 _ rfl
set_option maxRecDepth 100000 in
theorem at0_5_1 {D : va_G} {h4 h5 : Nat} {u4 u5 : UU} {H : Heap} (hP : va_P D vwCl (w66 h4 h5 u4 u5) H) : va_at D vwCl (adl h4 h5 u4 u5 5 1, oh_e (adl h4 h5 u4 u5) (cal u4 u5) mu0 5 1) H := hP 22 _ rfl
set_option maxRecDepth 100000 in
theorem at0_5_2 {D : va_G} {h4 h5 : Nat} {u4 u5 : UU} {H : Heap} (hP : va_P D vwCl (w66 h4 h5 u4 u5) H) : va_at D vwCl (adl h4 h5 u4 u5 5 2, oh_e (adl h4 h5 u4 u5) (cal u4 u5) mu0 5 2) H := hP 29 _ rfl
set_option maxRecDepth 100000 in
theorem at0_6_0 {D : va_G} {h4 h5 : Nat} {u4 u5 : UU} {H : Heap} (hP : va_P D vwCl (w66 h4 h5 u4 u5) H) : va_at D vwCl (adl h4 h5 u4 u5 6 0, oh_e (adl h4 h5 u4 u5) (cal u4 u5) mu0 6 0) H := hP 16 _ rfl
set_option maxRecDepth 100000 in
theorem at0_6_1 {D : va_G} {h4 h5 : Nat} {u4 u5 : UU} {H : Heap} (hP : va_P D vwCl (w66 h4 h5 u4 u5) H) : va_at D vwCl (adl h4 h5 u4 u5 6 1, oh_e (adl h4 h5 u4 u5) (cal u4 u5) mu0 6 1) H := hP 23 _ rfl
set_option maxRecDepth 100000 in
theorem at0_6_2 {D : va_G} {h4 h5 : Nat} {u4 u5 : UU} {H : Heap} (hP : va_P D vwCl (w66 h4 h5 u4 u5) H) : va_at D vwCl (adl h4 h5 u4 u5 6 2, oh_e (adl h4 h5 u4 u5) (cal u4 u5) mu0 6 2) H := hP 30 _ rfl
set_option maxRecDepth 100000 in
theorem at0_7_0 {D : va_G} {h4 h5 : Nat} {u4 u5 : UU} {H : Heap} (hP : va_P D vwCl (w66 h4 h5 u4 u5) H) : va_at D vwCl (adl h4 h5 u4 u5 7 0, oh_e (adl h4 h5 u4 u5) (cal u4 u5) mu0 7 0) H := hP 5 _ rfl
set_option maxRecDepth 100000 in
theorem at0_7_1 {D : va_G} {h4 h5 : Nat} {u4 u5 : UU} {H : Heap} (hP : va_P D vwCl (w66 h4 h5 u4 u5) H) : va_at D vwCl (adl h4 h5 u4 u5 7 1, oh_e (adl h4 h5 u4 u5) (cal u4 u5) mu0 7 1) H := hP 7 _ rfl
set_option maxRecDepth 100000 in
theorem at0_8_0 {D : va_G} {h4 h5 : Nat} {u4 u5 : UU} {H : Heap} (hP : va_P D vwCl (w66 h4 h5 u4 u5) H) : va_at D vwCl (adl h4 h5 u4 u5 8 0, oh_e (adl h4 h5 u4 u5) (cal u4 u5) mu0 8 0) H := va_at_int (hP 6 _ rfl) (mu0_own 0)
set_option maxRecDepth 100000 in
theorem at0_8_1 {D : va_G} {h4 h5 : Nat} {u4 u5 : UU} {H : Heap} (hP : va_P D vwCl (w66 h4 h5 u4 u5) H) : va_at D vwCl (adl h4 h5 u4 u5 8 1, oh_e (adl h4 h5 u4 u5) (cal u4 u5) mu0 8 1) H := va_at_int (hP 8 _ rfl) (mu0_own 1)
set_option maxRecDepth 100000 in
theorem at0_9_0 {D : va_G} {h4 h5 : Nat} {u4 u5 : UU} {H : Heap} (hP : va_P D vwCl (w66 h4 h5 u4 u5) H) : va_at D vwCl (adl h4 h5 u4 u5 9 0, oh_e (adl h4 h5 u4 u5) (cal u4 u5) mu0 9 0) H := hP 38 _ rfl
set_option maxRecDepth 100000 in
theorem at0_9_1 {D : va_G} {h4 h5 : Nat} {u4 u5 : UU} {H : Heap} (hP : va_P D vwCl (w66 h4 h5 u4 u5) H) : va_at D vwCl (adl h4 h5 u4 u5 9 1, oh_e (adl h4 h5 u4 u5) (cal u4 u5) mu0 9 1) H := hP 40 _ rfl
set_option maxRecDepth 100000 in
theorem at0_9_2 {D : va_G} {h4 h5 : Nat} {u4 u5 : UU} {H : Heap} (hP : va_P D vwCl (w66 h4 h5 u4 u5) H) : va_at D vwCl (adl h4 h5 u4 u5 9 2, oh_e (adl h4 h5 u4 u5) (cal u4 u5) mu0 9 2) H := hP 42 _ rfl
set_option maxRecDepth 100000 in
theorem at0_9_3 {D : va_G} {h4 h5 : Nat} {u4 u5 : UU} {H : Heap} (hP : va_P D vwCl (w66 h4 h5 u4 u5) H) : va_at D vwCl (adl h4 h5 u4 u5 9 3, oh_e (adl h4 h5 u4 u5) (cal u4 u5) mu0 9 3) H := hP 44 _ rfl
set_option maxRecDepth 100000 in
theorem at0_10_0 {D : va_G} {h4 h5 : Nat} {u4 u5 : UU} {H : Heap} (hP : va_P D vwCl (w66 h4 h5 u4 u5) H) : va_at D vwCl (adl h4 h5 u4 u5 10 0, oh_e (adl h4 h5 u4 u5) (cal u4 u5) mu0 10 0) H := hP 39 _ rfl
set_option maxRecDepth 100000 in
theorem at0_10_1 {D : va_G} {h4 h5 : Nat} {u4 u5 : UU} {H : Heap} (hP : va_P D vwCl (w66 h4 h5 u4 u5) H) : va_at D vwCl (adl h4 h5 u4 u5 10 1, oh_e (adl h4 h5 u4 u5) (cal u4 u5) mu0 10 1) H := hP 41 _ rfl
set_option maxRecDepth 100000 in
theorem at0_10_2 {D : va_G} {h4 h5 : Nat} {u4 u5 : UU} {H : Heap} (hP : va_P D vwCl (w66 h4 h5 u4 u5) H) : va_at D vwCl (adl h4 h5 u4 u5 10 2, oh_e (adl h4 h5 u4 u5) (cal u4 u5) mu0 10 2) H := hP 43 _ rfl
set_option maxRecDepth 100000 in
theorem at0_10_3 {D : va_G} {h4 h5 : Nat} {u4 u5 : UU} {H : Heap} (hP : va_P D vwCl (w66 h4 h5 u4 u5) H) : va_at D vwCl (adl h4 h5 u4 u5 10 3, oh_e (adl h4 h5 u4 u5) (cal u4 u5) mu0 10 3) H := hP 45 _ rfl
set_option maxRecDepth 100000 in
theorem at0_11_0 {D : va_G} {h4 h5 : Nat} {u4 u5 : UU} {H : Heap} (hP : va_P D vwCl (w66 h4 h5 u4 u5) H) : va_at D vwCl (adl h4 h5 u4 u5 11 0, oh_e (adl h4 h5 u4 u5) (cal u4 u5) mu0 11 0) H := hP 1 _ rfl
set_option maxRecDepth 100000 in
theorem at0_11_1 {D : va_G} {h4 h5 : Nat} {u4 u5 : UU} {H : Heap} (hP : va_P D vwCl (w66 h4 h5 u4 u5) H) : va_at D vwCl (adl h4 h5 u4 u5 11 1, oh_e (adl h4 h5 u4 u5) (cal u4 u5) mu0 11 1) H := hP 3 _ rfl
set_option maxRecDepth 100000 in
theorem at0_12_0 {D : va_G} {h4 h5 : Nat} {u4 u5 : UU} {H : Heap} (hP : va_P D vwCl (w66 h4 h5 u4 u5) H) : va_at D vwCl (adl h4 h5 u4 u5 12 0, oh_e (adl h4 h5 u4 u5) (cal u4 u5) mu0 12 0) H := hP 2 _ rfl
set_option maxRecDepth 100000 in
theorem at0_12_1 {D : va_G} {h4 h5 : Nat} {u4 u5 : UU} {H : Heap} (hP : va_P D vwCl (w66 h4 h5 u4 u5) H) : va_at D vwCl (adl h4 h5 u4 u5 12 1, oh_e (adl h4 h5 u4 u5) (cal u4 u5) mu0 12 1) H := hP 4 _ rfl
set_option maxRecDepth 100000 in
theorem at0_13_0 {D : va_G} {h4 h5 : Nat} {u4 u5 : UU} {H : Heap} (hP : va_P D vwCl (w66 h4 h5 u4 u5) H) : va_at D vwCl (adl h4 h5 u4 u5 13 0, oh_e (adl h4 h5 u4 u5) (cal u4 u5) mu0 13 0) H := hP 0 _ rfl
set_option maxRecDepth 100000 in
theorem at0_14_0 {D : va_G} {h4 h5 : Nat} {u4 u5 : UU} {H : Heap} (hP : va_P D vwCl (w66 h4 h5 u4 u5) H) : va_at D vwCl (adl h4 h5 u4 u5 14 0, oh_e (adl h4 h5 u4 u5) (cal u4 u5) mu0 14 0) H := va_at_alt (hP 9 _ rfl) (fun j hj => by rcases (show j = 0 ∨ j = 1 ∨ j = 2 by omega) with rfl | rfl | rfl <;> rfl)
set_option maxRecDepth 100000 in
theorem at0_15_0 {D : va_G} {h4 h5 : Nat} {u4 u5 : UU} {H : Heap} (hP : va_P D vwCl (w66 h4 h5 u4 u5) H) : va_at D vwCl (adl h4 h5 u4 u5 15 0, oh_e (adl h4 h5 u4 u5) (cal u4 u5) mu0 15 0) H := hP 31 _ rfl
set_option maxRecDepth 100000 in
theorem at0_16_0 {D : va_G} {h4 h5 : Nat} {u4 u5 : UU} {H : Heap} (hP : va_P D vwCl (w66 h4 h5 u4 u5) H) : va_at D vwCl (adl h4 h5 u4 u5 16 0, oh_e (adl h4 h5 u4 u5) (cal u4 u5) mu0 16 0) H := hP 32 _ rfl
set_option maxRecDepth 100000 in
theorem at0_17_0 {D : va_G} {h4 h5 : Nat} {u4 u5 : UU} {H : Heap} (hP : va_P D vwCl (w66 h4 h5 u4 u5) H) : va_at D vwCl (adl h4 h5 u4 u5 17 0, oh_e (adl h4 h5 u4 u5) (cal u4 u5) mu0 17 0) H := hP 33 _ rfl
set_option maxRecDepth 100000 in
theorem at0_18_0 {D : va_G} {h4 h5 : Nat} {u4 u5 : UU} {H : Heap} (hP : va_P D vwCl (w66 h4 h5 u4 u5) H) : va_at D vwCl (adl h4 h5 u4 u5 18 0, oh_e (adl h4 h5 u4 u5) (cal u4 u5) mu0 18 0) H := hP 34 _ rfl
set_option maxRecDepth 100000 in
theorem at0_19_0 {D : va_G} {h4 h5 : Nat} {u4 u5 : UU} {H : Heap} (hP : va_P D vwCl (w66 h4 h5 u4 u5) H) : va_at D vwCl (adl h4 h5 u4 u5 19 0, oh_e (adl h4 h5 u4 u5) (cal u4 u5) mu0 19 0) H := hP 35 _ rfl
set_option maxRecDepth 100000 in
theorem at0_20_0 {D : va_G} {h4 h5 : Nat} {u4 u5 : UU} {H : Heap} (hP : va_P D vwCl (w66 h4 h5 u4 u5) H) : va_at D vwCl (adl h4 h5 u4 u5 20 0, oh_e (adl h4 h5 u4 u5) (cal u4 u5) mu0 20 0) H := hP 36 _ rfl
set_option maxRecDepth 100000 in
theorem at0_21_0 {D : va_G} {h4 h5 : Nat} {u4 u5 : UU} {H : Heap} (hP : va_P D vwCl (w66 h4 h5 u4 u5) H) : va_at D vwCl (adl h4 h5 u4 u5 21 0, oh_e (adl h4 h5 u4 u5) (cal u4 u5) mu0 21 0) H := va_at_alt (hP 37 _ rfl) (fun j hj => by rcases (show j = 0 ∨ j = 1 ∨ j = 2 ∨ j = 3 by omega) with rfl | rfl | rfl | rfl <;> rfl)
set_option maxRecDepth 100000 in
theorem at0_22_0 {D : va_G} {h4 h5 : Nat} {u4 u5 : UU} {H : Heap} (hP : va_P D vwCl (w66 h4 h5 u4 u5) H) : va_at D vwCl (adl h4 h5 u4 u5 22 0, oh_e (adl h4 h5 u4 u5) (cal u4 u5) mu0 22 0) H := hP 46 _ rfl
set_option maxRecDepth 100000 in
theorem at0_23_0 {D : va_G} {h4 h5 : Nat} {u4 u5 : UU} {H : Heap} (hP : va_P D vwCl (w66 h4 h5 u4 u5) H) : va_at D vwCl (adl h4 h5 u4 u5 23 0, oh_e (adl h4 h5 u4 u5) (cal u4 u5) mu0 23 0) H := va_at_int (hP 47 _ rfl) mu0_forms
set_option maxRecDepth 100000 in
theorem at0_24_0 {D : va_G} {h4 h5 : Nat} {u4 u5 : UU} {H : Heap} (hP : va_P D vwCl (w66 h4 h5 u4 u5) H) : va_at D vwCl (adl h4 h5 u4 u5 24 0, oh_e (adl h4 h5 u4 u5) (cal u4 u5) mu0 24 0) H := hP 48 _ rfl
set_option maxRecDepth 100000 in
theorem at0_25_0 {D : va_G} {h4 h5 : Nat} {u4 u5 : UU} {H : Heap} (hP : va_P D vwCl (w66 h4 h5 u4 u5) H) : va_at D vwCl (adl h4 h5 u4 u5 25 0, oh_e (adl h4 h5 u4 u5) (cal u4 u5) mu0 25 0) H := hP 49 _ rfl
set_option maxRecDepth 100000 in
theorem at0_26_0 {D : va_G} {h4 h5 : Nat} {u4 u5 : UU} {H : Heap} (hP : va_P D vwCl (w66 h4 h5 u4 u5) H) : va_at D vwCl (adl h4 h5 u4 u5 26 0, oh_e (adl h4 h5 u4 u5) (cal u4 u5) mu0 26 0) H := hP 50 _ rfl
set_option maxRecDepth 100000 in
theorem at0_27_0 {D : va_G} {h4 h5 : Nat} {u4 u5 : UU} {H : Heap} (hP : va_P D vwCl (w66 h4 h5 u4 u5) H) : va_at D vwCl (adl h4 h5 u4 u5 27 0, oh_e (adl h4 h5 u4 u5) (cal u4 u5) mu0 27 0) H := hP 51 _ rfl
set_option maxRecDepth 100000 in
theorem at0_28_0 {D : va_G} {h4 h5 : Nat} {u4 u5 : UU} {H : Heap} (hP : va_P D vwCl (w66 h4 h5 u4 u5) H) : va_at D vwCl (adl h4 h5 u4 u5 28 0, oh_e (adl h4 h5 u4 u5) (cal u4 u5) mu0 28 0) H := hP 52 _ rfl
set_option maxRecDepth 100000 in
theorem at0_29_0 {D : va_G} {h4 h5 : Nat} {u4 u5 : UU} {H : Heap} (hP : va_P D vwCl (w66 h4 h5 u4 u5) H) : va_at D vwCl (adl h4 h5 u4 u5 29 0, oh_e (adl h4 h5 u4 u5) (cal u4 u5) mu0 29 0) H := hP 53 _ rfl
set_option maxRecDepth 100000 in
theorem at0_30_0 {D : va_G} {h4 h5 : Nat} {u4 u5 : UU} {H : Heap} (hP : va_P D vwCl (w66 h4 h5 u4 u5) H) : va_at D vwCl (adl h4 h5 u4 u5 30 0, oh_e (adl h4 h5 u4 u5) (cal u4 u5) mu0 30 0) H := hP 54 _ rfl
set_option maxRecDepth 100000 in
theorem at0_31_0 {D : va_G} {h4 h5 : Nat} {u4 u5 : UU} {H : Heap} (hP : va_P D vwCl (w66 h4 h5 u4 u5) H) : va_at D vwCl (adl h4 h5 u4 u5 31 0, oh_e (adl h4 h5 u4 u5) (cal u4 u5) mu0 31 0) H := hP 55 _ rfl
set_option maxRecDepth 100000 in
theorem at0_32_0 {D : va_G} {h4 h5 : Nat} {u4 u5 : UU} {H : Heap} (hP : va_P D vwCl (w66 h4 h5 u4 u5) H) : va_at D vwCl (adl h4 h5 u4 u5 32 0, oh_e (adl h4 h5 u4 u5) (cal u4 u5) mu0 32 0) H := hP 56 _ rfl
set_option maxRecDepth 100000 in
theorem at0_33_0 {D : va_G} {h4 h5 : Nat} {u4 u5 : UU} {H : Heap} (hP : va_P D vwCl (w66 h4 h5 u4 u5) H) : va_at D vwCl (adl h4 h5 u4 u5 33 0, oh_e (adl h4 h5 u4 u5) (cal u4 u5) mu0 33 0) H := hP 57 _ rfl
set_option maxRecDepth 100000 in
theorem at0_34_0 {D : va_G} {h4 h5 : Nat} {u4 u5 : UU} {H : Heap} (hP : va_P D vwCl (w66 h4 h5 u4 u5) H) : va_at D vwCl (adl h4 h5 u4 u5 34 0, oh_e (adl h4 h5 u4 u5) (cal u4 u5) mu0 34 0) H := hP 58 _ rfl
set_option maxRecDepth 100000 in
theorem at0_35_0 {D : va_G} {h4 h5 : Nat} {u4 u5 : UU} {H : Heap} (hP : va_P D vwCl (w66 h4 h5 u4 u5) H) : va_at D vwCl (adl h4 h5 u4 u5 35 0, oh_e (adl h4 h5 u4 u5) (cal u4 u5) mu0 35 0) H := hP 59 _ rfl
set_option maxRecDepth 100000 in
theorem at0_36_0 {D : va_G} {h4 h5 : Nat} {u4 u5 : UU} {H : Heap} (hP : va_P D vwCl (w66 h4 h5 u4 u5) H) : va_at D vwCl (adl h4 h5 u4 u5 36 0, oh_e (adl h4 h5 u4 u5) (cal u4 u5) mu0 36 0) H := hP 60 _ rfl
set_option maxRecDepth 100000 in
theorem at0_37_0 {D : va_G} {h4 h5 : Nat} {u4 u5 : UU} {H : Heap} (hP : va_P D vwCl (w66 h4 h5 u4 u5) H) : va_at D vwCl (adl h4 h5 u4 u5 37 0, oh_e (adl h4 h5 u4 u5) (cal u4 u5) mu0 37 0) H := hP 61 _ rfl
set_option maxRecDepth 100000 in
theorem at0_38_0 {D : va_G} {h4 h5 : Nat} {u4 u5 : UU} {H : Heap} (hP : va_P D vwCl (w66 h4 h5 u4 u5) H) : va_at D vwCl (adl h4 h5 u4 u5 38 0, oh_e (adl h4 h5 u4 u5) (cal u4 u5) mu0 38 0) H := hP 62 _ rfl
set_option maxRecDepth 100000 in
theorem at0_39_0 {D : va_G} {h4 h5 : Nat} {u4 u5 : UU} {H : Heap} (hP : va_P D vwCl (w66 h4 h5 u4 u5) H) : va_at D vwCl (adl h4 h5 u4 u5 39 0, oh_e (adl h4 h5 u4 u5) (cal u4 u5) mu0 39 0) H := hP 63 _ rfl
set_option maxRecDepth 100000 in
theorem at0_40_0 {D : va_G} {h4 h5 : Nat} {u4 u5 : UU} {H : Heap} (hP : va_P D vwCl (w66 h4 h5 u4 u5) H) : va_at D vwCl (adl h4 h5 u4 u5 40 0, oh_e (adl h4 h5 u4 u5) (cal u4 u5) mu0 40 0) H := hP 64 _ rfl
set_option maxRecDepth 100000 in
theorem at0_41_0 {D : va_G} {h4 h5 : Nat} {u4 u5 : UU} {H : Heap} (hP : va_P D vwCl (w66 h4 h5 u4 u5) H) : va_at D vwCl (adl h4 h5 u4 u5 41 0, oh_e (adl h4 h5 u4 u5) (cal u4 u5) mu0 41 0) H := hP 65 _ rfl
set_option maxRecDepth 100000 in
theorem w0_P {D : va_G} {h4 h5 : Nat} {u4 u5 : UU} {H : Heap} (hP : va_P D vwCl (w66 h4 h5 u4 u5) H) : va_P D vwCl (oh_w (adl h4 h5 u4 u5) (cal u4 u5) mu0) H := by
  have key : ∀ q ∈ oh_ids, va_at D vwCl (adl h4 h5 u4 u5 q.1 q.2, oh_e (adl h4 h5 u4 u5) (cal u4 u5) mu0 q.1 q.2) H := by
    rw [oh_ids_is]
    exact List.forall_mem_cons.mpr ⟨at0_0_0 hP, List.forall_mem_cons.mpr ⟨at0_0_1 hP, List.forall_mem_cons.mpr ⟨at0_0_2 hP, List.forall_mem_cons.mpr ⟨at0_1_0 hP, List.forall_mem_cons.mpr ⟨at0_1_1 hP, List.forall_mem_cons.mpr ⟨at0_1_2 hP, List.forall_mem_cons.mpr ⟨at0_2_0 hP, List.forall_mem_cons.mpr ⟨at0_2_1 hP, List.forall_mem_cons.mpr ⟨at0_2_2 hP, List.forall_mem_cons.mpr ⟨at0_3_0 hP, List.forall_mem_cons.mpr ⟨at0_3_1 hP, List.forall_mem_cons.mpr ⟨at0_3_2 hP, List.forall_mem_cons.mpr ⟨at0_4_0 hP, List.forall_mem_cons.mpr ⟨at0_4_1 hP, List.forall_mem_cons.mpr ⟨at0_4_2 hP, List.forall_mem_cons.mpr ⟨at0_5_0 hP, List.forall_mem_cons.mpr ⟨at0_5_1 hP, List.forall_mem_cons.mpr ⟨at0_5_2 hP, List.forall_mem_cons.mpr ⟨at0_6_0 hP, List.forall_mem_cons.mpr ⟨at0_6_1 hP, List.forall_mem_cons.mpr ⟨at0_6_2 hP, List.forall_mem_cons.mpr ⟨at0_7_0 hP, List.forall_mem_cons.mpr ⟨at0_7_1 hP, List.forall_mem_cons.mpr ⟨at0_8_0 hP, List.forall_mem_cons.mpr ⟨at0_8_1 hP, List.forall_mem_cons.mpr ⟨at0_9_0 hP, List.forall_mem_cons.mpr ⟨at0_9_1 hP, List.forall_mem_cons.mpr ⟨at0_9_2 hP, List.forall_mem_cons.mpr ⟨at0_9_3 hP, List.forall_mem_cons.mpr ⟨at0_10_0 hP, List.forall_mem_cons.mpr ⟨at0_10_1 hP, List.forall_mem_cons.mpr ⟨at0_10_2 hP, List.forall_mem_cons.mpr ⟨at0_10_3 hP, List.forall_mem_cons.mpr ⟨at0_11_0 hP, List.forall_mem_cons.mpr ⟨at0_11_1 hP, List.forall_mem_cons.mpr ⟨at0_12_0 hP, List.forall_mem_cons.mpr ⟨at0_12_1 hP, List.forall_mem_cons.mpr ⟨at0_13_0 hP, List.forall_mem_cons.mpr ⟨at0_14_0 hP, List.forall_mem_cons.mpr ⟨at0_15_0 hP, List.forall_mem_cons.mpr ⟨at0_16_0 hP, List.forall_mem_cons.mpr ⟨at0_17_0 hP, List.forall_mem_cons.mpr ⟨at0_18_0 hP, List.forall_mem_cons.mpr ⟨at0_19_0 hP, List.forall_mem_cons.mpr ⟨at0_20_0 hP, List.forall_mem_cons.mpr ⟨at0_21_0 hP, List.forall_mem_cons.mpr ⟨at0_22_0 hP, List.forall_mem_cons.mpr ⟨at0_23_0 hP, List.forall_mem_cons.mpr ⟨at0_24_0 hP, List.forall_mem_cons.mpr ⟨at0_25_0 hP, List.forall_mem_cons.mpr ⟨at0_26_0 hP, List.forall_mem_cons.mpr ⟨at0_27_0 hP, List.forall_mem_cons.mpr ⟨at0_28_0 hP, List.forall_mem_cons.mpr ⟨at0_29_0 hP, List.forall_mem_cons.mpr ⟨at0_30_0 hP, List.forall_mem_cons.mpr ⟨at0_31_0 hP, List.forall_mem_cons.mpr ⟨at0_32_0 hP, List.forall_mem_cons.mpr ⟨at0_33_0 hP, List.forall_mem_cons.mpr ⟨at0_34_0 hP, List.forall_mem_cons.mpr ⟨at0_35_0 hP, List.forall_mem_cons.mpr ⟨at0_36_0 hP, List.forall_mem_cons.mpr ⟨at0_37_0 hP, List.forall_mem_cons.mpr ⟨at0_38_0 hP, List.forall_mem_cons.mpr ⟨at0_39_0 hP, List.forall_mem_cons.mpr ⟨at0_40_0 hP, List.forall_mem_cons.mpr ⟨at0_41_0 hP, fun _ h => nomatch h⟩⟩⟩⟩⟩⟩⟩⟩⟩⟩⟩⟩⟩⟩⟩⟩⟩⟩⟩⟩⟩⟩⟩⟩⟩⟩⟩⟩⟩⟩⟩⟩⟩⟩⟩⟩⟩⟩⟩⟩⟩⟩⟩⟩⟩⟩⟩⟩⟩⟩⟩⟩⟩⟩⟩⟩⟩⟩⟩⟩⟩⟩⟩⟩⟩⟩
  intro k q hk
  obtain ⟨x, hx, rfl⟩ := List.mem_map.mp (List.mem_of_getElem? hk)
  exact key x hx
set_option maxRecDepth 100000 in
theorem w0_D {A : Nat → Prop} {h4 h5 : Nat} {u4 u5 : UU} (hD : va_D A (w66 h4 h5 u4 u5)) : va_D A (oh_w (adl h4 h5 u4 u5) (cal u4 u5) mu0) := by
  refine va_D_addr hD [10, 17, 24, 11, 18, 25, 12, 19, 26, 13, 20, 27, 14, 21, 28, 15, 22, 29, 16, 23, 30, 5, 7, 6, 8, 38, 40, 42, 44, 39, 41, 43, 45, 1, 3, 2, 4, 0, 9, 31, 32, 33, 34, 35, 36, 37, 46, 47, 48, 49, 50, 51, 52, 53, 54, 55, 56, 57, 58, 59, 60, 61, 62, 63, 64, 65] (by decide +kernel) ?_
  show _ = (oh_ids.map (fun q => (adl h4 h5 u4 u5 q.1 q.2, oh_e (adl h4 h5 u4 u5) (cal u4 u5) mu0 q.1 q.2))).map (fun q => some q.1)
  rw [oh_ids_is]
  rfl
theorem oh_arr_is : oh_ids.filter (fun q => oh_isA q.1) = [(1, 0), (1, 1), (1, 2), (2, 0), (2, 1), (2, 2), (3, 0), (3, 1), (3, 2), (4, 0), (4, 1), (4, 2), (5, 0), (5, 1), (5, 2), (6, 0), (6, 1), (6, 2), (8, 0), (8, 1), (10, 0), (10, 1), (10, 2), (10, 3), (12, 0), (12, 1), (14, 0), (15, 0), (16, 0), (17, 0), (18, 0), (19, 0), (20, 0), (21, 0), (23, 0), (24, 0), (25, 0), (26, 0), (27, 0), (28, 0), (29, 0), (30, 0), (31, 0), (32, 0), (33, 0), (34, 0), (35, 0), (36, 0), (37, 0), (38, 0), (39, 0), (40, 0), (41, 0)] := by decide +kernel
set_option maxRecDepth 100000 in
theorem w0_K {D : va_G} {u4 u5 : UU} {U : State} (hK : va_K D vwCl (tysX4 u4.2 ++ tysX5 u5.2) U) : va_K D vwCl (oh_tys (cal u4 u5)) U := by
  refine hK.sub [5, 11, 17, 6, 12, 18, 7, 13, 19, 8, 14, 20, 9, 15, 21, 10, 16, 22, 2, 3, 30, 31, 32, 33, 0, 1, 4, 23, 24, 25, 26, 27, 28, 29, 34, 35, 36, 37, 38, 39, 40, 41, 42, 43, 44, 45, 46, 47, 48, 49, 50, 51, 52] ?_
  show _ = (oh_ids.filter (fun q => oh_isA q.1)).map (fun q => (cal u4 u5 q.1 q.2, oh_ty q.1))
  rw [oh_arr_is]
  rfl
