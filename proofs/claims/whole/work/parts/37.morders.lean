/-! THE MODEL reads orders -/
theorem cg1 {f : Int → Int} {k a b : Int} (hk : 0 ≤ k) (ha : 0 ≤ a ∧ a ≤ 4) : cgo 1 f (6 * k + a) b ↔ (0 ≤ b - 48 ∧ b - 48 < fe 1 f k a) := by
  have hs : stp 1 = 6 := rfl
  have hl : ldd 1 = 2 := rfl
  have e1 : (6 * k + a) % 6 = a := by omega
  have e2 : (6 * k + a) / 6 = k := by omega
  have ho : onc 1 = 0 := rfl
  unfold cgo
  rw [hs, hl, ho, e1, e2, if_neg (by omega)]
  constructor
  · exact fun q => q.1
  · exact fun q => ⟨q, fun z => z.2.1 rfl⟩
theorem cg1_5 {f : Int → Int} {k b : Int} : cgo 1 f (6 * k + 5) b ↔ b = 59 := by
  have hs : stp 1 = 6 := rfl
  unfold cgo
  rw [hs, if_pos (by omega)]
theorem fig1 (f : Int → Int) (k a : Int) : fig 1 f k a = f (6 * k + a) - 48 := by
  unfold fig
  have hs : stp 1 = 6 := rfl
  rw [hs, Int.mul_comm]
theorem fe1 (f : Int → Int) (k : Int) : fe 1 f k 0 = 6 ∧ fe 1 f k 1 = 6 ∧ fe 1 f k 2 = 3 ∧ fe 1 f k 3 = (if f (6 * k + 2) - 48 = 2 then 4 else 10) ∧ fe 1 f k 4 = 5 := by
  have hl : ldd 1 = 2 := rfl
  have hs : lst 1 = 5 := rfl
  refine ⟨?_, ?_, ?_, ?_, ?_⟩
  · unfold fe
    rw [hl, if_pos (by omega)]
  · unfold fe
    rw [hl, if_pos (by omega)]
  · unfold fe
    rw [hl, if_neg (by omega), if_pos rfl]
  · unfold fe
    rw [hl, if_neg (by omega), if_neg (by omega), if_pos (by omega), fig1]
  · unfold fe
    rw [hl, hs, if_neg (by omega), if_neg (by omega), if_neg (by omega)]
def RdO (A : Ab) (k : Int) (μ : Mem) : Prop := μ 22 0 11 = k ∧ ∀ j, 0 ≤ j → j < k → μ 31 0 (4 * j) = fi 1 (A 1) j ∧ μ 31 0 (4 * j + 1) = bo 1 (A 1) j ∧ μ 31 0 (4 * j + 2) = ho 1 (A 1) j ∧ μ 31 0 (4 * j + 3) = la 1 (A 1) j
def kO (μ μ' : Mem) : Prop := ∀ s n j, ¬ (s = 22 ∧ (j = 7 ∨ j = 11) ∨ s = 31) → μ' s n j = μ s n j
theorem kO_rf {μ : Mem} : kO μ μ := fun _ _ _ _ => rfl
theorem kO_tr {μ μ1 μ2 : Mem} (h : kO μ μ1) (h' : kO μ1 μ2) : kO μ μ2 := fun s n j hs => (h' s n j hs).trans (h s n j hs)
theorem kO_k {μ μ1 : Mem} (h : kO μ μ1) : kM μ μ1 := fun s n j hs => h s n j (fun z => hs (by unfold scr; omega))
theorem atM_O {μ μ1 : Mem} {q : Int} (h : atM μ q μ1) : kO μ μ1 := fun s n j hs => h.1 s n j (fun z => hs (Or.inl ⟨z.1, Or.inl z.2.2⟩))
def T_X5_readsOrder : Tr := tO0 22 fun n μ Post => ∃ A k, ValA A ∧ RepM A μ ∧ RdO A k μ ∧ 0 ≤ k ∧ μ 22 0 7 = 6 * k ∧ Gd 1 A (6 * k) ∧ ¬ tl 1 A = 0 ∧
  (∀ μ', kO μ μ' → RdO A (k + 1) μ' → μ' 22 0 7 = 6 * k + 5 → Gd 1 A (6 * k + 5) → Post (some (oI 1)) μ') ∧
  (∀ μ', kO μ μ' → flw 1 (tl 1 A) (tB 1 A) = μ' 22 0 7 → tE 1 A = 0 → Post (some (oI 0)) μ')
theorem ok_X5_readsOrder : oh_Ok (pg_X5_readsOrder T_X5_figure T_X5_hour) 5 T_X5_readsOrder := by
  refine tO0_ok fun n μ Post G hG hn hM h => ?_
  obtain rfl := n22 hn
  obtain ⟨A, k, hV, hR, hK, hk0, hat, hgd, hne, hyes, hno⟩ := h
  have hlv := (hV.1 1 (by omega)).1
  have hk20 : k ≤ 16 := by have := hgd.1; omega
  have hs5 : stp 1 = 6 := rfl
  obtain ⟨f0, f1, f2, f3, f4⟩ := fe1 (A 1) k
  have efi : fi 1 (A 1) k = A 1 (6 * k) - 48 := by
    show fig 1 (A 1) k 0 = _
    rw [fig1, Int.add_zero]
  have ebo : bo 1 (A 1) k = A 1 (6 * k + 1) - 48 := by
    show fig 1 (A 1) k (2 - 1) = _
    rw [fig1]
    rfl
  have eho : ho 1 (A 1) k = 10 * (A 1 (6 * k + 2) - 48) + (A 1 (6 * k + 3) - 48) := by
    show 10 * fig 1 (A 1) k 2 + fig 1 (A 1) k (2 + 1) = _
    rw [fig1, fig1]
    rfl
  have ela : la 1 (A 1) k = A 1 (6 * k + 4) - 48 := by
    show fig 1 (A 1) k (2 + 2) = _
    rw [fig1]
    rfl
  have hfail : ∀ (a : Int) (μ' : Mem), (0 ≤ a ∧ a ≤ 4) → Gd 1 A (6 * k + a) → kO μ μ' → μ' 22 0 7 = 6 * k + a → (6 * k + a < tl 1 A → ¬ (0 ≤ A 1 (6 * k + a) - 48 ∧ A 1 (6 * k + a) - 48 < fe 1 (A 1) k a)) → Post (some (oI 0)) μ' := fun a μ' ha hg hk hp hbad => by
    obtain ⟨b1, b2⟩ := gd_bad hg (fun z y => hbad z ((cg1 hk0 ha).mp y)) (by rw [hs5]; omega) hne
    exact hno μ' hk (by rw [b1, hp]) b2
  have h74 : ∀ (a : Int) (μ' : Mem) (x y : Option AV) (z : Int), (0 ≤ a ∧ a ≤ 4) → Gd 1 A (6 * k + a) → kO μ μ' → μ' 22 0 7 = 6 * k + a → (6 * k + a < tl 1 A → ¬ (0 ≤ A 1 (6 * k + a) - 48 ∧ A 1 (6 * k + a) - 48 < fe 1 (A 1) k a)) → G 66 [some (oR 22 0), x, y, some (oI z), none] [oI (-1)] μ' := fun a μ' x y z ha hg hk hp hbad => by
    refine oh_go hG [] 40 ?_
    refine And.intro (fun q => absurd rfl q) (fun _ => ?_)
    exact ⟨by omega, hfail a μ' ha hg hk hp hbad⟩
  have e1 : 6 * k + 1 + 1 = 6 * k + 2 := by omega
  have e2 : 6 * k + 2 + 1 = 6 * k + 3 := by omega
  have e22 : 6 * k + 2 + 2 = 6 * k + 4 := by omega
  have e3 : 6 * k + 3 + 1 = 6 * k + 4 := by omega
  have e4 : 6 * k + 4 + 1 = 6 * k + 5 := by omega
  have hK1 := hK.1
  refine oh_go hG [(66, 4)] 90 ?_
  refine And.intro (fun _ => ?_) (fun q => absurd (Classical.not_not.mp q) (by omega))
  refine And.intro ⟨A, hV, hR, by omega, by rw [hat]; exact hgd.1, fun ok μ1 k1 => ?_, fun bad => ?_⟩ trivial
  · rw [hat] at ok k1
    have ok : 6 * k < tl 1 A ∧ 0 ≤ A 1 (6 * k) - 48 ∧ A 1 (6 * k) - 48 ≤ 5 := ok
    have g1 : Gd 1 A (6 * k + 1) := gd_s hgd ok.1 (by
      have := (cg1 (f := A 1) (b := A 1 (6 * k)) (a := 0) hk0 (by omega)).mpr (by rw [f0]; omega)
      rw [Int.add_zero] at this
      exact this)
    have hR1 := RepM_k hR (atM_k k1)
    show oh_wp _ Post G _ _ _ _ [oI (A 1 (μ 22 0 7) - 48)] μ1
    rw [hat]
    refine And.intro (fun _ => ?_) (fun q => absurd (Classical.not_not.mp q) (by omega))
    refine And.intro ⟨A, hV, hR1, by omega, by rw [k1.2]; exact g1.1, fun ok2 μ2 k2 => ?_, fun bad => ?_⟩ trivial
    · rw [k1.2] at ok2 k2
      rw [e1] at k2
      have ok2 : 6 * k + 1 < tl 1 A ∧ 0 ≤ A 1 (6 * k + 1) - 48 ∧ A 1 (6 * k + 1) - 48 ≤ 5 := ok2
      have g2 : Gd 1 A (6 * k + 2) := by
        have := gd_s g1 ok2.1 ((cg1 hk0 (by omega)).mpr (by rw [f1]; omega))
        rw [e1] at this
        exact this
      have k12 := atM_tr k1 k2
      have hR2 := RepM_k hR (atM_k k12)
      show oh_wp _ Post G _ _ _ _ [oI (A 1 (μ1 22 0 7) - 48)] μ2
      rw [k1.2]
      refine And.intro (fun _ => ?_) (fun q => absurd (Classical.not_not.mp q) (by omega))
      refine And.intro ⟨A, 6 * k + 2, hV, hR2, by omega, k12.2, g2.1, fun w μ3 k3 => ?_, fun w => ?_, fun w μ3 k3 => ?_⟩ trivial
      · obtain ⟨w1, w2⟩ := w
        have w1 : 6 * k + 2 < tl 1 A ∧ 0 ≤ A 1 (6 * k + 2) - 48 ∧ A 1 (6 * k + 2) - 48 ≤ 2 := w1
        have w2 : 6 * k + 2 + 1 < tl 1 A ∧ 0 ≤ A 1 (6 * k + 2 + 1) - 48 ∧ A 1 (6 * k + 2 + 1) - 48 ≤ if A 1 (6 * k + 2) - 48 = 2 then 3 else 9 := w2
        have g3 := gd_s g2 w1.1 ((cg1 hk0 (by omega)).mpr (by rw [f2]; omega))
        rw [e2] at w2 g3
        have g4 := gd_s g3 w2.1 ((cg1 hk0 (by omega)).mpr (by rw [f3]; split at w2 <;> split <;> omega))
        rw [e3] at g4
        rw [e22] at k3
        have hbd : 10 * (A 1 (6 * k + 2) - 48) + (A 1 (6 * k + 3) - 48) ≤ 23 := by
          have := w2.2.2
          split at this <;> omega
        have k13 := atM_tr k12 k3
        have hR3 := RepM_k hR (atM_k k13)
        show oh_wp _ Post G _ _ _ _ [oI (10 * (A 1 (6 * k + 2) - 48) + (A 1 (6 * k + 2 + 1) - 48))] μ3
        rw [e2]
        refine And.intro (fun _ => ?_) (fun q => absurd (Classical.not_not.mp q) (by omega))
        refine And.intro ⟨A, hV, hR3, by omega, by rw [k13.2]; exact g4.1, fun v μ4 k4 => ?_, fun v => ?_⟩ trivial
        · rw [k13.2] at v k4
          rw [e4] at k4
          have v : 6 * k + 4 < tl 1 A ∧ 0 ≤ A 1 (6 * k + 4) - 48 ∧ A 1 (6 * k + 4) - 48 ≤ 4 := v
          have g5 := gd_s g4 v.1 ((cg1 hk0 (by omega)).mpr (by rw [f4]; omega))
          rw [e4] at g5
          have k14 := atM_tr k13 k4
          have c8 : μ4 22 0 11 = k := by rw [k14.1 _ _ _ (by omega)]; exact hK.1
          show G 66 [some (oR 22 0), some (oI (A 1 (6 * k) - 48)), some (oI (A 1 (6 * k + 1) - 48)), some (oI (10 * (A 1 (6 * k + 2) - 48) + (A 1 (6 * k + 3) - 48))), none] [oI (A 1 (μ3 22 0 7) - 48)] μ4
          rw [k13.2]
          rw [← ela] at v ⊢
          rw [← ebo] at ok2 ⊢
          rw [← eho] at hbd ⊢
          rw [← efi] at ok ⊢
          generalize hFF : fi 1 (A 1) k = F at *
          generalize hBB : bo 1 (A 1) k = B at *
          generalize hHH : ho 1 (A 1) k = H at *
          generalize hPP : la 1 (A 1) k = P at *
          have d1 : ∀ y : Int, oh_up μ4 31 0 (4 * k) y 22 0 11 = k := fun y => by rw [oh_up_o (by omega), c8]
          have d2 : ∀ y z : Int, oh_up (oh_up μ4 31 0 (4 * k) y) 31 0 (4 * k + 1) z 22 0 11 = k := fun y z => by rw [oh_up_o (by omega), d1]
          have d3 : ∀ y z t : Int, oh_up (oh_up (oh_up μ4 31 0 (4 * k) y) 31 0 (4 * k + 1) z) 31 0 (4 * k + 2) t 22 0 11 = k := fun y z t => by rw [oh_up_o (by omega), d2]
          have d4 : ∀ y z t u : Int, oh_up (oh_up (oh_up (oh_up μ4 31 0 (4 * k) y) 31 0 (4 * k + 1) z) 31 0 (4 * k + 2) t) 31 0 (4 * k + 3) u 22 0 11 = k := fun y z t u => by rw [oh_up_o (by omega), d3]
          refine oh_go hG [] 90 ?_
          refine And.intro (fun _ => ?_) (fun q => absurd (Classical.not_not.mp q) (by omega))
          refine And.intro (by rw [c8]; omega) ?_
          rw [c8]
          refine And.intro (by omega) ?_
          refine And.intro (by rw [d1]; omega) ?_
          rw [d1]
          refine And.intro (by omega) ?_
          refine And.intro (by omega) ?_
          refine And.intro (by rw [d2]; omega) ?_
          rw [d2]
          refine And.intro (by omega) ?_
          refine And.intro (by omega) ?_
          refine And.intro (by rw [d3]; omega) ?_
          rw [d3]
          refine And.intro (by omega) ?_
          refine And.intro (by omega) ?_
          refine And.intro (by rw [d4]; omega) ?_
          rw [d4]
          refine And.intro (by omega) ?_
          refine hyes _ (kO_tr (atM_O k14) (fun s n j hs => ?_)) ⟨oh_up_s, fun j a b => ?_⟩ ?_ g5
          · rw [oh_up_o (by omega), oh_up_o (by omega), oh_up_o (by omega), oh_up_o (by omega), oh_up_o (by omega)]
          · by_cases e : j = k
            · rw [e, hFF, hBB, hHH, hPP]
              refine ⟨?_, ?_, ?_, ?_⟩
              · rw [oh_up_o (by omega), oh_up_o (by omega), oh_up_o (by omega), oh_up_o (by omega), oh_up_s]
              · rw [oh_up_o (by omega), oh_up_o (by omega), oh_up_o (by omega), oh_up_s]
              · rw [oh_up_o (by omega), oh_up_o (by omega), oh_up_s]
              · rw [oh_up_o (by omega), oh_up_s]
            · have r : ∀ i, ¬ i = 4 * k → ¬ i = 4 * k + 1 → ¬ i = 4 * k + 2 → ¬ i = 4 * k + 3 → oh_up (oh_up (oh_up (oh_up (oh_up μ4 31 0 (4 * k) F) 31 0 (4 * k + 1) B) 31 0 (4 * k + 2) H) 31 0 (4 * k + 3) P) 22 0 11 (k + 1) 31 0 i = μ 31 0 i := fun i i1 i2 i3 i4 => by
                rw [oh_up_o (by omega), oh_up_o (by omega), oh_up_o (by omega), oh_up_o (by omega), oh_up_o (by omega), k14.1 _ _ _ (by omega)]
              rw [r _ (by omega) (by omega) (by omega) (by omega), r _ (by omega) (by omega) (by omega) (by omega), r _ (by omega) (by omega) (by omega) (by omega), r _ (by omega) (by omega) (by omega) (by omega)]
              exact hK.2 j a (by omega)
          · rw [oh_up_o (by omega), oh_up_o (by omega), oh_up_o (by omega), oh_up_o (by omega), oh_up_o (by omega)]
            exact k14.2
        · rw [k13.2] at v
          have v : ¬ (6 * k + 4 < tl 1 A ∧ 0 ≤ A 1 (6 * k + 4) - 48 ∧ A 1 (6 * k + 4) - 48 ≤ 4) := v
          refine h74 4 μ3 _ _ _ (by omega) g4 (atM_O k13) k13.2 (fun z y => v ?_)
          rw [f4] at y
          omega
      · have w : ¬ (6 * k + 2 < tl 1 A ∧ 0 ≤ A 1 (6 * k + 2) - 48 ∧ A 1 (6 * k + 2) - 48 ≤ 2) := w
        refine And.intro (fun y => absurd rfl y) (fun _ => ?_)
        refine h74 2 μ2 _ _ _ (by omega) g2 (atM_O k12) k12.2 (fun z y => w ?_)
        rw [f2] at y
        omega
      · obtain ⟨w1, w2⟩ := w
        have w1 : 6 * k + 2 < tl 1 A ∧ 0 ≤ A 1 (6 * k + 2) - 48 ∧ A 1 (6 * k + 2) - 48 ≤ 2 := w1
        have w2 : ¬ (6 * k + 2 + 1 < tl 1 A ∧ 0 ≤ A 1 (6 * k + 2 + 1) - 48 ∧ A 1 (6 * k + 2 + 1) - 48 ≤ if A 1 (6 * k + 2) - 48 = 2 then 3 else 9) := w2
        have g3 := gd_s g2 w1.1 ((cg1 hk0 (by omega)).mpr (by rw [f2]; omega))
        rw [e2] at w2 g3 k3
        have k13 := atM_tr k12 k3
        refine And.intro (fun y => absurd rfl y) (fun _ => ?_)
        refine h74 3 μ3 _ _ _ (by omega) g3 (atM_O k13) k13.2 (fun z y => w2 ⟨z, y.1, ?_⟩)
        have := y.2
        rw [f3] at this
        split at this <;> split <;> omega
    · rw [k1.2] at bad
      have bad : ¬ (6 * k + 1 < tl 1 A ∧ 0 ≤ A 1 (6 * k + 1) - 48 ∧ A 1 (6 * k + 1) - 48 ≤ 5) := bad
      refine And.intro (fun y => absurd rfl y) (fun _ => ?_)
      refine And.intro (fun y => absurd rfl y) (fun _ => ?_)
      refine h74 1 μ1 _ _ _ (by omega) g1 (atM_O k1) k1.2 (fun z y => bad ?_)
      rw [f1] at y
      omega
  · rw [hat] at bad
    have bad : ¬ (6 * k < tl 1 A ∧ 0 ≤ A 1 (6 * k) - 48 ∧ A 1 (6 * k) - 48 ≤ 5) := bad
    refine And.intro (fun y => absurd rfl y) (fun _ => ?_)
    refine And.intro (fun y => absurd rfl y) (fun _ => ?_)
    refine And.intro (fun y => absurd rfl y) (fun _ => ?_)
    refine h74 0 μ _ _ _ (by omega) (by rw [Int.add_zero]; exact hgd) kO_rf (by rw [hat]; omega) (fun z y => bad ?_)
    rw [Int.add_zero, f0] at *
    omega
def T_X5_readsOrders : Tr := tO0 22 fun n μ Post => ∃ A, ValA A ∧ RepM A μ ∧ ∀ μ', kO μ μ' → RdO A (tE 1 A) μ' → Post (some (oI (flw 1 (tl 1 A) (tB 1 A)))) μ'
theorem ok_X5_readsOrders : oh_Ok (pg_X5_readsOrders T_X5_readsOrder) 3 T_X5_readsOrders := by
  refine tO0_ok fun n μ Post G hG hn hM h => ?_
  obtain rfl := n22 hn
  obtain ⟨A, hV, hR, h⟩ := h
  have hlv := (hV.1 1 (by omega)).1
  have hlen : ∀ μ', kO μ μ' → μ' 28 0 1 = tl 1 A := fun μ' hk => by
    rw [hk _ _ _ (by omega)]
    exact (hR.2.1 1 (by omega)).1
  have hbad : ∀ (μ' : Mem) (x : Option AV) (y : Option AV), kO μ μ' → flw 1 (tl 1 A) (tB 1 A) = μ' 22 0 7 → tE 1 A = 0 → G 82 [some (oR 22 0), x, y] [] μ' := fun μ' x y hk hf he => by
    refine oh_go hG [(25, 2)] 40 ?_
    rw [hf, he] at h
    show Post (some (oI (oh_up μ' 22 0 11 0 22 0 7))) (oh_up μ' 22 0 11 0)
    rw [oh_up_o (by omega)]
    exact h _ (kO_tr hk (fun s n j hs => oh_up_o (fun z => hs (by omega)))) ⟨oh_up_s, fun j a b => absurd b (by omega)⟩
  have key : ∀ (m : Nat) (k : Int) (μ1 : Mem), 0 ≤ k → k + m = 20 → kO μ μ1 → RdO A k μ1 → μ1 22 0 7 = 6 * k → Gd 1 A (6 * k) → ¬ tl 1 A = 0 → G 25 [some (oR 22 0), some (oI 1), none] [] μ1 := by
    intro m
    induction m with
    | zero =>
      intro k μ1 k0 k1 g1 g2 g3 g4 hne
      have := g4.1
      omega
    | succ m ih =>
      intro k μ1 k0 k1 g1 g2 g3 g4 hne
      refine oh_go hG [(25, 2), (82, 3)] 40 ?_
      refine And.intro (fun q => absurd q (by decide)) (fun _ => ?_)
      refine And.intro ⟨A, k, hV, RepM_k hR (kO_k g1), g2, k0, g3, g4, hne, fun μ2 j1 j2 j3 j4 => ?_, fun μ2 j1 j2 j3 => ?_⟩ trivial
      · have h12 := kO_tr g1 j1
        refine And.intro (fun q => absurd q (by decide)) (fun _ => ?_)
        refine And.intro (by omega) ?_
        rw [hlen μ2 h12, j3]
        have hg4 := j4.1
        refine And.intro (fun q => ?_) (fun q => ?_)
        · refine And.intro (fun y => absurd y (by decide)) (fun _ => ?_)
          refine And.intro (fun _ => ?_) (fun y => absurd rfl y)
          refine And.intro (fun _ => ?_) (fun y => absurd rfl y)
          refine And.intro (by rw [j3]; omega) ?_
          rw [j3]
          refine oh_go hG [] 20 ?_
          have et : tl 1 A = 6 * k + 5 := by omega
          have j4 := j4
          rw [← et] at j4
          obtain ⟨e1, e2⟩ := gd_end (k := k) j4 (by rw [et]; show 6 * k + 5 = k * 6 + (6 - 1); omega)
          refine And.intro (fun _ => ?_) (fun y => absurd rfl y)
          rw [e1, e2] at h
          refine h _ (kO_tr h12 (fun s n j hs => oh_up_o (fun z => hs (by omega)))) ⟨?_, fun j a b => ?_⟩
          · rw [oh_up_o (by omega)]
            exact j2.1
          · rw [oh_up_o (by omega), oh_up_o (by omega), oh_up_o (by omega), oh_up_o (by omega)]
            exact j2.2 j a b
        · refine And.intro (fun y => absurd y (by decide)) (fun _ => ?_)
          refine And.intro (fun y => absurd y (by decide)) (fun _ => ?_)
          refine And.intro (by rw [j3]; omega) ?_
          have eb : μ2 27 0 (99 + (6 * k + 5)) = A 1 (6 * k + 5) := by
            rw [h12 _ _ _ (by omega)]
            have := (hR.2.1 1 (by omega)).2 (6 * k + 5) (by omega) (by omega)
            rw [show 99 * ((1 : Nat) : Int) + (6 * k + 5) = 99 + (6 * k + 5) by omega] at this
            exact this
          rw [j3]
          refine And.intro (by omega) ?_
          rw [eb]
          refine And.intro (fun w => ?_) (fun w => ?_)
          · refine And.intro (fun y => absurd y (by decide)) (fun _ => ?_)
            refine And.intro (by rw [j3]; omega) ?_
            rw [j3]
            have g5 := gd_s j4 (by omega) (cg1_5.mpr w)
            have e5 : 6 * k + 5 + 1 = 6 * (k + 1) := by omega
            rw [e5] at g5 ⊢
            refine ih (k + 1) _ (by omega) (by omega) (kO_tr h12 (fun s n j hs => oh_up_o (fun z => hs (by omega)))) ⟨?_, fun j a b => ?_⟩ oh_up_s g5 hne
            · rw [oh_up_o (by omega)]
              exact j2.1
            · rw [oh_up_o (by omega), oh_up_o (by omega), oh_up_o (by omega), oh_up_o (by omega)]
              exact j2.2 j a b
          · obtain ⟨b1, b2⟩ := gd_bad2 j4 (by omega) (fun z => w (cg1_5.mp z))
            exact hbad μ2 _ _ h12 (by rw [b1, j3]) b2
      · have h12 := kO_tr g1 j1
        refine And.intro (fun _ => ?_) (fun y => absurd rfl y)
        refine And.intro (fun _ => ?_) (fun y => absurd rfl y)
        exact hbad μ2 _ _ h12 j2 j3
  refine oh_go hG [(25, 2)] 20 ?_
  have h1 : kO μ (oh_up (oh_up μ 22 0 7 0) 22 0 11 0) := fun s n j hs => by rw [oh_up_o (fun z => hs (by omega)), oh_up_o (fun z => hs (by omega))]
  have c7 : oh_up (oh_up μ 22 0 7 0) 22 0 11 0 22 0 7 = 0 := by rw [oh_up_o (by omega), oh_up_s]
  have hK0 : RdO A 0 (oh_up (oh_up μ 22 0 7 0) 22 0 11 0) := ⟨oh_up_s, fun j a b => absurd b (by omega)⟩
  refine And.intro (by omega) ?_
  rw [hlen _ h1]
  refine And.intro (fun q => ?_) (fun q => ?_)
  · refine oh_go hG [] 20 ?_
    obtain ⟨e1, e2⟩ := gd_none (t := 1) (A := A) (by omega)
    refine And.intro (fun _ => ?_) (fun y => absurd rfl y)
    rw [e1, e2] at h
    exact h _ h1 hK0
  · exact key 20 0 _ (by omega) (by omega) h1 hK0 c7 (gd_0 (by omega)) (by omega)
/-- the Model has read both texts -/
def Rd (A : Ab) (μ : Mem) : Prop := RdG A (tE 0 A) μ ∧ RdO A (tE 1 A) μ
/-- only what reads() fills changes -/
def kR (μ μ' : Mem) : Prop := ∀ s n j, ¬ (s = 22 ∧ (j = 7 ∨ j = 8 ∨ j = 11) ∨ s = 29 ∨ s = 30 ∨ s = 31) → μ' s n j = μ s n j
theorem kR_k {μ μ1 : Mem} (h : kR μ μ1) : kM μ μ1 := fun s n j hs => h s n j (fun z => hs (by unfold scr; omega))
def T_X5_reads : Tr := tO0 22 fun n μ Post => ∃ A, ValA A ∧ RepM A μ ∧ ∀ μ', kR μ μ' → Rd A μ' → Post none μ'
theorem RdG_keep {A : Ab} {k : Int} {μ μ' : Mem} (h : RdG A k μ) (h8 : μ' 22 0 8 = μ 22 0 8) (h29 : μ' 29 0 = μ 29 0) (h30 : μ' 30 0 = μ 30 0) : RdG A k μ' := by
  unfold RdG at h ⊢
  rw [h8, h29, h30]
  exact h
theorem RdO_keep {A : Ab} {k : Int} {μ μ' : Mem} (h : RdO A k μ) (h8 : μ' 22 0 11 = μ 22 0 11) (h31 : μ' 31 0 = μ 31 0) : RdO A k μ' := by
  unfold RdO at h ⊢
  rw [h8, h31]
  exact h
theorem ok_X5_reads : oh_Ok (pg_X5_reads T_X5_readsGrants T_X5_readsOrders) 1 T_X5_reads := by
  refine tO0_ok fun n μ Post G hG hn hM h => ?_
  obtain rfl := n22 hn
  obtain ⟨A, hV, hR, h⟩ := h
  refine oh_go hG [] 20 ?_
  refine And.intro ⟨A, hV, hR, fun μ1 k1 k2 => ?_⟩ trivial
  refine And.intro ⟨A, hV, RepM_k hR (kG_k k1), fun μ2 k3 k4 => ?_⟩ trivial
  refine h μ2 (fun s n j hs => ?_) ⟨RdG_keep k2 (k3 _ _ _ (by omega)) (funext fun j => k3 _ _ _ (by omega)) (funext fun j => k3 _ _ _ (by omega)), k4⟩
  rw [k3 s n j (by omega), k1 s n j (by omega)]
def T_X5_fault : Tr := tM1 s_fault
theorem ok_X5_fault : oh_Ok (pg_X5_fault T_X5_isTwo T_X5_readsGrants T_X5_readsOrders) 2 T_X5_fault := by
  refine tO1_ok fun n t μ Post G hG hn ht hM h => ?_
  obtain rfl := n22 hn
  obtain ⟨A, hV, hR, h⟩ := h
  refine oh_go hG [] 40 ?_
  refine And.intro ?_ trivial
  refine And.intro (fun x => ⟨fun _ => ?_, fun y => absurd (by decide) y⟩) (fun x => ⟨fun y => absurd rfl y, fun _ => ?_⟩)
  · have e : s_fault A t = (flw t.toNat (tl t.toNat A) (tB t.toNat A), A) := if_neg (by omega)
    rw [e] at h
    dsimp only at h
    refine And.intro (fun q => ?_) (fun q => ?_)
    · have e : t = 1 := by omega
      subst e
      exact ⟨⟨A, hV, hR, fun μ1 k1 _ => h μ1 (RepM_k hR (kO_k k1)) (kM_Fr (kO_k k1))⟩, trivial⟩
    · have e : t = 0 := by omega
      subst e
      exact ⟨⟨A, hV, hR, fun μ1 k1 _ => h μ1 (RepM_k hR (kG_k k1)) (kM_Fr (kG_k k1))⟩, trivial⟩
  · have e : s_fault A t = (-2, A) := if_pos (by omega)
    rw [e] at h
    exact h μ hR FrM_rf
theorem Rd_n {A : Ab} {μ : Mem} (h : Rd A μ) : μ 22 0 8 = tE 0 A ∧ μ 22 0 11 = tE 1 A := ⟨h.1.1, h.2.1⟩
theorem tE_len {t : Nat} {A : Ab} (hl : 0 ≤ tl t A ∧ tl t A ≤ 99) (h : ¬ tE t A = 0) : tl t A = tE t A * stp t - 1 := by
  unfold tE ents at h ⊢
  by_cases e : flw t (tl t A) (tB t A) = -1
  · rw [if_pos e] at h ⊢
    have : tl t A = 0 ∨ tl t A % stp t = stp t - 1 := by
      unfold flw at e
      split at e
      · rename_i hb
        exact absurd e hb
      · split at e
        · assumption
        · omega
    rcases stp_pos t with e1 | e1 <;> rw [e1] at h this ⊢ <;> omega
  · rw [if_neg e] at h
    exact absurd rfl h
def T_X5_undo : Tr := tM1 s_undo
theorem ok_X5_undo : oh_Ok (pg_X5_undo T_X5_isTwo T_X5_reads) 3 T_X5_undo := by
  refine tO1_ok fun n t μ Post G hG hn ht hM h => ?_
  obtain rfl := n22 hn
  obtain ⟨A, hV, hR, h⟩ := h
  refine oh_go hG [(29, 2)] 40 ?_
  refine And.intro ?_ trivial
  refine And.intro (fun x => ⟨fun _ => ?_, fun y => absurd (by decide) y⟩) (fun x => ⟨fun y => absurd rfl y, fun _ => ?_⟩)
  · have e : s_undo A t = if tE t.toNat A = 0 then (-3, A) else (tE t.toNat A - 1, lenA t.toNat A (max 0 (tl t.toNat A - stp t.toNat))) := if_neg (by omega)
    rw [e] at h
    refine And.intro ⟨A, hV, hR, fun μ1 k1 k2 => ?_⟩ trivial
    have hn2 : t.toNat < 2 := by omega
    have et : ((t.toNat : Nat) : Int) = t := by omega
    have hlv := (hV.1 t.toNat hn2).1
    have hE := tE_rg hlv
    have hR1 := RepM_k hR (kR_k k1)
    have hl := (hR1.2.1 t.toNat hn2).1
    rw [et] at hl
    have es : stp t.toNat = 5 + t := by
      rcases (show t = 0 ∨ t = 1 by omega) with rfl | rfl <;> rfl
    have hlen := tE_len hlv
    rw [es] at hlen h
    have key : G 29 [some (oR 22 0), some (oI t), none] [oI (tE t.toNat A)] μ1 := by
      refine oh_go hG [] 40 ?_
      refine And.intro (fun q => ?_) (fun q => ?_)
      · rw [if_neg q] at h
        dsimp only at h
        have hlen := hlen q
        have hfin : ∀ d : Int, tl t.toNat A - d = max 0 (tl t.toNat A - (5 + t)) → Post (some (oI (tE t.toNat A - 1))) (oh_up μ1 28 0 t (tl t.toNat A - d)) := fun d hd => by
          rw [hd]
          refine h _ (RepM_t (n := t.toNat) hn2 hR1 (fun k k1 k2 => up2_r k2) (fun j hj => up2_o (fun q => hj q.2)) (fun s m j s1 s2 => oh_up_o (fun q => s2 ⟨q.1, by omega⟩)) (hV.1 (1 - t.toNat) (by omega)).1 ⟨?_, fun j a b => ?_⟩) (FrM_tr (kM_Fr (kR_k k1)) (FrM_up (by decide)))
          · rw [tl_len hn2, et, oh_up_s]
          · rw [tl_len hn2] at b
            rw [oh_up_o (by omega)]
            unfold lenA
            rw [up2_r (by omega)]
            exact (hR1.2.1 t.toNat hn2).2 j a (by omega)
        refine And.intro (by omega) ?_
        rw [hl]
        refine And.intro (by omega) ?_
        have hm : tE t.toNat A * (5 + t) - 1 = tl t.toNat A := hlen.symm
        refine And.intro (fun w => ?_) (fun w => ?_)
        · have h2 : 2 * (5 + t) ≤ tE t.toNat A * (5 + t) := Int.mul_le_mul_of_nonneg_right (by omega) (by omega)
          refine And.intro (by omega) ?_
          refine And.intro (by omega) ?_
          refine And.intro (by omega) ?_
          refine And.intro (by omega) ?_
          exact hfin _ (by omega)
        · have w : tE t.toNat A = 1 := by omega
          rw [w, Int.one_mul] at hm
          refine And.intro (by omega) ?_
          refine And.intro (by omega) ?_
          refine And.intro (by omega) ?_
          refine And.intro (by omega) ?_
          exact hfin _ (by omega)
      · rw [if_pos (by omega)] at h
        exact h μ1 hR1 (kM_Fr (kR_k k1))
    refine And.intro (fun q => ?_) (fun q => ?_)
    · have e : t = 1 := by omega
      subst e
      show G 29 [some (oR 22 0), some (oI 1), none] [oI (μ1 22 0 11)] μ1
      rw [(Rd_n k2).2]
      exact key
    · have e : t = 0 := by omega
      subst e
      show G 29 [some (oR 22 0), some (oI 0), none] [oI (μ1 22 0 8)] μ1
      rw [(Rd_n k2).1]
      exact key
  · have e : s_undo A t = (-2, A) := if_pos (by omega)
    rw [e] at h
    exact h μ hR FrM_rf
