/-! THE MODEL reads grants -/
theorem cg0 {f : Int → Int} {k a b : Int} (hk : 0 ≤ k) (ha : 0 ≤ a ∧ a ≤ 3) : cgo 0 f (5 * k + a) b ↔ (0 ≤ b - 48 ∧ b - 48 < fe 0 f k a) ∧ ¬ (a = 3 ∧ told 0 f k) := by
  have hs : stp 0 = 5 := rfl
  have hl : ldd 0 = 1 := rfl
  have e1 : (5 * k + a) % 5 = a := by omega
  have e2 : (5 * k + a) / 5 = k := by omega
  have ho : onc 0 = 1 := rfl
  unfold cgo
  rw [hs, hl, ho, e1, e2, if_neg (by omega)]
  constructor
  · exact fun q => ⟨q.1, fun z => q.2 ⟨by omega, by omega, z.2⟩⟩
  · exact fun q => ⟨q.1, fun z => q.2 ⟨by omega, z.2.2⟩⟩
theorem cg0_4 {f : Int → Int} {k b : Int} : cgo 0 f (5 * k + 4) b ↔ b = 59 := by
  have hs : stp 0 = 5 := rfl
  unfold cgo
  rw [hs, if_pos (by omega)]
theorem fig0 (f : Int → Int) (k a : Int) : fig 0 f k a = f (5 * k + a) - 48 := by
  unfold fig
  have hs : stp 0 = 5 := rfl
  rw [hs, Int.mul_comm]
theorem fe0 (f : Int → Int) (k : Int) : fe 0 f k 0 = 6 ∧ fe 0 f k 1 = 3 ∧ fe 0 f k 2 = (if f (5 * k + 1) - 48 = 2 then 4 else 10) ∧ fe 0 f k 3 = 6 := by
  have hl : ldd 0 = 1 := rfl
  have hs : lst 0 = 6 := rfl
  refine ⟨?_, ?_, ?_, ?_⟩
  · unfold fe
    rw [hl, if_pos (by omega)]
  · unfold fe
    rw [hl, if_neg (by omega), if_pos rfl]
  · unfold fe
    rw [hl, if_neg (by omega), if_neg (by omega), if_pos (by omega), fig0]
  · unfold fe
    rw [hl, hs, if_neg (by omega), if_neg (by omega), if_neg (by omega)]
def T_X5_readsGrant : Tr := tO0 22 fun n μ Post => ∃ A k, ValA A ∧ RepM A μ ∧ RdG A k μ ∧ 0 ≤ k ∧ μ 22 0 7 = 5 * k ∧ Gd 0 A (5 * k) ∧ ¬ tl 0 A = 0 ∧
  (∀ μ', kG μ μ' → RdG A (k + 1) μ' → μ' 22 0 7 = 5 * k + 4 → Gd 0 A (5 * k + 4) → Post (some (oI 1)) μ') ∧
  (∀ μ', kG μ μ' → flw 0 (tl 0 A) (tB 0 A) = μ' 22 0 7 → tE 0 A = 0 → Post (some (oI 0)) μ')
theorem ok_X5_readsGrant : oh_Ok (pg_X5_readsGrant T_X5_figure T_X5_hour T_X5_isGranted) 4 T_X5_readsGrant := by
  refine tO0_ok fun n μ Post G hG hn hM h => ?_
  obtain rfl := n22 hn
  obtain ⟨A, k, hV, hR, hK, hk0, hat, hgd, hne, hyes, hno⟩ := h
  have hlv := (hV.1 0 (by omega)).1
  have hk20 : k ≤ 19 := by have := hgd.1; omega
  have hs5 : stp 0 = 5 := rfl
  obtain ⟨f0, f1, f2, f3⟩ := fe0 (A 0) k
  have ebo : bo 0 (A 0) k = A 0 (5 * k) - 48 := by
    show fig 0 (A 0) k (1 - 1) = _
    rw [fig0]
    congr 2
    omega
  have eho : ho 0 (A 0) k = 10 * (A 0 (5 * k + 1) - 48) + (A 0 (5 * k + 2) - 48) := by
    show 10 * fig 0 (A 0) k 1 + fig 0 (A 0) k (1 + 1) = _
    rw [fig0, fig0]
    rfl
  have ela : la 0 (A 0) k = A 0 (5 * k + 3) - 48 := by
    show fig 0 (A 0) k (1 + 2) = _
    rw [fig0]
    rfl
  have hfail : ∀ (a : Int) (μ' : Mem), (0 ≤ a ∧ a ≤ 3) → Gd 0 A (5 * k + a) → kG μ μ' → μ' 22 0 7 = 5 * k + a → (5 * k + a < tl 0 A → ¬ ((0 ≤ A 0 (5 * k + a) - 48 ∧ A 0 (5 * k + a) - 48 < fe 0 (A 0) k a) ∧ ¬ (a = 3 ∧ told 0 (A 0) k))) → Post (some (oI 0)) μ' := fun a μ' ha hg hk hp hbad => by
    obtain ⟨b1, b2⟩ := gd_bad hg (fun z y => hbad z ((cg0 hk0 ha).mp y)) (by rw [hs5]; omega) hne
    exact hno μ' hk (by rw [b1, hp]) b2
  refine oh_go hG [] 90 ?_
  have hK1 := hK.1
  refine And.intro (fun _ => ?_) (fun q => absurd (Classical.not_not.mp q) (by omega))
  refine And.intro ⟨A, hV, hR, by omega, by rw [hat]; exact hgd.1, fun ok μ1 k1 => ?_, fun bad => ?_⟩ trivial
  · rw [hat] at ok k1 ⊢
    have ok : 5 * k < tl 0 A ∧ 0 ≤ A 0 (5 * k) - 48 ∧ A 0 (5 * k) - 48 ≤ 5 := ok
    have g1 : Gd 0 A (5 * k + 1) := gd_s hgd ok.1 (by
      have := (cg0 (f := A 0) (b := A 0 (5 * k)) (a := 0) hk0 (by omega)).mpr ⟨by rw [f0]; omega, by omega⟩
      rw [Int.add_zero] at this
      exact this)
    have hR1 := RepM_k hR (atM_k k1)
    refine And.intro (fun _ => ?_) (fun q => absurd (Classical.not_not.mp q) (by omega))
    refine And.intro ⟨A, 5 * k + 1, hV, hR1, by omega, k1.2, g1.1, fun w μ2 k2 => ?_, fun w => ?_, fun w μ2 k2 => ?_⟩ trivial
    · obtain ⟨w1, w2⟩ := w
      have w1 : 5 * k + 1 < tl 0 A ∧ 0 ≤ A 0 (5 * k + 1) - 48 ∧ A 0 (5 * k + 1) - 48 ≤ 2 := w1
      have w2 : 5 * k + 1 + 1 < tl 0 A ∧ 0 ≤ A 0 (5 * k + 1 + 1) - 48 ∧ A 0 (5 * k + 1 + 1) - 48 ≤ if A 0 (5 * k + 1) - 48 = 2 then 3 else 9 := w2
      have e2 : 5 * k + 1 + 1 = 5 * k + 2 := by omega
      have e3 : 5 * k + 1 + 2 = 5 * k + 3 := by omega
      have e33 : 5 * k + 2 + 1 = 5 * k + 3 := by omega
      have g2 := gd_s g1 w1.1 ((cg0 hk0 (by omega)).mpr ⟨by rw [f1]; omega, by omega⟩)
      rw [e2] at w2 g2
      have g3 := gd_s g2 w2.1 ((cg0 hk0 (by omega)).mpr ⟨by rw [f2]; split at w2 <;> split <;> omega, by omega⟩)
      rw [e33] at g3
      rw [e3] at k2
      have hbd : 10 * (A 0 (5 * k + 1) - 48) + (A 0 (5 * k + 2) - 48) ≤ 23 := by
        have := w2.2.2
        split at this <;> omega
      have k12 := atM_tr k1 k2
      have hK2 : RdG A k μ2 := by
        have r := k12.1
        refine ⟨by rw [r _ _ _ (by omega)]; exact hK.1, fun j a b => ?_, fun c a b => ?_⟩
        · rw [r _ _ _ (by omega), r _ _ _ (by omega), r _ _ _ (by omega)]
          exact hK.2.1 j a b
        · rw [r _ _ _ (by omega)]
          exact hK.2.2 c a b
      have hR2 := RepM_k hR (atM_k k12)
      show oh_wp _ Post G _ _ _ _ [oI (10 * (A 0 (5 * k + 1) - 48) + (A 0 (5 * k + 1 + 1) - 48))] μ2
      rw [e2]
      refine And.intro (fun q => absurd q (by omega)) (fun _ => ?_)
      refine And.intro ⟨A, k, hK2, by omega, fun w => ?_, fun w => ?_⟩ trivial
      · refine And.intro (fun y => absurd y (by decide)) (fun _ => ?_)
        refine And.intro (by omega) ?_
        obtain ⟨j, j0, j1, j2, j3⟩ := w
        refine hfail 3 μ2 (by omega) g3 (atM_G k12) k12.2 (fun _ z => z.2 ⟨rfl, j, j0, j1, ?_, ?_⟩)
        · rw [j2, ebo]
          rfl
        · rw [j3, eho]
      · refine And.intro (fun _ => ?_) (fun y => absurd rfl y)
        have hnt : ¬ told 0 (A 0) k := fun ⟨j, j0, j1, j2, j3⟩ => w ⟨j, j0, j1, by rw [j2, ebo]; rfl, by rw [j3, eho]⟩
        refine And.intro ⟨A, hV, hR2, by omega, by rw [k12.2]; exact g3.1, fun v μ3 k3 => ?_, fun v => ?_⟩ trivial
        · rw [k12.2] at v k3 ⊢
          have v : 5 * k + 3 < tl 0 A ∧ 0 ≤ A 0 (5 * k + 3) - 48 ∧ A 0 (5 * k + 3) - 48 ≤ 5 := v
          have e4 : 5 * k + 3 + 1 = 5 * k + 4 := by omega
          have g4 := gd_s g3 v.1 ((cg0 hk0 (by omega)).mpr ⟨by rw [f3]; omega, fun z => hnt z.2⟩)
          rw [e4] at g4 k3
          have k13 := atM_tr k12 k3
          have c8 : μ3 22 0 8 = k := by rw [k13.1 _ _ _ (by omega)]; exact hK.1
          show oh_wp _ Post G _ _ _ _ [oI (A 0 (5 * k + 3) - 48)] μ3
          rw [← ela]
          rw [← ela] at v
          rw [← ebo] at ok
          rw [← eho] at hbd
          have hh0 : 0 ≤ ho 0 (A 0) k := by rw [eho]; omega
          have eB : A (Int.toNat 0) (5 * k) - 48 = bo 0 (A 0) k := ebo.symm
          have eP : A (Int.toNat 0) (5 * k + 3) - 48 = la 0 (A 0) k := ela.symm
          rw [eB, ← eho]
          generalize hBB : bo 0 (A 0) k = B at *
          generalize hHH : ho 0 (A 0) k = H at *
          generalize hPP : la 0 (A 0) k = P at *
          have d1 : ∀ y : Int, oh_up μ3 29 0 (3 * k) y 22 0 8 = k := fun y => by rw [oh_up_o (by omega), c8]
          have d2 : ∀ y z : Int, oh_up (oh_up μ3 29 0 (3 * k) y) 29 0 (3 * k + 1) z 22 0 8 = k := fun y z => by rw [oh_up_o (by omega), d1]
          have d3 : ∀ y z t : Int, oh_up (oh_up (oh_up μ3 29 0 (3 * k) y) 29 0 (3 * k + 1) z) 29 0 (3 * k + 2) t 30 0 = μ3 30 0 := fun y z t => funext fun j => by rw [oh_up_o (by omega), oh_up_o (by omega), oh_up_o (by omega)]
          have d4 : ∀ y z t c u : Int, oh_up (oh_up (oh_up (oh_up μ3 29 0 (3 * k) y) 29 0 (3 * k + 1) z) 29 0 (3 * k + 2) t) 30 0 c u 22 0 8 = k := fun y z t c u => by rw [oh_up_o (by omega), oh_up_o (by omega), d2]
          refine And.intro (fun _ => ?_) (fun q => absurd (Classical.not_not.mp q) (by omega))
          refine And.intro (by rw [c8]; omega) ?_
          rw [c8]
          refine And.intro (by omega) ?_
          refine And.intro (by rw [d1]; omega) ?_
          rw [d1]
          refine And.intro (by omega) ?_
          refine And.intro (by omega) ?_
          refine And.intro (by rw [d2]; omega) ?_
          rw [d2]
          refine And.intro (by omega) ?_
          refine And.intro (by omega) ?_
          refine And.intro (by omega) ?_
          refine And.intro (by omega) ?_
          refine And.intro (by omega) ?_
          refine And.intro (by rw [d4]; omega) ?_
          rw [d4]
          refine And.intro (by omega) ?_
          refine hyes _ (kG_tr (atM_G k13) (fun s n j hs => ?_)) ⟨oh_up_s, fun j a b => ?_, fun c a b => ?_⟩ ?_ g4
          · rw [oh_up_o (by omega), oh_up_o (by omega), oh_up_o (by omega), oh_up_o (by omega), oh_up_o (by omega)]
          · by_cases e : j = k
            · rw [e, hBB, hHH, hPP]
              refine ⟨?_, ?_, ?_⟩
              · rw [oh_up_o (by omega), oh_up_o (by omega), oh_up_o (by omega), oh_up_o (by omega), oh_up_s]
              · rw [oh_up_o (by omega), oh_up_o (by omega), oh_up_o (by omega), oh_up_s]
              · rw [oh_up_o (by omega), oh_up_o (by omega), oh_up_s]
            · have r : ∀ i, ¬ i = 3 * k → ¬ i = 3 * k + 1 → ¬ i = 3 * k + 2 → oh_up (oh_up (oh_up (oh_up (oh_up μ3 29 0 (3 * k) B) 29 0 (3 * k + 1) H) 29 0 (3 * k + 2) P) 30 0 (24 * B + H) P) 22 0 8 (k + 1) 29 0 i = μ 29 0 i := fun i i1 i2 i3 => by
                rw [oh_up_o (by omega), oh_up_o (by omega), oh_up_o (by omega), oh_up_o (by omega), oh_up_o (by omega), k13.1 _ _ _ (by omega)]
              rw [r _ (by omega) (by omega) (by omega), r _ (by omega) (by omega) (by omega), r _ (by omega) (by omega) (by omega)]
              exact hK.2.1 j a (by omega)
          · rw [own_s _ hk0, hBB, hHH, hPP, oh_up_o (by omega)]
            by_cases e : c = B * 24 + H
            · rw [if_pos e]
              have e2 : c = 24 * B + H := by omega
              rw [e2, oh_up_s]
            · rw [if_neg e, oh_up_o (by omega), d3, k13.1 _ _ _ (by omega)]
              exact hK.2.2 c a b
          · rw [oh_up_o (by omega), oh_up_o (by omega), oh_up_o (by omega), oh_up_o (by omega), oh_up_o (by omega)]
            exact k13.2
        · rw [k12.2] at v
          have v : ¬ (5 * k + 3 < tl 0 A ∧ 0 ≤ A 0 (5 * k + 3) - 48 ∧ A 0 (5 * k + 3) - 48 ≤ 5) := v
          refine And.intro (fun y => absurd rfl y) (fun _ => ?_)
          refine And.intro (by omega) ?_
          refine hfail 3 μ2 (by omega) g3 (atM_G k12) k12.2 (fun z y => v ?_)
          rw [f3] at y
          omega
    · have w : ¬ (5 * k + 1 < tl 0 A ∧ 0 ≤ A 0 (5 * k + 1) - 48 ∧ A 0 (5 * k + 1) - 48 ≤ 2) := w
      refine And.intro (fun _ => ?_) (fun y => absurd rfl y)
      refine And.intro (by omega) ?_
      refine hfail 1 μ1 (by omega) g1 (atM_G k1) k1.2 (fun z y => w ?_)
      rw [f1] at y
      omega
    · obtain ⟨w1, w2⟩ := w
      have w1 : 5 * k + 1 < tl 0 A ∧ 0 ≤ A 0 (5 * k + 1) - 48 ∧ A 0 (5 * k + 1) - 48 ≤ 2 := w1
      have w2 : ¬ (5 * k + 1 + 1 < tl 0 A ∧ 0 ≤ A 0 (5 * k + 1 + 1) - 48 ∧ A 0 (5 * k + 1 + 1) - 48 ≤ if A 0 (5 * k + 1) - 48 = 2 then 3 else 9) := w2
      have e2 : 5 * k + 1 + 1 = 5 * k + 2 := by omega
      have g2 := gd_s g1 w1.1 ((cg0 hk0 (by omega)).mpr ⟨by rw [f1]; omega, by omega⟩)
      rw [e2] at w2 g2 k2
      have k12 := atM_tr k1 k2
      refine And.intro (fun _ => ?_) (fun y => absurd rfl y)
      refine And.intro (by omega) ?_
      refine hfail 2 μ2 (by omega) g2 (atM_G k12) k12.2 (fun z y => w2 ⟨z, y.1.1, ?_⟩)
      have := y.1.2
      rw [f2] at this
      split at this <;> split <;> omega
  · rw [hat] at bad
    have bad : ¬ (5 * k < tl 0 A ∧ 0 ≤ A 0 (5 * k) - 48 ∧ A 0 (5 * k) - 48 ≤ 5) := bad
    refine And.intro (fun y => absurd rfl y) (fun _ => ?_)
    refine And.intro (fun _ => ?_) (fun y => absurd rfl y)
    refine And.intro (by omega) ?_
    refine hfail 0 μ (by omega) (by rw [Int.add_zero]; exact hgd) kG_rf (by rw [hat]; omega) (fun z y => bad ?_)
    rw [Int.add_zero, f0] at *
    omega
theorem gd_bad2 {t : Nat} {A : Ab} {p : Int} (h : Gd t A p) (h0 : p < tl t A) (h1 : ¬ cgo t (A t) p (A t p)) : flw t (tl t A) (tB t A) = p ∧ tE t A = 0 := by
  have hp := h.1
  have hb : brk t (A t) (p + 1).toNat = p := by
    rw [brk_sc hp.1, if_pos h.2, oh_if_f h1]
  have hB : tB t A = p := by
    unfold tB
    have := brk_stay (by omega) hb ((tl t A).toNat - (p + 1).toNat)
    rw [show (p + 1).toNat + ((tl t A).toNat - (p + 1).toNat) = (tl t A).toNat by omega] at this
    exact this
  have hf : flw t (tl t A) (tB t A) = p := by
    unfold flw
    rw [hB, if_pos (by omega)]
  refine ⟨hf, ?_⟩
  unfold tE ents
  rw [hf, if_neg (by omega)]
def T_X5_readsGrants : Tr := tO0 22 fun n μ Post => ∃ A, ValA A ∧ RepM A μ ∧ ∀ μ', kG μ μ' → RdG A (tE 0 A) μ' → Post (some (oI (flw 0 (tl 0 A) (tB 0 A)))) μ'
theorem ok_X5_readsGrants : oh_Ok (pg_X5_readsGrants T_X5_nobodyGrants T_X5_readsGrant) 3 T_X5_readsGrants := by
  refine tO0_ok fun n μ Post G hG hn hM h => ?_
  obtain rfl := n22 hn
  obtain ⟨A, hV, hR, h⟩ := h
  have hlv := (hV.1 0 (by omega)).1
  have hlen : ∀ μ', kG μ μ' → μ' 28 0 0 = tl 0 A := fun μ' hk => by
    rw [hk _ _ _ (by omega)]
    exact (hR.2.1 0 (by omega)).1
  have hbad : ∀ (μ' : Mem) (x : Option AV) (y : Option AV), kG μ μ' → flw 0 (tl 0 A) (tB 0 A) = μ' 22 0 7 → tE 0 A = 0 → G 78 [some (oR 22 0), x, y] [] μ' := fun μ' x y hk hf he => by
    refine oh_go hG [(24, 2)] 40 ?_
    refine And.intro (fun μ2 k1 k2 k3 k4 => ?_) trivial
    rw [hf, he] at h
    show Post (some (oI (μ2 22 0 7))) μ2
    rw [k2]
    exact h μ2 (kG_tr hk k1) ⟨k3, fun j a b => absurd b (by omega), fun c a b => by rw [k4 c a b]; rfl⟩
  have key : ∀ (m : Nat) (k : Int) (μ1 : Mem), 0 ≤ k → k + m = 20 → kG μ μ1 → RdG A k μ1 → μ1 22 0 7 = 5 * k → Gd 0 A (5 * k) → ¬ tl 0 A = 0 → G 24 [some (oR 22 0), some (oI 1), none] [] μ1 := by
    intro m
    induction m with
    | zero =>
      intro k μ1 k0 k1 g1 g2 g3 g4 hne
      have := g4.1
      omega
    | succ m ih =>
      intro k μ1 k0 k1 g1 g2 g3 g4 hne
      refine oh_go hG [(24, 2), (78, 3)] 40 ?_
      refine And.intro (fun q => absurd q (by decide)) (fun _ => ?_)
      refine And.intro ⟨A, k, hV, RepM_k hR (kG_k g1), g2, k0, g3, g4, hne, fun μ2 j1 j2 j3 j4 => ?_, fun μ2 j1 j2 j3 => ?_⟩ trivial
      · have h12 := kG_tr g1 j1
        refine And.intro (fun q => absurd q (by decide)) (fun _ => ?_)
        refine And.intro (by omega) ?_
        rw [hlen μ2 h12, j3]
        have hg4 := j4.1
        refine And.intro (fun q => ?_) (fun q => ?_)
        · refine And.intro (fun y => absurd y (by decide)) (fun _ => ?_)
          refine And.intro (fun _ => ?_) (fun y => absurd rfl y)
          refine And.intro (fun _ => ?_) (fun y => absurd rfl y)
          refine And.intro (by rw [j3]; omega) ?_
          rw [j3]
          refine oh_go hG [] 20 ?_
          have et : tl 0 A = 5 * k + 4 := by omega
          have j4 := j4
          rw [← et] at j4
          obtain ⟨e1, e2⟩ := gd_end (k := k) j4 (by rw [et]; show 5 * k + 4 = k * 5 + (5 - 1); omega)
          refine And.intro (fun _ => ?_) (fun y => absurd rfl y)
          rw [e1, e2] at h
          refine h _ (kG_tr h12 (fun s n j hs => oh_up_o (fun z => hs (by omega)))) ⟨?_, fun j a b => ?_, fun c a b => ?_⟩
          · rw [oh_up_o (by omega)]
            exact j2.1
          · rw [oh_up_o (by omega), oh_up_o (by omega), oh_up_o (by omega)]
            exact j2.2.1 j a b
          · rw [oh_up_o (by omega)]
            exact j2.2.2 c a b
        · refine And.intro (fun y => absurd y (by decide)) (fun _ => ?_)
          refine And.intro (fun y => absurd y (by decide)) (fun _ => ?_)
          refine And.intro (by rw [j3]; omega) ?_
          have eb : μ2 27 0 (5 * k + 4) = A 0 (5 * k + 4) := by
            rw [h12 _ _ _ (by omega)]
            have := (hR.2.1 0 (by omega)).2 (5 * k + 4) (by omega) (by omega)
            rw [show 99 * ((0 : Nat) : Int) + (5 * k + 4) = 5 * k + 4 by omega] at this
            exact this
          rw [j3, eb]
          refine And.intro (fun w => ?_) (fun w => ?_)
          · refine And.intro (fun y => absurd y (by decide)) (fun _ => ?_)
            refine And.intro (by rw [j3]; omega) ?_
            rw [j3]
            have g5 := gd_s j4 (by omega) (cg0_4.mpr w)
            have e5 : 5 * k + 4 + 1 = 5 * (k + 1) := by omega
            rw [e5] at g5 ⊢
            refine ih (k + 1) _ (by omega) (by omega) (kG_tr h12 (fun s n j hs => oh_up_o (fun z => hs (by omega)))) ⟨?_, fun j a b => ?_, fun c a b => ?_⟩ oh_up_s g5 hne
            · rw [oh_up_o (by omega)]
              exact j2.1
            · rw [oh_up_o (by omega), oh_up_o (by omega), oh_up_o (by omega)]
              exact j2.2.1 j a b
            · rw [oh_up_o (by omega)]
              exact j2.2.2 c a b
          · obtain ⟨b1, b2⟩ := gd_bad2 j4 (by omega) (fun z => w (cg0_4.mp z))
            exact hbad μ2 _ _ h12 (by rw [b1, j3]) b2
      · have h12 := kG_tr g1 j1
        refine And.intro (fun _ => ?_) (fun y => absurd rfl y)
        refine And.intro (fun _ => ?_) (fun y => absurd rfl y)
        exact hbad μ2 _ _ h12 j2 j3
  refine oh_go hG [(24, 2)] 20 ?_
  refine And.intro (fun μ1 k1 k2 k3 k4 => ?_) trivial
  have h1 : kG μ μ1 := kG_tr (fun s n j hs => oh_up_o (fun z => hs (by omega))) k1
  have c7 : μ1 22 0 7 = 0 := by
    rw [k2]
    exact oh_up_s
  have hK0 : RdG A 0 μ1 := ⟨k3, fun j a b => absurd b (by omega), fun c a b => by rw [k4 c a b]; rfl⟩
  refine And.intro (by omega) ?_
  rw [hlen μ1 h1]
  refine And.intro (fun q => ?_) (fun q => ?_)
  · refine oh_go hG [] 20 ?_
    obtain ⟨e1, e2⟩ := gd_none (t := 0) (A := A) (by omega)
    refine And.intro (fun _ => ?_) (fun y => absurd rfl y)
    rw [e1, e2] at h
    exact h μ1 h1 hK0
  · exact key 20 0 μ1 (by omega) (by omega) h1 hK0 c7 (gd_0 (by omega)) (by omega)
