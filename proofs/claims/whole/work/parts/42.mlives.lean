/-! THE MODEL lives a day -/
def Lv (A : Ab) (l : Int) (μ : Mem) : Prop := (∀ o, 0 ≤ o → o < tE 1 A → μ 35 0 o = if dnA A l o = true then 1 else 0) ∧ ∀ c, 0 ≤ c → c < 144 → μ 36 0 c = cD A l c ∧ μ 37 0 c = cP A l c ∧ μ 38 0 c = cT A l c
def kL (μ μ' : Mem) : Prop := ∀ s n j, ¬ (34 ≤ s ∧ s ≤ 38) → μ' s n j = μ s n j
theorem kL_rf {μ : Mem} : kL μ μ := fun _ _ _ _ => rfl
theorem kL_tr {μ μ1 μ2 : Mem} (h : kL μ μ1) (h' : kL μ1 μ2) : kL μ μ2 := fun s n j hs => (h' s n j hs).trans (h s n j hs)
theorem kL_k {μ μ1 : Mem} (h : kL μ μ1) : kM μ μ1 := fun s n j hs => h s n j (fun z => hs (by unfold scr; omega))
theorem kL_row {μ μ1 : Mem} (h : kL μ μ1) {s : Nat} (hs : ¬ (34 ≤ s ∧ s ≤ 38)) (n : Nat) : μ1 s n = μ s n := funext fun j => h s n j hs
theorem kL_up {μ : Mem} {s n : Nat} {j v : Int} (h : 34 ≤ s ∧ s ≤ 38) : kL μ (oh_up μ s n j v) := fun s' m j' hs => oh_up_o (fun q => hs (by rw [q.1]; exact h))
theorem Ki_L {A : Ab} {μ μ1 : Mem} (h : Ki A μ) (k : kL μ μ1) : Ki A μ1 := ⟨h.1, RepM_k h.2.1 (kL_k k), RdG_keep h.2.2.1 (by rw [kL_row k (by omega)]) (kL_row k (by omega) 0) (kL_row k (by omega) 0), RdO_keep h.2.2.2 (by rw [kL_row k (by omega)]) (kL_row k (by omega) 0)⟩
/-- which order is done in each cell, after o orders -/
def DO (A : Ab) (l o : Int) (μ : Mem) : Prop := (∀ c, 0 ≤ c → c < 144 → (μ 34 0 c = -1 ∧ dd (Aw (aw A) l) (A 1) o.toNat c = -1) ∨ ((0 ≤ μ 34 0 c ∧ μ 34 0 c < o) ∧ dd (Aw (aw A) l) (A 1) o.toNat c = la 1 (A 1) (μ 34 0 c))) ∧ ∀ q, 0 ≤ q → q < o → μ 35 0 q = if dnA A l q = true then 1 else 0
theorem dd_s {a f : Int → Int} {o : Int} (h : 0 ≤ o) (c : Int) : dd a f (o + 1).toNat c = if c = oc f o ∧ a c = fi 1 f o ∧ dd a f o.toNat c = -1 then la 1 f o else dd a f o.toNat c := by
  have e : (o + 1).toNat = o.toNat + 1 := by omega
  have e2 : ((o.toNat : Nat) : Int) = o := by omega
  rw [e]
  show (if c = oc f (o.toNat : Int) ∧ a c = fi 1 f (o.toNat : Int) ∧ dd a f o.toNat c = -1 then la 1 f (o.toNat : Int) else dd a f o.toNat c) = _
  rw [e2]
theorem or_at {A : Ab} {μ : Mem} (hK : Ki A μ) {o : Int} (h0 : 0 ≤ o) (h1 : o < tE 1 A) : (μ 31 0 (4 * o) = fi 1 (A 1) o ∧ μ 31 0 (4 * o + 1) = bo 1 (A 1) o ∧ μ 31 0 (4 * o + 2) = ho 1 (A 1) o ∧ μ 31 0 (4 * o + 3) = la 1 (A 1) o) ∧ (0 ≤ bo 1 (A 1) o ∧ bo 1 (A 1) o ≤ 5) ∧ (0 ≤ ho 1 (A 1) o ∧ ho 1 (A 1) o ≤ 23) ∧ (0 ≤ la 1 (A 1) o ∧ la 1 (A 1) o ≤ 4) := by
  obtain ⟨-, e2, e3, e4, -⟩ := ent_ok (hK.1.1 1 (by omega)).1 h0 h1
  have hs : lst 1 = 5 := rfl
  exact ⟨hK.2.2.2.2 o h0 h1, e2, e3, by omega⟩
def T_X5_lives : Tr := tO1 22 fun n l μ Post => ∃ A, Ki A μ ∧ (0 ≤ l ∧ l ≤ 2) ∧ ∀ μ', kL μ μ' → Lv A l μ' → Post none μ'
theorem ok_X5_lives : oh_Ok (pg_X5_lives T_X5_actsBy T_X5_more T_X5_greater T_X5_lesser) 8 T_X5_lives := by
  refine tO1_ok fun n l μ Post G hG hn hl hM h => ?_
  obtain rfl := n22 hn
  obtain ⟨A, hK, hl2, h⟩ := h
  have hE := tE_rg (hK.1.1 1 (by omega)).1
  have kO : ∀ μ', kL μ μ' → μ' 22 0 11 = tE 1 A := fun μ' k => by
    rw [k _ _ _ (by omega)]
    exact (Rd_n hK.2.2).2
  have hfin : ∀ μ', kL μ μ' → (∀ q, 0 ≤ q → q < tE 1 A → μ' 35 0 q = if dnA A l q = true then 1 else 0) → (∀ c, 0 ≤ c → c < 144 → μ' 36 0 c = cD A l c ∧ μ' 37 0 c = cP A l c ∧ μ' 38 0 c = cT A l c) → Post none μ' := fun μ' k h1 h2 => h μ' k ⟨h1, h2⟩
  have k135 : ∀ b, 0 ≤ b → b ≤ 6 → ∀ μ1, kL μ μ1 → DO A l (tE 1 A) μ1 → (∀ c, 0 ≤ c → c < b * 24 → μ1 36 0 c = cD A l c ∧ μ1 37 0 c = cP A l c ∧ μ1 38 0 c = cT A l c) → G 135 [some (oR 22 0), some (oI l), some (oI b), none, none, none, none, none] [] μ1 := by
    refine oh_for (F := fun b => 0 ≤ b → b ≤ 6 → ∀ μ1, kL μ μ1 → DO A l (tE 1 A) μ1 → (∀ c, 0 ≤ c → c < b * 24 → μ1 36 0 c = cD A l c ∧ μ1 37 0 c = cP A l c ∧ μ1 38 0 c = cT A l c) → G 135 [some (oR 22 0), some (oI l), some (oI b), none, none, none, none, none] [] μ1) 6 ?_ ?_
    · intro b hb h0 h1 μ1 g1 g2 g3
      refine oh_go hG [(154, 6)] 40 ?_
      exact And.intro (fun _ => hfin μ1 g1 g2.2 (fun c a d => g3 c a (by omega))) (fun q => absurd hb q)
    · intro b hb ih h0 h1 μ1 g1 g2 g3
      have ih := ih (by omega) (by omega)
      have hhome := hK.1.2.1 b h0 hb
      have ehome : μ1 32 0 b = A 3 b := by
        rw [g1 _ _ _ (by omega)]
        exact hK.2.1.2.2.1 b h0 hb
      have k154 : ∀ x, 0 ≤ x → x ≤ 24 → ∀ μ2, kL μ μ2 → DO A l (tE 1 A) μ2 → (∀ c, 0 ≤ c → c < b * 24 + x → μ2 36 0 c = cD A l c ∧ μ2 37 0 c = cP A l c ∧ μ2 38 0 c = cT A l c) → G 154 [some (oR 22 0), some (oI l), some (oI b), some (oI (dy (ddA A l) b (A 3 b) x.toNat).1), some (oI (dy (ddA A l) b (A 3 b) x.toNat).2), some (oI x), none, none] [] μ2 := by
        refine oh_for (F := fun x => 0 ≤ x → x ≤ 24 → ∀ μ2, kL μ μ2 → DO A l (tE 1 A) μ2 → (∀ c, 0 ≤ c → c < b * 24 + x → μ2 36 0 c = cD A l c ∧ μ2 37 0 c = cP A l c ∧ μ2 38 0 c = cT A l c) → G 154 [some (oR 22 0), some (oI l), some (oI b), some (oI (dy (ddA A l) b (A 3 b) x.toNat).1), some (oI (dy (ddA A l) b (A 3 b) x.toNat).2), some (oI x), none, none] [] μ2) 24 ?_ ?_
        · intro x hx x0 x1 μ2 j1 j2 j3
          refine oh_go hG [(154, 6), (135, 3)] 40 ?_
          refine And.intro (fun _ => ?_) (fun q => absurd hx q)
          refine And.intro (by omega) ?_
          exact ih μ2 j1 j2 (fun c a d => j3 c a (by omega))
        · intro x hx ih2 x0 x1 μ2 j1 j2 j3
          have ih2 := ih2 (by omega) (by omega)
          obtain ⟨d1, d2⟩ := dy_rg (d := ddA A l) (b := b) hhome x.toNat
          have ex : ((x.toNat : Nat) : Int) = x := by omega
          have ex1 : (x + 1).toNat = x.toNat + 1 := by omega
          have ec : 24 * b + x = b * 24 + x := by omega
          have edy : dy (ddA A l) b (A 3 b) (x + 1).toNat = (nxp (de (ddA A l) (b * 24 + x) (dy (ddA A l) b (A 3 b) x.toNat).2) (dy (ddA A l) b (A 3 b) x.toNat).1, max 0 ((dy (ddA A l) b (A 3 b) x.toNat).2 + oh_toil (de (ddA A l) (b * 24 + x) (dy (ddA A l) b (A 3 b) x.toNat).2))) := by
            rw [ex1]
            show (nxp (de (ddA A l) (b * 24 + (x.toNat : Int)) _) _, max 0 (_ + oh_toil (de (ddA A l) (b * 24 + (x.toNat : Int)) _))) = _
            rw [ex]
          have eD : cD A l (b * 24 + x) = de (ddA A l) (b * 24 + x) (dy (ddA A l) b (A 3 b) x.toNat).2 := by
            unfold cD dee
            rw [show (b * 24 + x) / 24 = b by omega, show (b * 24 + x) % 24 = x by omega]
          have eP : cP A l (b * 24 + x) = (dy (ddA A l) b (A 3 b) (x + 1).toNat).1 := by
            unfold cP pla
            rw [show (b * 24 + x) / 24 = b by omega, show (b * 24 + x) % 24 = x by omega, ex1]
          have eT : cT A l (b * 24 + x) = (dy (ddA A l) b (A 3 b) (x + 1).toNat).2 := by
            unfold cT tir
            rw [show (b * 24 + x) / 24 = b by omega, show (b * 24 + x) % 24 = x by omega, ex1]
          rw [edy] at eP eT
          have hdo := j2.1 (b * 24 + x) (by omega) (by omega)
          have hdd : ddA A l (b * 24 + x) = dd (Aw (aw A) l) (A 1) (tE 1 A).toNat (b * 24 + x) := rfl
          rw [← hdd] at hdo
          rw [edy] at ih2
          generalize (dy (ddA A l) b (A 3 b) x.toNat).1 = P at *
          generalize (dy (ddA A l) b (A 3 b) x.toNat).2 = W at *
          have hdr : -1 ≤ ddA A l (b * 24 + x) ∧ ddA A l (b * 24 + x) ≤ 4 := dd_rg _ (fun j a c => (or_at hK a (by omega)).2.2.2)
          have hder := de_rg (d := ddA A l) (c := b * 24 + x) (wr := W) hdr
          have hdew := de_wr (d := ddA A l) (c := b * 24 + x) d2.2
          have htl := fun e => toil_rg e
          have end_ : ∀ (e0 : Int), e0 = (if ddA A l (b * 24 + x) = -1 then 0 else ddA A l (b * 24 + x)) → G 201 [some (oR 22 0), some (oI l), some (oI b), some (oI P), some (oI W), some (oI x), some (oI (b * 24 + x)), none] [oI e0] μ2 := fun e0 he0 => by
            have hde : de (ddA A l) (b * 24 + x) W = if 9 < W + oh_toil e0 then 0 else e0 := by
              unfold de
              rw [← he0]
            have end2 : ∀ P' W' : Int, P' = nxp (de (ddA A l) (b * 24 + x) W) P → W' = max 0 (W + oh_toil (de (ddA A l) (b * 24 + x) W)) → G 272 [some (oR 22 0), some (oI l), some (oI b), some (oI P), some (oI W'), some (oI x), some (oI (b * 24 + x)), some (oI (de (ddA A l) (b * 24 + x) W))] [oI P'] μ2 := fun P' W' hP hW => by
              refine oh_go hG [(154, 6)] 60 ?_
              refine And.intro (by omega) ?_
              refine And.intro (by omega) ?_
              refine And.intro (by omega) ?_
              refine And.intro (by omega) ?_
              rw [hP, hW]
              refine ih2 _ (kL_tr j1 (kL_tr (kL_tr (kL_up (by omega)) (kL_up (by omega))) (kL_up (by omega)))) ⟨fun c a d => ?_, fun q a d => ?_⟩ (fun c a d => ?_)
              · rw [oh_up_o (by omega), oh_up_o (by omega), oh_up_o (by omega)]
                exact j2.1 c a d
              · rw [oh_up_o (by omega), oh_up_o (by omega), oh_up_o (by omega)]
                exact j2.2 q a d
              · by_cases e : c = b * 24 + x
                · subst e
                  refine ⟨?_, ?_, ?_⟩
                  · rw [oh_up_o (by omega), oh_up_o (by omega), oh_up_s, eD]
                  · rw [oh_up_o (by omega), oh_up_s, eP]
                  · rw [oh_up_s, eT]
                · rw [oh_up_o (by omega), oh_up_o (by omega), oh_up_o (by omega), oh_up_o (by omega), oh_up_o (by omega), oh_up_o (by omega), oh_up_o (by omega), oh_up_o (by omega), oh_up_o (by omega)]
                  exact j3 c a (by omega)
            have end1 : G 222 [some (oR 22 0), some (oI l), some (oI b), some (oI P), some (oI W), some (oI x), some (oI (b * 24 + x)), none] [oI (de (ddA A l) (b * 24 + x) W)] μ2 := by
              have t1 := htl (de (ddA A l) (b * 24 + x) W)
              have hmc : max (W + oh_toil (de (ddA A l) (b * 24 + x) W)) 0 = max 0 (W + oh_toil (de (ddA A l) (b * 24 + x) W)) := Int.max_comm _ _
              refine oh_go hG [(272, 8)] 60 ?_
              refine And.intro ?_ trivial
              refine And.intro (by omega) ?_
              refine And.intro ?_ trivial
              refine And.intro (fun q => ?_) (fun q => ?_)
              · refine And.intro (fun w => ?_) (fun w => ?_)
                · refine end2 P _ ?_ hmc
                  unfold nxp
                  rw [if_neg q, if_neg w]
                · refine And.intro (by omega) ?_
                  refine And.intro ?_ trivial
                  refine end2 (max (P - 1) 0) _ ?_ hmc
                  unfold nxp
                  rw [if_neg q, if_pos (Classical.not_not.mp w), Int.max_comm]
              · refine And.intro (by omega) ?_
                refine And.intro ?_ trivial
                refine end2 (min (P + 1) 9) _ ?_ hmc
                unfold nxp
                rw [if_pos (Classical.not_not.mp q), Int.min_comm]
            have t0 := htl e0
            refine oh_go hG [(222, 7)] 40 ?_
            refine And.intro ?_ trivial
            refine And.intro (by omega) ?_
            refine And.intro (fun q => ?_) (fun q => ?_)
            · rw [if_neg (by omega)] at hde
              rw [← hde]
              exact end1
            · rw [if_pos (by omega)] at hde
              rw [hde] at end1
              exact end1
          refine oh_go hG [(201, 7)] 60 ?_
          refine And.intro (fun q => absurd q (by omega)) (fun _ => ?_)
          refine And.intro (by omega) ?_
          refine And.intro (by omega) ?_
          refine And.intro (by omega) ?_
          rw [ec]
          rcases hdo with ⟨z1, z2⟩ | ⟨z1, z2⟩
          · refine And.intro (fun q => absurd z1 q) (fun _ => ?_)
            exact end_ 0 (by rw [if_pos z2])
          · obtain ⟨⟨o1, o2, o3, o4⟩, o5, o6, o7⟩ := or_at (Ki_L hK j1) z1.1 z1.2
            refine And.intro (fun _ => ?_) (fun q => absurd (Classical.not_not.mp q) (by omega))
            refine And.intro (by omega) ?_
            refine And.intro (by omega) ?_
            refine And.intro (by omega) ?_
            refine And.intro (by omega) ?_
            rw [o4]
            exact end_ _ (by rw [z2, if_neg (by omega)])
      refine oh_go hG [(154, 6)] 40 ?_
      refine And.intro (fun q => absurd q (by omega)) (fun _ => ?_)
      refine And.intro (by omega) ?_
      rw [ehome]
      exact k154 0 (by omega) (by omega) μ1 g1 g2 (fun c a d => g3 c a (by omega))
  have k24 : ∀ (m : Nat) (o : Int) (μ1 : Mem) (r : Option AV), 0 ≤ o → o + m = tE 1 A → kL μ μ1 → DO A l o μ1 → G 24 [some (oR 22 0), some (oI l), some (oI o), r, none, none, none, none] [] μ1 := by
    intro m
    induction m with
    | zero =>
      intro o μ1 r h0 h1 g1 g2
      have e : o = tE 1 A := by omega
      have c11 := kO μ1 g1
      refine oh_go hG [(24, 4), (135, 3)] 60 ?_
      refine And.intro (fun _ => ?_) (fun q => absurd q (by omega))
      rw [e] at g2
      exact k135 0 (by omega) (by omega) μ1 g1 g2 (fun c a d => absurd d (by omega))
    | succ m ih =>
      intro o μ1 r h0 h1 g1 g2
      have c11 := kO μ1 g1
      have hK1 := Ki_L hK g1
      obtain ⟨⟨o1, o2, o3, o4⟩, o5, o6, o7⟩ := or_at hK1 h0 (by omega)
      have eoc : oc (A 1) o = 24 * bo 1 (A 1) o + ho 1 (A 1) o := by
        unfold oc
        omega
      have hc : 0 ≤ oc (A 1) o ∧ oc (A 1) o < 144 := by omega
      have hdo := g2.1 (oc (A 1) o) hc.1 hc.2
      have hla : ∀ q, 0 ≤ q → q < o → 0 ≤ la 1 (A 1) q := fun q a d => (or_at hK1 a (by omega)).2.2.2.1
      have hiff : μ1 34 0 (oc (A 1) o) = -1 ↔ dd (Aw (aw A) l) (A 1) o.toNat (oc (A 1) o) = -1 := by
        rcases hdo with ⟨z1, z2⟩ | ⟨z1, z2⟩
        · exact ⟨fun _ => z2, fun _ => z1⟩
        · have := hla _ z1.1 z1.2
          exact ⟨fun y => by omega, fun y => by omega⟩
      have hdn : dnA A l o = decide (Aw (aw A) l (oc (A 1) o) = fi 1 (A 1) o ∧ dd (Aw (aw A) l) (A 1) o.toNat (oc (A 1) o) = -1) := rfl
      have hres : ∀ v : Int, v = (if dnA A l o = true then 1 else 0) → G 101 [some (oR 22 0), some (oI l), some (oI o), some (oI (oc (A 1) o)), none, none, none, none] [oI v, oI o, oR 35 0] μ1 := fun v hv => by
        have hv01 : 0 ≤ v ∧ v ≤ 1 := by
          rw [hv]
          split <;> omega
        have m34 : oh_up μ1 35 0 o v 34 0 = μ1 34 0 := funext fun j => oh_up_o (by omega)
        refine oh_go hG [(24, 4)] 60 ?_
        refine And.intro (by omega) ?_
        refine And.intro hv01 ?_
        refine And.intro (by omega) ?_
        rw [oh_up_s]
        have hnext : ∀ u : Int, (dnA A l o = true ∧ u = o ∨ ¬ dnA A l o = true ∧ u = μ1 34 0 (oc (A 1) o)) → DO A l (o + 1) (oh_up (oh_up μ1 35 0 o v) 34 0 (oc (A 1) o) u) := fun u hu => by
          refine ⟨fun c a d => ?_, fun q a d => ?_⟩
          · rw [dd_s h0]
            by_cases e : c = oc (A 1) o
            · subst e
              rw [oh_up_s]
              rcases hu with ⟨u1, u2⟩ | ⟨u1, u2⟩
              · rw [hdn, decide_eq_true_eq] at u1
                rw [if_pos ⟨rfl, u1⟩, u2]
                exact Or.inr ⟨by omega, rfl⟩
              · rw [hdn, decide_eq_true_eq] at u1
                rw [if_neg (fun z => u1 z.2), u2]
                rcases hdo with ⟨z1, z2⟩ | ⟨z1, z2⟩
                · exact Or.inl ⟨z1, z2⟩
                · exact Or.inr ⟨by omega, z2⟩
            · rw [if_neg (fun z => e z.1), oh_up_o (fun z => e z.2.2), m34]
              rcases g2.1 c a d with ⟨z1, z2⟩ | ⟨z1, z2⟩
              · exact Or.inl ⟨z1, z2⟩
              · exact Or.inr ⟨by omega, z2⟩
          · rw [oh_up_o (by omega)]
            by_cases e : q = o
            · rw [e, oh_up_s, hv]
            · rw [oh_up_o (fun z => e z.2.2)]
              exact g2.2 q a (by omega)
        have hkl : ∀ u : Int, kL μ (oh_up (oh_up μ1 35 0 o v) 34 0 (oc (A 1) o) u) := fun u => kL_tr g1 (kL_tr (kL_up (by omega)) (kL_up (by omega)))
        refine And.intro (fun q => ?_) (fun q => ?_)
        · have hn : ¬ dnA A l o = true := fun z => by
            rw [if_pos z] at hv
            omega
          refine And.intro (by omega) ?_
          refine And.intro (by omega) ?_
          refine And.intro (by omega) ?_
          rw [m34]
          exact ih (o + 1) _ _ (by omega) (by omega) (hkl _) (hnext _ (Or.inr ⟨hn, rfl⟩))
        · have hy : dnA A l o = true := Classical.byContradiction fun z => by
            rw [if_neg z] at hv
            omega
          refine And.intro (by omega) ?_
          refine And.intro (by omega) ?_
          exact ih (o + 1) _ _ (by omega) (by omega) (hkl _) (hnext _ (Or.inl ⟨hy, rfl⟩))
      refine oh_go hG [(24, 4), (101, 4)] 60 ?_
      refine And.intro (fun q => absurd q (by omega)) (fun _ => ?_)
      refine And.intro (by omega) ?_
      refine And.intro (by omega) ?_
      refine And.intro (by omega) ?_
      rw [o2]
      refine And.intro (by omega) ?_
      refine And.intro (by omega) ?_
      refine And.intro (by omega) ?_
      refine And.intro (by omega) ?_
      rw [o3]
      refine And.intro (by omega) ?_
      rw [← eoc]
      refine And.intro (by omega) ?_
      refine And.intro (fun q => ?_) (fun q => ?_)
      · refine hres 0 ?_
        rw [if_neg]
        rw [hdn, decide_eq_true_eq]
        exact fun z => q (hiff.mpr z.2)
      · have q := hiff.mp (Classical.not_not.mp q)
        refine And.intro (by omega) ?_
        refine And.intro (by omega) ?_
        refine And.intro ⟨⟨(ki_tok hK1).2, hl2, by omega, by omega⟩, ?_⟩ trivial
        rw [ki_act hK1 (by omega) (by omega)]
        refine And.intro (by omega) ?_
        refine And.intro (by omega) ?_
        rw [o1]
        refine And.intro (fun w => ?_) (fun w => ?_)
        · refine hres 0 ?_
          rw [if_neg]
          rw [hdn, decide_eq_true_eq]
          exact fun z => w z.1
        · refine hres 1 ?_
          rw [if_pos]
          rw [hdn, decide_eq_true_eq]
          exact ⟨Classical.not_not.mp w, q⟩
  have k2 : ∀ c, 0 ≤ c → c ≤ 144 → ∀ μ1, kL μ μ1 → (∀ j, 0 ≤ j → j < c → μ1 34 0 j = -1) → G 2 [some (oR 22 0), some (oI l), some (oI c), none, none, none, none, none] [] μ1 := by
    refine oh_for (F := fun c => 0 ≤ c → c ≤ 144 → ∀ μ1, kL μ μ1 → (∀ j, 0 ≤ j → j < c → μ1 34 0 j = -1) → G 2 [some (oR 22 0), some (oI l), some (oI c), none, none, none, none, none] [] μ1) 144 ?_ ?_
    · intro c hc h0 h1 μ1 g1 g2
      refine oh_go hG [(2, 3), (24, 3)] 40 ?_
      refine And.intro (fun _ => ?_) (fun q => absurd hc q)
      exact k24 (tE 1 A).toNat 0 μ1 none (by omega) (by omega) g1 ⟨fun c a d => Or.inl ⟨g2 c a (by omega), rfl⟩, fun q a d => absurd d (by omega)⟩
    · intro c hc ih h0 h1 μ1 g1 g2
      have ih := ih (by omega) (by omega)
      refine oh_go hG [(2, 3), (24, 3)] 40 ?_
      refine And.intro (fun q => absurd q (by omega)) (fun _ => ?_)
      refine And.intro (by omega) ?_
      refine And.intro (by omega) ?_
      refine ih _ (kL_tr g1 (kL_up (by omega))) (fun j a b => ?_)
      by_cases e : j = c
      · rw [e, oh_up_s]
      · rw [oh_up_o (fun q => e q.2.2)]
        exact g2 j a (by omega)
  refine oh_go hG [(2, 3)] 10 ?_
  exact k2 0 (by omega) (by omega) μ kL_rf (fun j a b => absurd b (by omega))
