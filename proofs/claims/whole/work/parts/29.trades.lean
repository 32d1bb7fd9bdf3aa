/-! TRADES as the class counts them -/
theorem nI_bit {a : Nat} (h : a < 2147483648) (x : Nat) : (nI a).toBitVec.getLsbD x = a.testBit x := by
  rw [← BitVec.testBit_toNat, tn_nI h]
theorem m1_bit (x : Nat) : (Int32.ofInt (-1)).toBitVec.getLsbD x = decide (x < 32) := by
  have : (Int32.ofInt (-1)).toBitVec = BitVec.allOnes 32 := by decide
  rw [this, BitVec.getLsbD_allOnes]
theorem clr_N {a : Nat} {c : Int} (ha : a < 2147483648) (h0 : 0 ≤ c) (h1 : c < 31) : ∃ b : Nat, oh_and (a : Int) (oh_xor (oh_shl 1 c) (-1)) = (b : Int) ∧ b ≤ a ∧ (fun x => b.testBit x) = del (fun x => a.testBit x) c.toNat := by
  have hp := pow_lt31 (n := c.toNat) (by omega)
  have hz : (nI a &&& (nI (2 ^ c.toNat) ^^^ Int32.ofInt (-1))).toBitVec.toNat ≤ a := by
    rw [Int32.toBitVec_and, BitVec.toNat_and, tn_nI ha]
    exact Nat.and_le_left
  refine ⟨(nI a &&& (nI (2 ^ c.toNat) ^^^ Int32.ofInt (-1))).toBitVec.toNat, ?_, hz, funext fun x => ?_⟩
  · rw [shl1 h0 h1]
    unfold oh_and oh_xor
    rw [Int32.ofInt_toInt, nI_re, nI_re]
    show (nI a &&& (nI (2 ^ c.toNat) ^^^ Int32.ofInt (-1))).toBitVec.toInt = _
    rw [BitVec.toInt_eq_toNat_of_lt (by omega)]
  · rw [BitVec.testBit_toNat, Int32.toBitVec_and, BitVec.getLsbD_and, nI_bit ha, Int32.toBitVec_xor, BitVec.getLsbD_xor, nI_bit hp, m1_bit, Nat.testBit_two_pow]
    unfold del
    by_cases e : x = c.toNat
    · rw [if_pos e, e]
      simp
      omega
    · rw [if_neg e]
      by_cases e2 : x < 32
      · have : ¬ c.toNat = x := fun z => e z.symm
        simp [e2, this]
      · have : a.testBit x = false := Nat.testBit_lt_two_pow (Nat.lt_of_lt_of_le ha (Nat.le_trans (by decide : 2147483648 ≤ 2 ^ 32) (Nat.pow_le_pow_right (by omega) (by omega))))
        show (a.testBit x && (decide (c.toNat = x) ^^ decide (x < 32))) = a.testBit x
        rw [this]
        rfl
theorem cnS_pc (a : Nat) : ∀ k u : Nat, cnS (fun x => a.testBit x) k u + pc a u = pc a (u + k)
  | 0, u => by
    show 0 + pc a u = pc a u
    omega
  | k + 1, u => by
    have := cnS_pc a k (u + 1)
    have e : pc a (u + 1) = pc a u + if a.testBit u = true then 1 else 0 := rfl
    rw [e, show u + 1 + k = u + (k + 1) by omega] at this
    show (if a.testBit u = true then 1 else 0) + cnS (fun x => a.testBit x) k (u + 1) + pc a u = _
    omega
theorem mm_bound {E : Nat → Nat → Bool} {d u a : Nat} (ha : a < 4096) (hu : u + d = 12) : 2 * mm E d u (fun x => a.testBit x) ≤ pc a 20 := by
  have h1 := mm_bd E d u (fun x => a.testBit x)
  have h2 := cnS_pc a d u
  rw [hu] at h2
  have h3 := pc_more (a := a) (n := 12) ha 8
  have h4 := (pc_rg a u).1
  have e : 12 + 8 = 20 := rfl
  rw [e] at h3
  omega
def T_mp (d : Nat) : Tr := tA2 fun s n one rest μ Post => ∃ (E : Nat → Nat → Bool) (u a : Nat), (s = 18 ∧ n = 0) ∧ one = u ∧ u + d = 12 ∧ rest = a ∧ a < 4096 ∧ (∀ x, x < u → a.testBit x = false) ∧ (∀ i : Nat, a.testBit i = true → ∃ m : Nat, μ 18 0 i = m ∧ m < 4096 ∧ ∀ j : Nat, a.testBit j = true → m.testBit j = E i j) ∧ Post (some (oI (mm E d u (fun x => a.testBit x)))) μ
theorem bit_12 {a v : Nat} (ha : a < 4096) (h : a.testBit v = true) : v < 12 := by
  by_cases e : v < 12
  · exact e
  · rw [Nat.testBit_lt_two_pow (Nat.lt_of_lt_of_le ha (Nat.le_trans (by decide : 4096 ≤ 2 ^ 12) (Nat.pow_le_pow_right (by omega) (by omega))))] at h
    exact absurd h (by decide)
theorem ok_mp0 {T : Tr} : oh_Ok (pg_X4_mostPairs T T_J6_bitCount_0f7a4 T_J9_max_7cf53) 8 (T_mp 0) := by
  refine tA2_ok fun s n one rest μ Post G hG hn h1 h2 hM h => ?_
  obtain ⟨E, u, a, ⟨rfl, rfl⟩, rfl, hu, rfl, ha, hlo, hm, h⟩ := h
  refine oh_go hG [] 10 ?_
  exact And.intro (fun q => absurd q (by omega)) (fun _ => h)
theorem ok_mp (d : Nat) : oh_Ok (pg_X4_mostPairs (T_mp d) T_J6_bitCount_0f7a4 T_J9_max_7cf53) 8 (T_mp (d + 1)) := by
  refine tA2_ok fun s n one rest μ Post G hG hn h1 h2 hM h => ?_
  obtain ⟨E, u, a, ⟨rfl, rfl⟩, rfl, hu, rfl, ha, hlo, hm, h⟩ := h
  obtain ⟨b, eb, hba, hb⟩ := clr_N (a := a) (c := (u : Int)) (by omega) (by omega) (by omega)
  have eu : ((u : Nat) : Int).toNat = u := by omega
  rw [eu] at hb
  have hbx : ∀ x, b.testBit x = del (fun x => a.testBit x) u x := fun x => congrFun hb x
  have hbit := oh_bit_N (a := a) (k := u) (by omega) (by omega)
  have hsub : ∀ x, b.testBit x = true → a.testBit x = true ∧ ¬ x = u := fun x hx => by
    rw [hbx] at hx
    by_cases e : x = u
    · rw [e, del_s] at hx
      exact absurd hx (by decide)
    · rw [del_o e] at hx
      exact ⟨hx, e⟩
  have hnext : ∀ c : Nat, c ≤ b → (∀ x, c.testBit x = true → b.testBit x = true) → ∀ P : Po, P (some (oI (mm E d (u + 1) (fun x => c.testBit x)))) μ → T_mp d [oR 18 0, oI ((u : Int) + 1), oI (c : Int)] μ P := fun c hc hcx P hP => by
    refine ⟨E, u + 1, c, ⟨rfl, rfl⟩, by omega, by omega, rfl, by omega, fun x hx => ?_, fun i hi => ?_, hP⟩
    · by_cases e : c.testBit x = true
      · have := hsub x (hcx x e)
        rw [hlo x (by omega)] at this
        exact absurd this.1 (by decide)
      · rw [Bool.not_eq_true] at e
        exact e
    · obtain ⟨m, m1, m2, m3⟩ := hm i (hsub i (hcx i hi)).1
      exact ⟨m, m1, m2, fun j hj => m3 j (hsub j (hcx j hj)).1⟩
  have hshut : mm E (d + 1) u (fun x => a.testBit x) = mm E d (u + 1) (del (fun x => a.testBit x) u) → G 41 [some (oR 18 0), some (oI (u : Int)), some (oI (a : Int)), some (oI (b : Int)), some (oI 0), none, none, none] [] μ := fun e => by
    refine oh_go hG [(66, 8)] 40 ?_
    refine And.intro (by omega) ?_
    refine And.intro (hnext b (Nat.le_refl _) (fun x hx => hx) _ ?_) trivial
    rw [e, ← hb] at h
    exact h
  have h50 : ∀ m : Nat, a.testBit u = true → m < 4096 → (∀ j : Nat, a.testBit j = true → m.testBit j = E u j) → ¬ (m &&& b) = 0 → G 50 [some (oR 18 0), some (oI (u : Int)), some (oI (a : Int)), some (oI (b : Int)), some (oI ((m &&& b : Nat) : Int)), none, none, none] [] μ := fun m hau hm4 hmE hne => by
    have hob : ∀ v, (m &&& b).testBit v = true ↔ u + 1 ≤ v ∧ (a.testBit v && E u v) = true := fun v => by
      rw [Nat.testBit_and, Bool.and_eq_true, Bool.and_eq_true]
      constructor
      · rintro ⟨x1, x2⟩
        obtain ⟨y1, y2⟩ := hsub v x2
        refine ⟨?_, y1, by rw [← hmE v y1]; exact x1⟩
        by_cases e : v < u
        · rw [hlo v e] at y1
          exact absurd y1 (by decide)
        · omega
      · rintro ⟨x1, x2, x3⟩
        refine ⟨by rw [hmE v x2]; exact x3, ?_⟩
        rw [hbx, del_o (by omega)]
        exact x2
    have hex : ∃ v, (m &&& b).testBit v = true := by
      refine Classical.byContradiction fun hno => hne (Nat.eq_of_testBit_eq fun v => ?_)
      rw [Nat.zero_testBit]
      by_cases e : (m &&& b).testBit v = true
      · exact absurd ⟨v, e⟩ hno
      · rw [Bool.not_eq_true] at e
        exact e
    obtain ⟨v, hv⟩ := hex
    obtain ⟨v1, v2⟩ := (hob v).mp hv
    have v3 : v < 12 := by
      rw [Bool.and_eq_true] at v2
      exact bit_12 ha v2.1
    have hopen := mm_open (E := E) (k := d) (u := u) (S := fun x => a.testBit x) hau v1 (by omega) v2
    have hV := mm_bound (E := E) (d := d + 1) (u := u) (a := a) ha (by omega)
    have hpr := pc_rg a 20
    have hVn := mm_nn E (d + 1) u (fun x => a.testBit x)
    generalize hVe : mm E (d + 1) u (fun x => a.testBit x) = V at *
    have hmb : (m &&& b) < 4096 := Nat.lt_of_le_of_lt Nat.and_le_left hm4
    have eB : oh_shr (pc a 20) 1 = ((((pc a 20).toNat / 2 : Nat)) : Int) := by
      have := oh_shr_N (a := (pc a 20).toNat) (k := 1) (by omega) (by omega)
      have e2 : (((pc a 20).toNat : Nat) : Int) = pc a 20 := by omega
      rw [e2] at this
      exact this
    have key : ∀ (k c : Nat) (acc : Int), u + 1 ≤ c → c + k = 12 → (0 ≤ acc ∧ acc ≤ V) → mxv (fun v => a.testBit v && E u v) (fun v => 1 + mm E d (u + 1) (del (del (fun x => a.testBit x) u) v)) k c acc = V → G 66 [some (oR 18 0), some (oI (u : Int)), some (oI (a : Int)), some (oI (b : Int)), some (oI ((m &&& b : Nat) : Int)), some (oI ((((pc a 20).toNat / 2 : Nat)) : Int)), some (oI acc), some (oI (c : Int))] [] μ := by
      intro k
      induction k with
      | zero =>
        intro c acc c1 c2 c3 c4
        have c4 : acc = V := c4
        rw [← c4] at h
        refine oh_go hG [(66, 8)] 40 ?_
        exact And.intro (fun _ => h) (fun q => absurd q (by omega))
      | succ k ih =>
        intro c acc c1 c2 c3 c4
        have c4 : mxv (fun v => a.testBit v && E u v) (fun v => 1 + mm E d (u + 1) (del (del (fun x => a.testBit x) u) v)) k (c + 1) (if (a.testBit c && E u c) = true then max acc (1 + mm E d (u + 1) (del (del (fun x => a.testBit x) u) c)) else acc) = V := c4
        have hb2 := oh_bit_N (a := (m &&& b)) (k := c) (by omega) (by omega)
        have ec : ((c : Nat) : Int) + 1 = ((c + 1 : Nat) : Int) := by omega
        refine oh_go hG [(66, 8)] 40 ?_
        refine And.intro (fun q => absurd q (by omega)) (fun _ => ?_)
        refine And.intro (fun q => ?_) (fun q => ?_)
        · have e : acc = V := by omega
          rw [← e] at h
          exact h
        · refine And.intro (fun r => ?_) (fun r => ?_)
          · rw [if_neg (fun z => r (hb2.mpr ((hob c).mpr ⟨c1, z⟩)))] at c4
            refine And.intro (by omega) ?_
            rw [ec]
            exact ih (c + 1) acc (by omega) (by omega) c3 c4
          · have hc := hb2.mp (Classical.not_not.mp r)
            have hcE := ((hob c).mp hc).2
            rw [if_pos hcE] at c4
            have hg := mxv_at (p := fun v => a.testBit v && E u v) (g := fun v => 1 + mm E d (u + 1) (del (del (fun x => a.testBit x) u) v)) d (u + 1) 0 c1 (by omega) hcE
            rw [← hopen] at hg
            obtain ⟨b2, eb2, hb2a, hb2x⟩ := clr_N (a := b) (c := (c : Int)) (by omega) (by omega) (by omega)
            have euc : ((c : Nat) : Int).toNat = c := by omega
            rw [euc, hb] at hb2x
            have hnn := mm_nn E d (u + 1) (del (del (fun x => a.testBit x) u) c)
            refine And.intro (by omega) ?_
            refine And.intro ?_ trivial
            rw [eb2]
            refine hnext b2 hb2a (fun x hx => ?_) _ ?_
            · have : b2.testBit x = del (del (fun x => a.testBit x) u) c x := congrFun hb2x x
              rw [this] at hx
              rw [hbx]
              by_cases e : x = c
              · rw [e, del_s] at hx
                exact absurd hx (by decide)
              · rw [del_o e] at hx
                exact hx
            · rw [hb2x]
              refine And.intro (by omega) ?_
              refine And.intro ?_ trivial
              refine And.intro (by omega) ?_
              rw [ec]
              exact ih (c + 1) _ (by omega) (by omega) (by omega) c4
    refine oh_go hG [(66, 8)] 40 ?_
    refine And.intro ⟨a, rfl, by omega, ?_⟩ trivial
    refine And.intro (by omega) ?_
    rw [eB]
    exact key d (u + 1) 0 (by omega) (by omega) (by omega) hopen.symm
  have h16 : G 16 [some (oR 18 0), some (oI (u : Int)), some (oI (a : Int)), some (oI (b : Int)), none, none, none, none] [] μ := by
    refine oh_go hG [(41, 5), (50, 5)] 40 ?_
    refine And.intro (fun q => ?_) (fun q => ?_)
    · refine And.intro (fun z => absurd rfl z) (fun _ => ?_)
      exact hshut (mm_shut (fun v _ _ hs => absurd (hbit.mpr hs) q))
    · have hau := hbit.mp (Classical.not_not.mp q)
      obtain ⟨m, m1, m2, m3⟩ := hm u hau
      have hmb := oh_and_N (a := m) (b := b) (by omega) (by omega)
      refine And.intro (by omega) ?_
      rw [m1]
      refine And.intro (fun z => ?_) (fun z => ?_)
      · rw [hmb] at z ⊢
        exact h50 m hau m2 m3 (by omega)
      · rw [hmb] at z ⊢
        have z : (m &&& b) = 0 := by omega
        rw [z]
        refine hshut (mm_shut (fun v w1 w2 hs hv => ?_))
        have hv : (a.testBit v && E u v) = true := hv
        rw [Bool.and_eq_true] at hv
        have : (m &&& b).testBit v = true := by
          rw [Nat.testBit_and, m3 v hv.1, hv.2, hbx, del_o (by omega)]
          exact hv.1
        rw [z, Nat.zero_testBit] at this
        exact absurd this (by decide)
  refine oh_go hG [(16, 4)] 40 ?_
  refine And.intro (fun _ => ?_) (fun q => absurd q (by omega))
  show G 16 [some (oR 18 0), some (oI (u : Int)), some (oI (a : Int)), some (oI (oh_and (a : Int) (oh_xor (oh_shl 1 (u : Int)) (-1)))), none, none, none, none] [] μ
  rw [eb]
  exact h16
def T_X4_mostPairs : Tr := T_mp 12
/-- would the persons of two grants trade -/
def gP (A : Ab) (i j : Int) : Bool := bg (A 4) (la 0 (A 0) i) (ho 0 (A 0) i) (la 0 (A 0) j) (ho 0 (A 0) j)
theorem gr_at {A : Ab} {μ : Mem} (hR : RepC A μ) {k : Int} (h0 : 0 ≤ k) (h1 : k < tE 0 A) : (eq_ 0 μ k 0 ∧ eq_ 0 μ k 2 ∧ eq_ 0 μ k 3) ∧ (0 ≤ bo 0 (A 0) k ∧ bo 0 (A 0) k ≤ 5) ∧ (0 ≤ ho 0 (A 0) k ∧ ho 0 (A 0) k ≤ 23) ∧ (0 ≤ la 0 (A 0) k ∧ la 0 (A 0) k ≤ 5) ∧ ¬ told 0 (A 0) k := by
  have hT := hR.1.1
  obtain ⟨e1, e2, e3, e4, e5, e6⟩ := ent_ok hT.2.2.2.1 h0 h1
  have hl : ldd 0 = 1 := rfl
  have hs : stp 0 = 5 := rfl
  have hll : lst 0 = 6 := rfl
  have honc : onc 0 = 1 := rfl
  rw [hl, hs] at e1
  have hlen := hT.2.1
  refine ⟨⟨⟨RepT_tq hT, h0, by rw [hs]; omega⟩, ⟨RepT_tq hT, h0, by rw [hs]; omega⟩, ⟨RepT_tq hT, h0, by rw [hs]; omega⟩⟩, e2, e3, by omega, ?_⟩
  rcases e6 with e6 | e6
  · rw [honc] at e6
    exact absurd e6 (by decide)
  · exact e6
def T_X4_matesOf : Tr := tO2 13 fun n i m μ Post => ∃ A, RepC A μ ∧ (0 ≤ i ∧ i < m) ∧ (m ≤ 12 ∧ m ≤ tE 0 A) ∧ Post (some (oI ((mk (gP A i) m.toNat : Nat) : Int))) μ
theorem ok_X4_matesOf : oh_Ok (pg_X4_matesOf T_X3_lastOf T_X3_hourOf T_X4_bothGain) 5 T_X4_matesOf := by
  refine tO2_ok fun n i m μ Post G hG hn hi hm hM h => ?_
  obtain rfl := n13 hn
  obtain ⟨A, hR, hi2, hm2, h⟩ := h
  have e12 : μ 12 0 = A 0 := hR.1.1.2.2.2.2.2
  have key : ∀ c, 0 ≤ c → c ≤ m → G 5 [some (oR 13 0), some (oI i), some (oI m), some (oI ((mk (gP A i) c.toNat : Nat) : Int)), some (oI c)] [] μ := by
    refine oh_for (F := fun c => 0 ≤ c → c ≤ m → G 5 [some (oR 13 0), some (oI i), some (oI m), some (oI ((mk (gP A i) c.toNat : Nat) : Int)), some (oI c)] [] μ) m ?_ ?_
    · intro c hc h0 h1
      have e : c = m := by omega
      subst e
      refine oh_go hG [(5, 5)] 40 ?_
      exact ⟨fun _ => h, fun q => absurd hc q⟩
    · intro c hc ih h0 h1
      have ih := ih (by omega) (by omega)
      obtain ⟨⟨a1, a2, a3⟩, a4, a5, a6, a7⟩ := gr_at hR (k := i) (by omega) (by omega)
      obtain ⟨⟨b1, b2, b3⟩, b4, b5, b6, b7⟩ := gr_at hR (k := c) (by omega) (by omega)
      refine oh_go hG [(5, 5)] 40 ?_
      refine And.intro (fun q => absurd q (by omega)) (fun _ => ?_)
      refine And.intro ⟨a3, ?_⟩ trivial
      refine And.intro ⟨a2, ?_⟩ trivial
      refine And.intro ⟨b3, ?_⟩ trivial
      refine And.intro ⟨b2, ?_⟩ trivial
      rw [e12]
      refine And.intro ⟨by omega, fun r => ?_, fun r => ?_⟩ trivial
      · rw [hR.1.2.2.2.2.1.1] at r
        refine And.intro (fun y => absurd y (by decide)) (fun _ => ?_)
        refine And.intro (by omega) ?_
        rw [mk_put h0 (by omega) r]
        exact ih
      · rw [hR.1.2.2.2.2.1.1] at r
        refine And.intro (fun _ => ?_) (fun y => absurd rfl y)
        refine And.intro (by omega) ?_
        rw [mk_skip h0 r] at ih
        exact ih
  refine oh_go hG [(5, 5)] 5 ?_
  exact key 0 (by omega) (by omega)
noncomputable def trN (A : Ab) : Nat := (min (tE 0 A) 12).toNat
noncomputable def tds (A : Ab) : Int := mm (fun i j => gP A i j) 12 0 (fun x => decide (x < trN A))
noncomputable def s_trades (A : Ab) : Int × Ab := (tds A, A)
def T_X4_trades : Tr := tC0 s_trades
theorem ok_X4_trades : oh_Ok (pg_X4_trades T_X3_entries T_J9_min_7cf53 T_X4_matesOf T_X4_mostPairs) 3 T_X4_trades := by
  refine tO0_ok fun n μ Post G hG hn hM h => ?_
  obtain rfl := n13 hn
  obtain ⟨A, hR, h⟩ := h
  unfold s_trades tds at h
  dsimp only at h
  have hE := tE_rg (RepX_len hR (n := 0) (by omega))
  have eN : ((trN A : Nat) : Int) = min (tE 0 A) 12 := by
    unfold trN
    omega
  generalize hm : min (tE 0 A) 12 = m at *
  have key : ∀ c, 0 ≤ c → c ≤ m → ∀ μ1, (∀ s n j, ¬ (s = 18 ∧ n = 0) → μ1 s n j = μ s n j) → (∀ j, 0 ≤ j → j < c → μ1 18 0 j = ((mk (gP A j) m.toNat : Nat) : Int)) → G 15 [some (oR 13 0), some (oI m), some (oI c)] [] μ1 := by
    refine oh_for (F := fun c => 0 ≤ c → c ≤ m → ∀ μ1, (∀ s n j, ¬ (s = 18 ∧ n = 0) → μ1 s n j = μ s n j) → (∀ j, 0 ≤ j → j < c → μ1 18 0 j = ((mk (gP A j) m.toNat : Nat) : Int)) → G 15 [some (oR 13 0), some (oI m), some (oI c)] [] μ1) m ?_ ?_
    · intro c hc h0 h1 μ1 g1 g2
      have e : c = m := by omega
      subst e
      have em : c.toNat = trN A := by omega
      have hsh := shl1 (c := c) h0 (by omega)
      have hpw : 2 ^ c.toNat ≤ 2 ^ 12 := Nat.pow_le_pow_right (by omega) (by omega)
      have hpw0 : 1 ≤ 2 ^ c.toNat := Nat.one_le_two_pow
      refine oh_go hG [(15, 3)] 40 ?_
      refine And.intro (fun _ => ?_) (fun q => absurd hc q)
      refine And.intro (by rw [hsh]; omega) ?_
      refine And.intro ⟨fun i j => gP A i j, 0, 2 ^ c.toNat - 1, ⟨rfl, rfl⟩, rfl, rfl, by rw [hsh]; omega, by omega, fun x hx => absurd hx (by omega), fun i hi => ?_, ?_⟩ trivial
      · rw [Nat.testBit_two_pow_sub_one, decide_eq_true_eq] at hi
        have hlt := mk_lt (gP A i) c.toNat
        refine ⟨mk (gP A i) c.toNat, g2 i (by omega) (by omega), by omega, fun j hj => ?_⟩
        rw [Nat.testBit_two_pow_sub_one, decide_eq_true_eq] at hj
        rw [mk_bit, decide_eq_true hj, Bool.true_and]
      · have e5 : (fun x => (2 ^ c.toNat - 1).testBit x) = fun x => decide (x < trN A) := funext fun x => by rw [Nat.testBit_two_pow_sub_one, em]
        rw [e5]
        exact h μ1 (RepC_keep hR (fun s n hs hk => funext fun j => g1 s n j (by omega))) (fun s n hs => funext fun j => g1 s n j (by omega))
    · intro c hc ih h0 h1 μ1 g1 g2
      have ih := ih (by omega) (by omega)
      have hR1 := RepC_keep hR (μ' := μ1) (fun s n hs hk => funext fun j => g1 s n j (by omega))
      refine oh_go hG [(15, 3)] 40 ?_
      refine And.intro (fun q => absurd q (by omega)) (fun _ => ?_)
      refine And.intro ⟨A, hR1, by omega, by omega, ?_⟩ trivial
      refine And.intro (by omega) ?_
      refine And.intro (by omega) ?_
      refine ih _ (fun s n j hs => ?_) (fun j a d => ?_)
      · rw [oh_up_o (fun q => hs ⟨q.1, q.2.1⟩)]
        exact g1 s n j hs
      · by_cases e : j = c
        · rw [e, oh_up_s]
        · rw [oh_up_o (fun q => e q.2.2)]
          exact g2 j a (by omega)
  refine oh_go hG [(15, 3)] 40 ?_
  refine And.intro ⟨RepT_tq hR.1.1, ?_⟩ trivial
  rw [RepT_ents hR.1.1]
  refine And.intro ?_ trivial
  show G 15 [some (oR 13 0), some (oI (min (tE 0 A) 12)), some (oI 0)] [] μ
  rw [hm]
  exact key 0 (by omega) (by omega) μ (fun _ _ _ _ => rfl) (fun j a d => absurd d (by omega))
