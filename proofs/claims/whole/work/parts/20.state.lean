/-! THE STATE as the document tells it: rows of numbers (0 grants' bytes, 1 orders' bytes, 2 how many bytes, how many, LAW, how many SEEN, the latest FINDING; 3 HOMES, 4 WORTHS, 5 cells SEEN, 6 deeds SEEN, 7 FORMS, 8 sizes (-1: LOST), 9 on the items of SHEETS) -/
abbrev Ab : Type := Nat → Int → Int
def up2 (A : Ab) (k : Nat) (j v : Int) : Ab := fun k' j' => if k' = k ∧ j' = j then v else A k' j'
theorem up2_s {A : Ab} {k : Nat} {j v : Int} : up2 A k j v k j = v := by simp [up2]
theorem up2_o {A : Ab} {k k' : Nat} {j j' v : Int} (h : ¬ (k' = k ∧ j' = j)) : up2 A k j v k' j' = A k' j' := by simp [up2, h]
theorem up2_r {A : Ab} {k k' : Nat} {j v : Int} (h : ¬ k' = k) : up2 A k j v k' = A k' := funext fun _ => up2_o (fun q => h q.1)
noncomputable def brk (n : Nat) (f : Int → Int) : Nat → Int
  | 0 => -1
  | p + 1 => if brk n f p = -1 then oh_if (cgo n f p (f p)) (-1) p else brk n f p
def tl (n : Nat) (A : Ab) : Int := match n with
  | 0 => A 2 0
  | _ => A 2 1
noncomputable def tB (n : Nat) (A : Ab) : Int := brk n (A n) (tl n A).toNat
noncomputable def tE (n : Nat) (A : Ab) : Int := ents n (tl n A) (tB n A)
noncomputable def aw (A : Ab) : Int → Int := own (A 0) (tE 0 A).toNat
theorem brk_rg (n : Nat) (f : Int → Int) : ∀ p : Nat, -1 ≤ brk n f p ∧ brk n f p < p ∨ p = 0 ∧ brk n f p = -1
  | 0 => Or.inr ⟨rfl, rfl⟩
  | p + 1 => by
    have ih := brk_rg n f p
    left
    show -1 ≤ (if brk n f p = -1 then oh_if (cgo n f p (f p)) (-1) (p : Int) else brk n f p) ∧ (if brk n f p = -1 then oh_if (cgo n f p (f p)) (-1) (p : Int) else brk n f p) < ((p + 1 : Nat) : Int)
    split
    · by_cases hc : cgo n f p (f p)
      · rw [oh_if_t hc]
        omega
      · rw [oh_if_f hc]
        omega
    · omega
theorem brk_all {n : Nat} {f : Int → Int} : ∀ (N : Nat), brk n f N = -1 → ∀ p : Int, 0 ≤ p → p < N → cgo n f p (f p)
  | 0, _, p, h0, h1 => absurd h1 (by omega)
  | N + 1, h, p, h0, h1 => by
    have h : (if brk n f N = -1 then oh_if (cgo n f N (f N)) (-1) (N : Int) else brk n f N) = -1 := h
    split at h
    · rename_i hb
      by_cases hc : cgo n f N (f N)
      · by_cases e : p = N
        · rw [e]
          exact hc
        · exact brk_all N hb p h0 (by omega)
      · rw [oh_if_f hc] at h
        omega
    · rename_i hb
      exact absurd h hb
theorem brk_less {n : Nat} {f : Int → Int} : ∀ (N : Nat), brk n f N = -1 → ∀ M : Nat, M ≤ N → brk n f M = -1
  | 0, h, M, hM => by
    have : M = 0 := by omega
    rw [this]
    rfl
  | N + 1, h, M, hM => by
    by_cases e : M = N + 1
    · rw [e]
      exact h
    · refine brk_less N ?_ M (by omega)
      have h : (if brk n f N = -1 then oh_if (cgo n f N (f N)) (-1) (N : Int) else brk n f N) = -1 := h
      split at h
      · assumption
      · rename_i hb
        exact absurd h hb
/-- what may come at p hangs on the bytes ahead alone -/
theorem fig_congr {n : Nat} {f f' : Int → Int} {k a : Int} (h : f (k * stp n + a) = f' (k * stp n + a)) : fig n f k a = fig n f' k a := by
  unfold fig
  rw [h]
theorem ldd_stp (n : Nat) : stp n = ldd n + 4 ∧ (ldd n = 1 ∨ ldd n = 2) := by
  unfold stp ldd
  split <;> simp
theorem cgo_congr {n : Nat} {f f' : Int → Int} {p b : Int} (hp : 0 ≤ p) (h : ∀ j, 0 ≤ j → j < p → f j = f' j) : cgo n f p b ↔ cgo n f' p b := by
  obtain ⟨d1, d2, d3, d4⟩ := stp_dm (n := n) p hp
  obtain ⟨es, el⟩ := ldd_stp n
  have hfig : ∀ k a, 0 ≤ k → 0 ≤ a → k * stp n + a < p → fig n f k a = fig n f' k a := fun k a hk ha hlt => fig_congr (h _ (by have := stp_mul (n := n) hk; omega) hlt)
  unfold cgo
  by_cases e1 : p % stp n = stp n - 1
  · rw [if_pos e1, if_pos e1]
  · rw [if_neg e1, if_neg e1]
    have efe : fe n f (p / stp n) (p % stp n) = fe n f' (p / stp n) (p % stp n) := by
      unfold fe
      by_cases a1 : p % stp n < ldd n
      · rw [if_pos a1, if_pos a1]
      · rw [if_neg a1, if_neg a1]
        by_cases a2 : p % stp n = ldd n
        · rw [if_pos a2, if_pos a2]
        · rw [if_neg a2, if_neg a2]
          by_cases a3 : p % stp n = ldd n + 1
          · rw [if_pos a3, if_pos a3, hfig _ _ d1 (by omega) (by omega)]
          · rw [if_neg a3, if_neg a3]
    rw [efe]
    by_cases a4 : p % stp n = ldd n + 2
    · have etold : told n f (p / stp n) ↔ told n f' (p / stp n) := by
        have hb : ∀ j, 0 ≤ j → j ≤ p / stp n → bo n f j = bo n f' j ∧ ho n f j = ho n f' j := fun j j0 j1 => by
          have hm := stp_mono (n := n) j1
          unfold bo ho
          rw [hfig j (ldd n - 1) j0 (by omega) (by omega), hfig j (ldd n) j0 (by omega) (by omega), hfig j (ldd n + 1) j0 (by omega) (by omega)]
          exact ⟨rfl, rfl⟩
        unfold told
        constructor
        · rintro ⟨j, j0, j1, j2, j3⟩
          refine ⟨j, j0, j1, ?_, ?_⟩
          · rw [← (hb j j0 (by omega)).1, ← (hb (p / stp n) d1 (by omega)).1]
            exact j2
          · rw [← (hb j j0 (by omega)).2, ← (hb (p / stp n) d1 (by omega)).2]
            exact j3
        · rintro ⟨j, j0, j1, j2, j3⟩
          refine ⟨j, j0, j1, ?_, ?_⟩
          · rw [(hb j j0 (by omega)).1, (hb (p / stp n) d1 (by omega)).1]
            exact j2
          · rw [(hb j j0 (by omega)).2, (hb (p / stp n) d1 (by omega)).2]
            exact j3
      rw [etold]
    · constructor
      · exact fun q => ⟨q.1, fun z => a4 z.1⟩
      · exact fun q => ⟨q.1, fun z => a4 z.1⟩
theorem brk_congr {n : Nat} {f f' : Int → Int} : ∀ (N : Nat), (∀ j : Int, 0 ≤ j → j < N → f j = f' j) → brk n f N = brk n f' N
  | 0, _ => rfl
  | N + 1, h => by
    have ih := brk_congr (n := n) N (fun j a b => h j a (by omega))
    show (if brk n f N = -1 then oh_if (cgo n f N (f N)) (-1) (N : Int) else brk n f N) = (if brk n f' N = -1 then oh_if (cgo n f' N (f' N)) (-1) (N : Int) else brk n f' N)
    have e := cgo_congr (n := n) (p := N) (b := f N) (by omega) (fun j a b => h j a (by omega))
    rw [ih, h N (by omega) (by omega)]
    rw [h N (by omega) (by omega)] at e
    by_cases hc : cgo n f N (f' N)
    · rw [oh_if_t hc, oh_if_t (e.mp hc)]
    · rw [oh_if_f hc, oh_if_f (fun z => hc (e.mpr z))]
/-- entries of a text without a fault -/
theorem ent_ok {n : Nat} {A : Ab} {k : Int} (hl : 0 ≤ tl n A ∧ tl n A ≤ 99) (h0 : 0 ≤ k) (h1 : k < tE n A) : k * stp n + (ldd n + 2) < tl n A ∧ (0 ≤ bo n (A n) k ∧ bo n (A n) k ≤ 5) ∧ (0 ≤ ho n (A n) k ∧ ho n (A n) k ≤ 23) ∧ (0 ≤ la n (A n) k ∧ la n (A n) k < lst n) ∧ (0 ≤ fi n (A n) k ∧ fi n (A n) k ≤ 5) ∧ (onc n = 0 ∨ ¬ told n (A n) k) := by
  obtain ⟨es, el⟩ := ldd_stp n
  unfold tE ents at h1
  split at h1
  · rename_i hf
    have hb : tB n A = -1 := by
      unfold flw at hf
      split at hf
      · omega
      · rename_i hn
        exact Classical.not_not.mp hn
    have hlt : k * stp n + (ldd n + 2) < tl n A := by
      rcases stp_pos n with e | e <;> rw [e] at h1 es ⊢ <;> omega
    have hm := stp_mul (n := n) h0
    have hp : ∀ a, 0 ≤ a → a ≤ ldd n + 2 → (0 ≤ fig n (A n) k a ∧ fig n (A n) k a < fe n (A n) k a) ∧ ¬ (a = ldd n + 2 ∧ ¬ onc n = 0 ∧ told n (A n) k) := fun a a0 a1 => by
      have := brk_all _ hb (k * stp n + a) (by omega) (by omega)
      have e1 : (k * stp n + a) / stp n = k := by
        rcases stp_pos n with e | e <;> rw [e] at es ⊢ <;> omega
      have e2 : (k * stp n + a) % stp n = a := by
        rcases stp_pos n with e | e <;> rw [e] at es ⊢ <;> omega
      unfold cgo at this
      rw [e1, e2, if_neg (by omega)] at this
      exact this
    have p0 := hp (ldd n - 1) (by omega) (by omega)
    have p1 := hp (ldd n) (by omega) (by omega)
    have p2 := hp (ldd n + 1) (by omega) (by omega)
    have p3 := hp (ldd n + 2) (by omega) (by omega)
    have p4 := hp 0 (by omega) (by omega)
    unfold fe at p0 p1 p2 p3 p4
    rw [if_pos (by omega)] at p0
    rw [if_neg (by omega), if_pos rfl] at p1
    rw [if_neg (by omega), if_neg (by omega), if_pos rfl] at p2
    rw [if_neg (by omega), if_neg (by omega), if_neg (by omega)] at p3
    rw [if_pos (by omega)] at p4
    refine ⟨hlt, ?_, ?_, ?_, ?_, ?_⟩
    · unfold bo
      omega
    · unfold ho
      split at p2 <;> omega
    · unfold la
      exact p3.1
    · unfold fi
      omega
    · by_cases ho : onc n = 0
      · exact Or.inl ho
      · exact Or.inr (fun z => p3.2 ⟨rfl, ho, z⟩)
  · omega
theorem own_tok {f : Int → Int} : ∀ (k : Nat), (∀ j : Int, 0 ≤ j → j < k → 0 ≤ la 0 f j ∧ la 0 f j ≤ 5) → tok (own f k)
  | 0, _ => fun c h0 h1 => by
    show 0 ≤ c / 24 ∧ c / 24 ≤ 5
    omega
  | k + 1, h => fun c h0 h1 => by
    have ih := own_tok k (fun j a b => h j a (by omega)) c h0 h1
    have hk := h k (by omega) (by omega)
    show 0 ≤ (if c = bo 0 f k * 24 + ho 0 f k then la 0 f k else own f k c) ∧ (if c = bo 0 f k * 24 + ho 0 f k then la 0 f k else own f k c) ≤ 5
    split <;> omega
theorem aw_tok {A : Ab} (hl : 0 ≤ tl 0 A ∧ tl 0 A ≤ 99) : tok (aw A) := own_tok _ (fun j a b => by
  have := (ent_ok (n := 0) hl a (by have := (ents_rg (n := 0) (br := tB 0 A) hl).1; unfold tE at b ⊢; omega)).2.2.2.1
  have e : lst 0 = 6 := rfl
  omega)
theorem itr_congr {w w' : Int → Int} (ht : tok w) (h : ∀ c, 0 ≤ c → c < 144 → w c = w' c) {b x : Int} (hb : 0 ≤ b ∧ b ≤ 5) (hx : 0 ≤ x ∧ x ≤ 23) : ∀ k : Nat, itr w x k b = itr w' x k b
  | 0 => rfl
  | k + 1 => by
    have hr := itr_rg ht hb hx k
    show w (itr w x k b * 24 + x) = w' (itr w' x k b * 24 + x)
    rw [← itr_congr ht h hb hx k]
    exact h _ (by omega) (by omega)
theorem act_congr {w w' : Int → Int} (ht : tok w) (h : ∀ c, 0 ≤ c → c < 144 → w c = w' c) {law b x : Int} (hb : 0 ≤ b ∧ b ≤ 5) (hx : 0 ≤ x ∧ x ≤ 23) : act w law b x = act w' law b x := by
  have hr := itr_rg ht hb hx 6
  unfold act
  rw [← itr_congr ht h hb hx 6, h (b * 24 + x) (by omega) (by omega), h (itr w x 6 b * 24 + x) (by omega) (by omega)]
theorem Aw_congr {w w' : Int → Int} (ht : tok w) (h : ∀ c, 0 ≤ c → c < 144 → w c = w' c) {law c : Int} (hc : 0 ≤ c ∧ c < 144) : Aw w law c = Aw w' law c := act_congr ht h (by omega) (by omega)
theorem stq_congr {w w' : Int → Int} (ht : tok w) (h : ∀ c, 0 ≤ c → c < 144 → w c = w' c) {x : Int} (hx : 0 ≤ x ∧ x ≤ 23) : ∀ (k : Nat) (n b : Int), (0 ≤ b ∧ b ≤ 5) → stq w x k n b = stq w' x k n b
  | 0, _, _, _ => rfl
  | k + 1, n, b, hb => by
    have hr := tok_at ht hb hx
    show (if w (b * 24 + x) = b then n else stq w x k (n + 1) (w (b * 24 + x))) = (if w' (b * 24 + x) = b then n else stq w' x k (n + 1) (w' (b * 24 + x)))
    rw [stq_congr ht h hx k (n + 1) _ hr, h (b * 24 + x) (by omega) (by omega)]
theorem tok_congr {w w' : Int → Int} (ht : tok w) (h : ∀ c, 0 ≤ c → c < 144 → w c = w' c) : tok w' := fun c h0 h1 => by
  rw [← h c h0 h1]
  exact ht c h0 h1
/-- how the class holds it -/
def RepT (n : Nat) (A : Ab) (μ : Mem) : Prop := (μ 11 n 1 = ldd n ∧ μ 11 n 2 = stp n ∧ μ 11 n 3 = lst n ∧ μ 11 n 4 = onc n) ∧ μ 11 n 5 = tl n A ∧ μ 11 n 6 = tB n A ∧ (0 ≤ tl n A ∧ tl n A ≤ 99) ∧ (∀ j, 0 ≤ j → j < tl n A → 0 ≤ A n j ∧ A n j ≤ 255) ∧ μ 12 n = A n
def RepS (A : Ab) (μ : Mem) : Prop := ∀ s : Nat, s < 4 → μ 9 s 2 = A 8 s ∧ (-1 ≤ A 8 s ∧ A 8 s ≤ 60) ∧ (¬ A 8 s = -1 → μ 9 s 1 = A 7 s ∧ 0 ≤ A 7 s ∧ A 7 s ≤ 2) ∧ μ 10 s = A (9 + s)
def RepV (A : Ab) (μ : Mem) : Prop := (μ 13 0 12 = A 2 3 ∧ 0 ≤ A 2 3 ∧ A 2 3 ≤ 8) ∧ μ 19 0 = A 5 ∧ μ 20 0 = A 6 ∧ ∀ j, 0 ≤ j → j < A 2 3 → (0 ≤ A 5 j ∧ A 5 j < 144) ∧ 0 ≤ A 6 j ∧ A 6 j ≤ 4
def RepX (A : Ab) (μ : Mem) : Prop := RepT 0 A μ ∧ RepT 1 A μ ∧ (∀ l : Nat, l < 3 → μ 0 l 0 = l) ∧ (μ 15 0 = A 3 ∧ ∀ j, 0 ≤ j → j < 6 → 0 ≤ A 3 j ∧ A 3 j ≤ 9) ∧ (μ 16 0 = A 4 ∧ ∀ j, 0 ≤ j → j < 144 → 0 ≤ A 4 j ∧ A 4 j ≤ 9) ∧
  (μ 13 0 13 = A 2 2 ∧ 0 ≤ A 2 2 ∧ A 2 2 ≤ 2) ∧ (μ 13 0 14 = A 2 4) ∧ RepV A μ ∧ RepS A μ
def RepO (A : Ab) (μ : Mem) : Prop := ∀ c, 0 ≤ c → c < 144 → μ 8 0 c = aw A c
def RepD (A : Ab) (μ : Mem) : Prop := ∀ l : Nat, l < 3 → (μ 0 l 8 = 1 ∨ μ 0 l 8 = 0) ∧ (μ 0 l 8 = 0 → dayOK l (aw A) (A 1) (tE 1 A) (A 3) l μ)
def RepC (A : Ab) (μ : Mem) : Prop := RepX A μ ∧ RepO A μ ∧ RepD A μ
def FrC (μ μ' : Mem) : Prop := ∀ s n, 22 ≤ s → μ' s n = μ s n
theorem FrC_rf {μ : Mem} : FrC μ μ := fun _ _ _ => rfl
theorem FrC_tr {μ μ1 μ2 : Mem} (h : FrC μ μ1) (h' : FrC μ1 μ2) : FrC μ μ2 := fun s n hs => (h' s n hs).trans (h s n hs)
/-- the rows that the state hangs on stay -/
def keepX (μ μ' : Mem) : Prop := ∀ s n, (s = 11 ∨ s = 12 ∨ s = 15 ∨ s = 16 ∨ s = 13 ∨ s = 19 ∨ s = 20 ∨ s = 9 ∨ s = 10) → μ' s n = μ s n
theorem RepT_keep {n : Nat} {A : Ab} {μ μ' : Mem} (h : RepT n A μ) (h1 : μ' 11 n = μ 11 n) (h2 : μ' 12 n = μ 12 n) : RepT n A μ' := by
  unfold RepT at h ⊢
  rw [h1, h2]
  exact h
theorem RepX_keep {A : Ab} {μ μ' : Mem} (h : RepX A μ) (hk : keepX μ μ') (hl : ∀ l : Nat, l < 3 → μ' 0 l 0 = μ 0 l 0) : RepX A μ' := by
  obtain ⟨h1, h2, h3, h4, h5, h6, h7, h8, h9⟩ := h
  refine ⟨RepT_keep h1 (hk _ _ (by omega)) (hk _ _ (by omega)), RepT_keep h2 (hk _ _ (by omega)) (hk _ _ (by omega)), fun l hl3 => by rw [hl l hl3]; exact h3 l hl3, ?_, ?_, ?_, ?_, ?_, ?_⟩
  · rw [hk 15 0 (by omega)]
    exact h4
  · rw [hk 16 0 (by omega)]
    exact h5
  · rw [hk 13 0 (by omega)]
    exact h6
  · rw [hk 13 0 (by omega)]
    exact h7
  · unfold RepV at h8 ⊢
    rw [hk 13 0 (by omega), hk 19 0 (by omega), hk 20 0 (by omega)]
    exact h8
  · intro s hs
    rw [hk 9 s (by omega), hk 10 s (by omega)]
    exact h9 s hs
theorem dayOK_keep {law : Int} {w f : Int → Int} {e : Int} {hm : Int → Int} {n : Nat} {μ μ' : Mem} (h : dayOK law w f e hm n μ) (h1 : μ' 1 n = μ 1 n) (h2 : μ' 2 n = μ 2 n) (h3 : μ' 3 n = μ 3 n) (h4 : μ' 4 n = μ 4 n) (h7 : μ' 0 n 7 = μ 0 n 7) : dayOK law w f e hm n μ' := by
  unfold dayOK at h ⊢
  rw [h1, h2, h3, h4, h7]
  exact h
/-- rows that only help a question (rows of hours, the second owners, spans, mates) may change -/
def keepC (μ μ' : Mem) : Prop := ∀ s n, s ≤ 21 → ¬ (s = 5 ∨ s = 6 ∨ (s = 8 ∧ n = 1) ∨ s = 17 ∨ s = 18) → μ' s n = μ s n
theorem RepC_keep {A : Ab} {μ μ' : Mem} (h : RepC A μ) (hk : keepC μ μ') : RepC A μ' := by
  obtain ⟨h1, h2, h3⟩ := h
  refine ⟨RepX_keep h1 (fun s n hs => hk s n (by omega) (by omega)) (fun l _ => by rw [hk 0 l (by omega) (by omega)]), fun c a b => by rw [hk 8 0 (by omega) (by omega)]; exact h2 c a b, fun l hl => ?_⟩
  rw [hk 0 l (by omega) (by omega)]
  exact ⟨(h3 l hl).1, fun z => dayOK_keep ((h3 l hl).2 z) (hk _ _ (by omega) (by omega)) (hk _ _ (by omega) (by omega)) (hk _ _ (by omega) (by omega)) (hk _ _ (by omega) (by omega)) (by rw [hk 0 l (by omega) (by omega)])⟩
theorem RepT_tq {n : Nat} {A : Ab} {μ : Mem} (h : RepT n A μ) : tq n μ := by
  obtain ⟨⟨h1, h2, h3, h4⟩, h5, h6, h7, h8, h9⟩ := h
  refine ⟨h1, h2, h3, h4, by rw [h5]; exact h7, fun j a b => ?_⟩
  rw [h9]
  exact h8 j a (by rw [← h5]; exact b)
theorem RepT_ents {n : Nat} {A : Ab} {μ : Mem} (h : RepT n A μ) : ents n (μ 11 n 5) (μ 11 n 6) = tE n A := by
  obtain ⟨-, h5, h6, -⟩ := h
  rw [h5, h6]
  rfl
/-- contracts of the public face: a question, or an act, of the state -/
def tC0 (f : Ab → Int × Ab) : Tr := tO0 13 fun n μ Post => ∃ A, RepC A μ ∧ ∀ μ', RepC (f A).2 μ' → FrC μ μ' → Post (some (oI (f A).1)) μ'
def tC1 (f : Ab → Int → Int × Ab) : Tr := tO1 13 fun n a μ Post => ∃ A, RepC A μ ∧ ∀ μ', RepC (f A a).2 μ' → FrC μ μ' → Post (some (oI (f A a).1)) μ'
def tC2 (f : Ab → Int → Int → Int × Ab) : Tr := tO2 13 fun n a b μ Post => ∃ A, RepC A μ ∧ ∀ μ', RepC (f A a b).2 μ' → FrC μ μ' → Post (some (oI (f A a b).1)) μ'
def tC3 (f : Ab → Int → Int → Int → Int × Ab) : Tr := tO3 13 fun n a b c μ Post => ∃ A, RepC A μ ∧ ∀ μ', RepC (f A a b c).2 μ' → FrC μ μ' → Post (some (oI (f A a b c).1)) μ'
def tC4 (f : Ab → Int → Int → Int → Int → Int × Ab) : Tr := tO4 13 fun n a b c d μ Post => ∃ A, RepC A μ ∧ ∀ μ', RepC (f A a b c d).2 μ' → FrC μ μ' → Post (some (oI (f A a b c d).1)) μ'
def tC5 (f : Ab → Int → Int → Int → Int → Int → Int × Ab) : Tr := tO5 13 fun n a b c d e μ Post => ∃ A, RepC A μ ∧ ∀ μ', RepC (f A a b c d e).2 μ' → FrC μ μ' → Post (some (oI (f A a b c d e).1)) μ'
theorem n13 {n : Nat} (h : n < oh_cnt 13) : n = 0 := by
  have : oh_cnt 13 = 1 := rfl
  omega
