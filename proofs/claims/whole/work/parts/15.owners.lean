/-! OWNERS: who owns and who acts -/
/-- sums, and loops that make them -/
def sm (f : Int → Int) : Nat → Int
  | 0 => 0
  | n + 1 => sm f n + f n
theorem sm_s (f : Int → Int) {c : Int} (h : 0 ≤ c) : sm f (c + 1).toNat = sm f c.toNat + f c := by
  have e : (c + 1).toNat = c.toNat + 1 := by omega
  rw [e]
  show sm f c.toNat + f (c.toNat : Int) = _
  have e2 : ((c.toNat : Nat) : Int) = c := by omega
  rw [e2]
theorem sm_rg {f : Int → Int} {a b : Int} (ha : ∀ j, a ≤ f j) (hb : ∀ j, f j ≤ b) : ∀ n : Nat, a * n ≤ sm f n ∧ sm f n ≤ b * n
  | 0 => by simp [sm]
  | n + 1 => by
    have ih := sm_rg ha hb n
    have h1 := ha n
    have h2 := hb n
    show a * ((n : Int) + 1) ≤ sm f n + f n ∧ sm f n + f n ≤ b * ((n : Int) + 1)
    rw [Int.mul_add, Int.mul_add, Int.mul_one, Int.mul_one]
    omega
theorem sm_congr {f g : Int → Int} : ∀ (n : Nat), (∀ j : Int, 0 ≤ j → j < n → f j = g j) → sm f n = sm g n
  | 0, _ => rfl
  | n + 1, h => by
    show sm f n + f n = sm g n + g n
    rw [sm_congr n (fun j a b => h j a (by omega)), h n (by omega) (by omega)]
def tok (w : Int → Int) : Prop := ∀ c, 0 ≤ c → c < 144 → 0 ≤ w c ∧ w c ≤ 5
def T_X1_owner : Tr := tO2 7 fun n b h μ Post => ((0 ≤ b ∧ b ≤ 5) ∧ 0 ≤ h ∧ h ≤ 23) ∧ Post (some (oI (μ 8 n (b * 24 + h)))) μ
theorem ok_X1_owner : oh_Ok (pg_X1_owner T_X4_cell) 3 T_X1_owner := by
  refine tO2_ok fun n b h μ Post G hG hn hb hh hM q => ?_
  refine oh_go hG [] 40 ?_
  exact ⟨⟨by omega, ⟨by omega, by omega⟩, q.2⟩, trivial⟩
def T_X1_setOwner : Tr := tO3 7 fun n b h p μ Post => ((0 ≤ b ∧ b ≤ 5) ∧ 0 ≤ h ∧ h ≤ 23) ∧ Post none (oh_up μ 8 n (b * 24 + h) p)
theorem ok_X1_setOwner : oh_Ok (pg_X1_setOwner T_X4_cell) 4 T_X1_setOwner := by
  refine tO3_ok fun n b h p μ Post G hG hn hb hh hp hM q => ?_
  refine oh_go hG [] 40 ?_
  exact ⟨⟨by omega, ⟨by omega, by omega⟩, q.2⟩, trivial⟩
def T_X1_takeFrom : Tr := tP0 7 7 fun n m μ Post => Post none (oh_cp μ 8 m 0 8 n 0 144)
theorem ok_X1_takeFrom : oh_Ok (pg_X1_takeFrom T_cp) 2 T_X1_takeFrom := by
  refine tP0_ok fun n m μ Post G hG hn hm hM q => ?_
  refine oh_go hG [] 40 ?_
  exact ⟨⟨_, _, _, _, _, _, _, 144, 144, rfl, rfl, rfl, by omega, by omega, by omega, by omega, by omega, q⟩, trivial⟩
def beq_ (w : Int → Int) (f t c : Int) : Int := if w c = f ∧ ¬ c / 24 = f then t else w c
def T_X1_bequeath : Tr := tO2 7 fun n f t μ Post => ∀ μ', oh_off 8 n 0 144 μ μ' → (∀ c, 0 ≤ c → c < 144 → μ' 8 n c = beq_ (μ 8 n) f t c) → Post none μ'
theorem ok_X1_bequeath : oh_Ok pg_X1_bequeath 4 T_X1_bequeath := by
  refine tO2_ok fun n f t μ Post G hG hn hf ht hM h => ?_
  have key : ∀ c, 0 ≤ c → c ≤ 144 → ∀ μ', oh_off 8 n 0 144 μ μ' → (∀ j, 0 ≤ j → j < c → μ' 8 n j = beq_ (μ 8 n) f t j) → (∀ j, c ≤ j → j < 144 → μ' 8 n j = μ 8 n j) → G 2 [some (oR 7 n), some (oI f), some (oI t), some (oI c)] [] μ' := by
    refine oh_for (F := fun c => 0 ≤ c → c ≤ 144 → ∀ μ', oh_off 8 n 0 144 μ μ' → (∀ j, 0 ≤ j → j < c → μ' 8 n j = beq_ (μ 8 n) f t j) → (∀ j, c ≤ j → j < 144 → μ' 8 n j = μ 8 n j) → G 2 [some (oR 7 n), some (oI f), some (oI t), some (oI c)] [] μ') 144 ?_ ?_
    · intro c hc h0 h1 μ' ho hv hw
      refine oh_go hG [(2, 4)] 40 ?_
      exact ⟨fun a => h μ' ho (fun j a b => hv j a (by omega)), fun a => absurd hc a⟩
    · intro c hc ih h0 h1 μ' ho hv hw
      have hcv := hw c (by omega) hc
      have same : ¬ (μ 8 n c = f ∧ ¬ c / 24 = f) → G 2 [some (oR 7 n), some (oI f), some (oI t), some (oI (c + 1))] [] μ' := fun hq => ih (by omega) (by omega) μ' ho (fun j a b => by
        by_cases e : j = c
        · rw [e, hcv]
          unfold beq_
          rw [if_neg hq]
        · exact hv j a (by omega)) (fun j a b => hw j (by omega) b)
      refine oh_go hG [(2, 4)] 40 ?_
      refine ⟨fun a => absurd a (by omega), fun a => ?_⟩
      refine ⟨⟨h0, hc⟩, ?_⟩
      refine ⟨fun b => ⟨by omega, same (fun q => b (by rw [hcv]; exact q.1))⟩, fun b => ?_⟩
      refine ⟨by omega, ?_⟩
      refine ⟨fun d => ⟨by omega, same (fun q => q.2 d)⟩, fun d => ?_⟩
      refine ⟨⟨h0, hc⟩, by omega, ?_⟩
      refine ih (by omega) (by omega) _ (oh_off_up ho h0 hc) (fun j a1 a2 => ?_) (fun j a1 a2 => ?_)
      · by_cases e : j = c
        · rw [e, oh_up_s]
          unfold beq_
          rw [if_pos ⟨by omega, d⟩]
        · rw [oh_up_o (fun q => e q.2.2)]
          exact hv j a1 (by omega)
      · rw [oh_up_o (fun q => by omega)]
        exact hw j (by omega) a2
  refine oh_go hG [(2, 4)] 5 ?_
  exact key 0 (by omega) (by omega) μ oh_off_rf (fun j a b => absurd b (by omega)) (fun j _ _ => rfl)
/-- through how many, till one owns itself -/
def stq (w : Int → Int) (h : Int) : Nat → Int → Int → Int
  | 0, _, _ => -1
  | k + 1, n, a => if w (a * 24 + h) = a then n else stq w h k (n + 1) (w (a * 24 + h))
def sts (w : Int → Int) (b h : Int) : Int := stq w h 6 0 b
def T_X1_steps : Tr := tO2 7 fun n b h μ Post => (tok (μ 8 n) ∧ (0 ≤ b ∧ b ≤ 5) ∧ 0 ≤ h ∧ h ≤ 23) ∧ Post (some (oI (sts (μ 8 n) b h))) μ
theorem tok_at {w : Int → Int} (h : tok w) {b x : Int} (h0 : 0 ≤ b ∧ b ≤ 5) (h1 : 0 ≤ x ∧ x ≤ 23) : 0 ≤ w (b * 24 + x) ∧ w (b * 24 + x) ≤ 5 := h _ (by omega) (by omega)
theorem ok_X1_steps : oh_Ok (pg_X1_steps T_X1_owner) 6 T_X1_steps := by
  refine tO2_ok fun n b h μ Post G hG hn hb hh hM q => ?_
  obtain ⟨⟨ht, hb0, hh0⟩, q⟩ := q
  have key : ∀ (k : Nat) (c a : Int), 0 ≤ c → c + k = 6 → (0 ≤ a ∧ a ≤ 5) → Post (some (oI (stq (μ 8 n) h k c a))) μ → G 5 [some (oR 7 n), some (oI b), some (oI h), some (oI a), some (oI c), none] [] μ := by
    intro k
    induction k with
    | zero =>
      intro c a h0 h1 ha hp
      refine oh_go hG [(5, 5)] 40 ?_
      exact ⟨fun _ => hp, fun x => absurd x (by omega)⟩
    | succ k ih =>
      intro c a h0 h1 ha hp
      have hw := tok_at ht ha hh0
      unfold stq at hp
      refine oh_go hG [(5, 5)] 40 ?_
      refine ⟨fun x => absurd x (by omega), fun x => ⟨⟨⟨ha, hh0⟩, ?_⟩, trivial⟩⟩
      refine ⟨fun y => ?_, fun y => ?_⟩
      · rw [if_neg y] at hp
        exact ⟨by omega, ih _ _ (by omega) (by omega) hw hp⟩
      · rw [if_pos (by omega)] at hp
        exact hp
  refine oh_go hG [(5, 5)] 5 ?_
  exact key 6 0 b (by omega) (by omega) hb0 q
def itr (w : Int → Int) (h : Int) : Nat → Int → Int
  | 0, b => b
  | k + 1, b => w (itr w h k b * 24 + h)
def act (w : Int → Int) (law b h : Int) : Int := if law = 1 then w (b * 24 + h) else if w (itr w h 6 b * 24 + h) = itr w h 6 b then itr w h 6 b else if law = 2 then b else -1
theorem itr_rg {w : Int → Int} (ht : tok w) {b h : Int} (hb : 0 ≤ b ∧ b ≤ 5) (hh : 0 ≤ h ∧ h ≤ 23) : ∀ k : Nat, 0 ≤ itr w h k b ∧ itr w h k b ≤ 5
  | 0 => hb
  | k + 1 => tok_at ht (itr_rg ht hb hh k) hh
theorem act_rg {w : Int → Int} (ht : tok w) {law b h : Int} (hb : 0 ≤ b ∧ b ≤ 5) (hh : 0 ≤ h ∧ h ≤ 23) : -1 ≤ act w law b h ∧ act w law b h ≤ 5 := by
  unfold act
  have h1 := tok_at ht hb hh
  have h2 := itr_rg ht hb hh 6
  split
  · omega
  · split
    · omega
    · split <;> omega
def T_X1_actor : Tr := tO3 7 fun n law b h μ Post => (tok (μ 8 n) ∧ (0 ≤ b ∧ b ≤ 5) ∧ 0 ≤ h ∧ h ≤ 23) ∧ Post (some (oI (act (μ 8 n) law b h))) μ
theorem ok_X1_actor : oh_Ok (pg_X1_actor T_X1_owner) 6 T_X1_actor := by
  refine tO3_ok fun n law b h μ Post G hG hn hl hb hh hM q => ?_
  obtain ⟨⟨ht, hb0, hh0⟩, q⟩ := q
  unfold act at q
  have key : ¬ law = 1 → ∀ (k : Nat) (c : Int), c + k = 6 → 0 ≤ c → G 18 [some (oR 7 n), some (oI law), some (oI b), some (oI h), some (oI (itr (μ 8 n) h c.toNat b)), some (oI c)] [] μ := by
    intro hl1 k
    rw [if_neg hl1] at q
    induction k with
    | zero =>
      intro c h1 h0
      have hc : c = 6 := by omega
      subst hc
      have hr := itr_rg ht hb0 hh0 6
      refine oh_go hG [(18, 6)] 40 ?_
      refine ⟨fun _ => ?_, fun x => absurd x (by omega)⟩
      refine ⟨⟨⟨hr, hh0⟩, ?_⟩, trivial⟩
      refine ⟨fun x => ?_, fun x => ?_⟩
      · have q := q
        have x : ¬ μ 8 n (itr (μ 8 n) h 6 b * 24 + h) = itr (μ 8 n) h 6 b := x
        rw [if_neg x] at q
        refine ⟨fun y => ?_, fun y => ?_⟩
        · rw [if_neg y] at q
          exact q
        · rw [if_pos (Classical.not_not.mp y)] at q
          exact q
      · have x : ¬ ¬ μ 8 n (itr (μ 8 n) h 6 b * 24 + h) = itr (μ 8 n) h 6 b := x
        rw [if_pos (Classical.not_not.mp x)] at q
        exact q
    | succ k ih =>
      intro c h1 h0
      have hr := itr_rg ht hb0 hh0 c.toNat
      refine oh_go hG [(18, 6)] 40 ?_
      refine ⟨fun x => absurd x (by omega), fun _ => ?_⟩
      refine ⟨⟨⟨hr, hh0⟩, ?_⟩, trivial⟩
      refine ⟨by omega, ?_⟩
      have e : (c + 1).toNat = c.toNat + 1 := by omega
      have w := ih (c + 1) (by omega) (by omega)
      rw [e] at w
      exact w
  refine oh_go hG [(18, 6)] 20 ?_
  refine ⟨fun x => key x 6 0 (by omega) (by omega), fun x => ?_⟩
  rw [if_pos (by omega)] at q
  exact ⟨⟨⟨hb0, hh0⟩, q⟩, trivial⟩
def wr1 (w : Int → Int) (law h b : Int) : Int := if act w law b h = b then 0 else 1
def wrI (w : Int → Int) (law h : Int) : Int := sm (wr1 w law h) 6
theorem wr1_rg (w : Int → Int) (law h b : Int) : 0 ≤ wr1 w law h b ∧ wr1 w law h b ≤ 1 := by unfold wr1; split <;> omega
def T_X1_wrongedIn : Tr := tO2 7 fun n law h μ Post => (tok (μ 8 n) ∧ 0 ≤ h ∧ h ≤ 23) ∧ Post (some (oI (wrI (μ 8 n) law h))) μ
theorem ok_X1_wrongedIn : oh_Ok (pg_X1_wrongedIn T_X1_actor) 5 T_X1_wrongedIn := by
  refine tO2_ok fun n law h μ Post G hG hn hl hh hM q => ?_
  obtain ⟨⟨ht, hh0⟩, q⟩ := q
  have key : ∀ c, 0 ≤ c → c ≤ 6 → G 5 [some (oR 7 n), some (oI law), some (oI h), some (oI (sm (wr1 (μ 8 n) law h) c.toNat)), some (oI c)] [] μ := by
    refine oh_for (F := fun c => 0 ≤ c → c ≤ 6 → G 5 [some (oR 7 n), some (oI law), some (oI h), some (oI (sm (wr1 (μ 8 n) law h) c.toNat)), some (oI c)] [] μ) 6 ?_ ?_
    · intro c hc h0 h1
      have e : c = 6 := by omega
      subst e
      refine oh_go hG [(5, 5)] 40 ?_
      exact ⟨fun _ => q, fun x => absurd hc x⟩
    · intro c hc ih h0 h1
      have ih := ih (by omega) (by omega)
      rw [sm_s _ h0] at ih
      have hr := sm_rg (f := wr1 (μ 8 n) law h) (a := 0) (b := 1) (fun j => (wr1_rg _ _ _ _).1) (fun j => (wr1_rg _ _ _ _).2) c.toNat
      refine oh_go hG [(5, 5)] 40 ?_
      refine ⟨fun x => absurd x (by omega), fun _ => ?_⟩
      refine ⟨⟨⟨ht, ⟨h0, by omega⟩, hh0⟩, ?_⟩, trivial⟩
      unfold wr1 at ih
      refine ⟨fun x => ?_, fun x => ?_⟩
      · rw [if_pos x, Int.add_zero] at ih
        exact ⟨by omega, ih⟩
      · rw [if_neg x] at ih
        exact ⟨by omega, by omega, ih⟩
  refine oh_go hG [(5, 5)] 5 ?_
  exact key 0 (by omega) (by omega)
def rd1 (w : Int → Int) (b h : Int) : Int := if sts w b h = -1 then 1 else 0
theorem rd1_rg (w : Int → Int) (b h : Int) : 0 ≤ rd1 w b h ∧ rd1 w b h ≤ 1 := by unfold rd1; split <;> omega
def rdB (w : Int → Int) (b : Int) : Int := sm (rd1 w b) 24
def rds (w : Int → Int) : Int := sm (rdB w) 6
theorem rdB_rg (w : Int → Int) (b : Int) : 0 ≤ rdB w b ∧ rdB w b ≤ 24 := by
  have := sm_rg (f := rd1 w b) (a := 0) (b := 1) (fun j => (rd1_rg _ _ _).1) (fun j => (rd1_rg _ _ _).2) 24
  unfold rdB
  omega
def T_X1_rounds : Tr := tO0 7 fun n μ Post => tok (μ 8 n) ∧ Post (some (oI (rds (μ 8 n)))) μ
theorem ok_X1_rounds : oh_Ok (pg_X1_rounds T_X1_steps) 4 T_X1_rounds := by
  refine tO0_ok fun n μ Post G hG hn hM q => ?_
  obtain ⟨ht, q⟩ := q
  have outer : ∀ c, 0 ≤ c → c ≤ 6 → G 4 [some (oR 7 n), some (oI (sm (rdB (μ 8 n)) c.toNat)), some (oI c), none] [] μ := by
    refine oh_for (F := fun c => 0 ≤ c → c ≤ 6 → G 4 [some (oR 7 n), some (oI (sm (rdB (μ 8 n)) c.toNat)), some (oI c), none] [] μ) 6 ?_ ?_
    · intro c hc h0 h1
      have e : c = 6 := by omega
      subst e
      refine oh_go hG [(4, 3)] 40 ?_
      exact ⟨fun _ => q, fun x => absurd hc x⟩
    · intro c hc ih h0 h1
      have ih := ih (by omega) (by omega)
      rw [sm_s _ h0] at ih
      have hr := sm_rg (f := rdB (μ 8 n)) (a := 0) (b := 24) (fun j => (rdB_rg _ _).1) (fun j => (rdB_rg _ _).2) c.toNat
      have inner : ∀ d, 0 ≤ d → d ≤ 24 → G 12 [some (oR 7 n), some (oI (sm (rdB (μ 8 n)) c.toNat + sm (rd1 (μ 8 n) c) d.toNat)), some (oI c), some (oI d)] [] μ := by
        refine oh_for (F := fun d => 0 ≤ d → d ≤ 24 → G 12 [some (oR 7 n), some (oI (sm (rdB (μ 8 n)) c.toNat + sm (rd1 (μ 8 n) c) d.toNat)), some (oI c), some (oI d)] [] μ) 24 ?_ ?_
        · intro d hd g0 g1
          have e : d = 24 := by omega
          subst e
          refine oh_go hG [(4, 3)] 40 ?_
          exact ⟨fun _ => ⟨by omega, ih⟩, fun x => absurd hd x⟩
        · intro d hd ih2 g0 g1
          have ih2 := ih2 (by omega) (by omega)
          rw [sm_s _ g0] at ih2
          have hr2 := sm_rg (f := rd1 (μ 8 n) c) (a := 0) (b := 1) (fun j => (rd1_rg _ _ _).1) (fun j => (rd1_rg _ _ _).2) d.toNat
          refine oh_go hG [(12, 4)] 40 ?_
          refine ⟨fun x => absurd x (by omega), fun _ => ?_⟩
          refine ⟨⟨⟨ht, ⟨h0, by omega⟩, g0, by omega⟩, ?_⟩, trivial⟩
          unfold rd1 at ih2
          refine ⟨fun x => ?_, fun x => ?_⟩
          · rw [if_neg x, Int.add_zero] at ih2
            exact ⟨by omega, ih2⟩
          · rw [if_pos (by omega), ← Int.add_assoc] at ih2
            refine ⟨by unfold rd1 at hr2 ⊢; omega, by omega, ih2⟩
      have w := inner 0 (by omega) (by omega)
      rw [show sm (rd1 (μ 8 n) c) (0 : Int).toNat = 0 from rfl, Int.add_zero] at w
      refine oh_go hG [(12, 4)] 40 ?_
      exact ⟨fun x => absurd x (by omega), fun _ => w⟩
  refine oh_go hG [(4, 3)] 5 ?_
  exact outer 0 (by omega) (by omega)
/-- who owns each hour by the first k grants -/
def own (f : Int → Int) : Nat → Int → Int
  | 0, c => c / 24
  | k + 1, c => if c = bo 0 f k * 24 + ho 0 f k then la 0 f k else own f k c
def gv (μ : Mem) (e : Int) : Prop := ∀ k, 0 ≤ k → k < e → k * 5 + 3 < μ 11 0 5 ∧ (0 ≤ bo 0 (μ 12 0) k ∧ bo 0 (μ 12 0) k ≤ 5) ∧ 0 ≤ ho 0 (μ 12 0) k ∧ ho 0 (μ 12 0) k ≤ 23
theorem off_row {s n s' n' : Nat} {lo hi : Int} {μ μ' : Mem} (h : oh_off s n lo hi μ μ') (hs : ¬ (s' = s ∧ n' = n)) : μ' s' n' = μ s' n' := funext fun j => h _ _ _ (fun q => hs ⟨q.1, q.2.1⟩)
theorem tq_row {n : Nat} {μ μ' : Mem} (h : tq n μ) (e1 : μ' 11 n = μ 11 n) (e2 : μ' 12 n = μ 12 n) : tq n μ' := by
  unfold tq at h ⊢
  rw [e1, e2]
  exact h
def T_X1_tell : Tr := tP0 7 11 fun n m μ Post => (m = 0 ∧ tq 0 μ ∧ gv μ (ents 0 (μ 11 0 5) (μ 11 0 6))) ∧ ∀ μ', oh_off 8 n 0 144 μ μ' → (∀ c, 0 ≤ c → c < 144 → μ' 8 n c = own (μ 12 0) (ents 0 (μ 11 0 5) (μ 11 0 6)).toNat c) → Post none μ'
theorem ents_rg {n : Nat} {len br : Int} (h : 0 ≤ len ∧ len ≤ 99) : 0 ≤ ents n len br ∧ ents n len br ≤ 20 := by
  unfold ents
  rcases stp_pos n with e | e <;> rw [e] <;> split <;> omega
theorem ok_X1_tell : oh_Ok (pg_X1_tell T_J7_fill_fda19 T_X3_entries T_X3_bodyOf T_X3_hourOf T_X3_lastOf T_X1_setOwner) 4 T_X1_tell := by
  refine tP0_ok fun n m μ Post G hG hn hm hM h => ?_
  obtain ⟨⟨rfl, hq, hv⟩, h⟩ := h
  have hE := ents_rg (n := 0) (br := μ 11 0 6) hq.2.2.2.2.1
  generalize hEe : ents 0 (μ 11 0 5) (μ 11 0 6) = E at hv h hE
  have second : ∀ c, 0 ≤ c → c ≤ E → ∀ μ', oh_off 8 n 0 144 μ μ' → (∀ j, 0 ≤ j → j < 144 → μ' 8 n j = own (μ 12 0) c.toNat j) → G 39 [some (oR 7 n), some (oR 11 0), some (oI E), some (oI c)] [] μ' := by
    refine oh_for (F := fun c => 0 ≤ c → c ≤ E → ∀ μ', oh_off 8 n 0 144 μ μ' → (∀ j, 0 ≤ j → j < 144 → μ' 8 n j = own (μ 12 0) c.toNat j) → G 39 [some (oR 7 n), some (oR 11 0), some (oI E), some (oI c)] [] μ') E ?_ ?_
    · intro c hc h0 h1 μ' hof hw
      have e : c = E := by omega
      subst e
      refine oh_go hG [(39, 4)] 40 ?_
      exact ⟨fun _ => h μ' hof hw, fun x => absurd hc x⟩
    · intro c hc ih h0 h1 μ' hof hw
      have e11 : μ' 11 0 = μ 11 0 := off_row hof (fun q => absurd q.1 (by decide))
      have e12 : μ' 12 0 = μ 12 0 := off_row hof (fun q => absurd q.1 (by decide))
      have hq' := tq_row hq e11 e12
      obtain ⟨p1, p2, p3⟩ := hv c h0 hc
      refine oh_go hG [(39, 4)] 60 ?_
      refine And.intro (fun x => absurd x (by omega)) (fun _ => ?_)
      refine And.intro ?_ trivial
      refine And.intro ⟨hq', h0, by rw [e11]; show c * 5 + 0 < _; omega⟩ ?_
      refine And.intro ?_ trivial
      refine And.intro ⟨hq', h0, by rw [e11]; show c * 5 + 2 < _; omega⟩ ?_
      refine And.intro ?_ trivial
      refine And.intro ⟨hq', h0, by rw [e11]; exact p1⟩ ?_
      refine And.intro ?_ trivial
      rw [e12]
      refine And.intro ⟨p2, p3⟩ ?_
      refine And.intro (by omega) ?_
      refine ih (by omega) (by omega) _ (oh_off_up hof (by omega) (by omega)) (fun j a b => ?_)
      have e : (c + 1).toNat = c.toNat + 1 := by omega
      have e2 : ((c.toNat : Nat) : Int) = c := by omega
      rw [e]
      show _ = if j = bo 0 (μ 12 0) (c.toNat : Int) * 24 + ho 0 (μ 12 0) (c.toNat : Int) then la 0 (μ 12 0) (c.toNat : Int) else own (μ 12 0) c.toNat j
      rw [e2]
      by_cases ej : j = bo 0 (μ 12 0) c * 24 + ho 0 (μ 12 0) c
      · rw [if_pos ej, ← ej, oh_up_s]
      · rw [if_neg ej, oh_up_o (fun q => ej q.2.2)]
        exact hw j a b
  have first : ∀ c, 0 ≤ c → c ≤ 6 → ∀ μ', oh_off 8 n 0 144 μ μ' → (∀ j, 0 ≤ j → j < 24 * c → μ' 8 n j = j / 24) → G 2 [some (oR 7 n), some (oR 11 0), some (oI c), none] [] μ' := by
    refine oh_for (F := fun c => 0 ≤ c → c ≤ 6 → ∀ μ', oh_off 8 n 0 144 μ μ' → (∀ j, 0 ≤ j → j < 24 * c → μ' 8 n j = j / 24) → G 2 [some (oR 7 n), some (oR 11 0), some (oI c), none] [] μ') 6 ?_ ?_
    · intro c hc h0 h1 μ' hof hw
      have e11 : μ' 11 0 = μ 11 0 := off_row hof (fun q => absurd q.1 (by decide))
      have e12 : μ' 12 0 = μ 12 0 := off_row hof (fun q => absurd q.1 (by decide))
      refine oh_go hG [(39, 4)] 40 ?_
      refine And.intro (fun _ => ?_) (fun x => absurd hc x)
      refine And.intro ?_ trivial
      refine And.intro (tq_row hq e11 e12) ?_
      rw [e11, hEe]
      exact second 0 (by omega) (by omega) μ' hof (fun j a b => hw j a (by omega))
    · intro c hc ih h0 h1 μ' hof hw
      refine oh_go hG [(2, 3)] 60 ?_
      refine And.intro (fun x => absurd x (by omega)) (fun _ => ?_)
      refine And.intro (by omega) ?_
      refine And.intro (by omega) ?_
      refine And.intro (by omega) ?_
      refine And.intro ?_ trivial
      refine And.intro rfl (And.intro ⟨by omega, by omega, by omega⟩ (fun μ2 h2 h3 => ?_))
      refine And.intro (by omega) ?_
      refine ih (by omega) (by omega) μ2 (fun s' n' j' hh => ?_) (fun j a b => ?_)
      · rw [h2 s' n' j' (fun q => hh ⟨q.1, q.2.1, by omega, by omega⟩)]
        exact hof s' n' j' hh
      · by_cases ej : c * 24 ≤ j
        · rw [h3 j ej (by omega)]
          omega
        · rw [h2 8 n j (fun q => ej q.2.2.1)]
          exact hw j a (by omega)
  refine oh_go hG [(2, 3)] 5 ?_
  exact first 0 (by omega) (by omega) μ oh_off_rf (fun j a b => absurd b (by omega))
