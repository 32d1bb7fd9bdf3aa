/-! THE WORLD of the small machine as cells of the heap -/
/-- the tables' words that stay good over calls -/
def oh_tbl : List Cond := lw_tbl.filter goodWord
def oh_ids : List (Nat × Nat) := (List.range 42).flatMap (fun s => (List.range (oh_cnt s)).map (fun n => (s, n)))
theorem oh_nth_big {α : Type} {d : α} : ∀ (l : List α) (n : Nat), l.length ≤ n → oh_nth l n d = d
  | [], _, _ => rfl
  | _ :: l, 0, h => absurd h (by simp)
  | _ :: l, n + 1, h => oh_nth_big l n (by simpa using h)
theorem oh_mem {s n : Nat} (h : n < oh_cnt s) : (s, n) ∈ oh_ids := by
  have hs : s < 42 := by
    rcases Nat.lt_or_ge s 42 with q | q
    · exact q
    · have : oh_cnt s = 0 := oh_nth_big oh_cntT s q
      omega
  simp only [oh_ids, List.mem_flatMap, List.mem_range, List.mem_map]
  exact ⟨s, hs, n, h, rfl⟩
theorem oh_mem_cnt {s n : Nat} (h : (s, n) ∈ oh_ids) : n < oh_cnt s := by
  simp only [oh_ids, List.mem_flatMap, List.mem_range, List.mem_map] at h
  obtain ⟨a, -, b, hb, e⟩ := h
  cases e
  exact hb
theorem oh_place {s n : Nat} (h : n < oh_cnt s) : ∃ k : Nat, oh_ids[k]? = some (s, n) := List.mem_iff_getElem?.mp (oh_mem h)
theorem oh_ids_nd : ∀ i, i < 66 → ∀ j, j < 66 → oh_ids[i]? = oh_ids[j]? → i = j := by decide +kernel
theorem oh_ids_66 : oh_ids.length = 66 := by decide +kernel
theorem oh_ids_in {i j : Nat} {q : Nat × Nat} (h : oh_ids[i]? = some q) (h' : oh_ids[j]? = some q) : i = j := by
  have h1 := (List.getElem?_eq_some_iff.mp h).1
  have h2 := (List.getElem?_eq_some_iff.mp h').1
  rw [oh_ids_66] at h1 h2
  exact oh_ids_nd i h1 j h2 (h.trans h'.symm)
/-- the class of a sort of objects, by its number -/
def oh_ci (s : Nat) : Nat := match s with
  | 0 => 0
  | 7 => 1
  | 9 => 2
  | 11 => 3
  | 13 => 4
  | _ => 5
def oh_nf (s : Nat) : Nat := match oh_look oh_ftT s with
  | some l => l.length
  | none => 0
def oh_fv (ad : Nat → Nat → Nat) (μ : Mem) (s n k : Nat) : Value := match oh_ft s k with
  | (2, t, _) => .ref (ad t n)
  | (3, t, c) => .ref (ad t c)
  | _ => .int (Int32.ofInt (μ s n k))
def oh_ar (L : Nat) (f : Int → Int) : vp_A := (L, .inl (fun j => Int32.ofInt (f j)))
def oh_e (ad : Nat → Nat → Nat) (cA : Nat → Nat → ClassId) (μ : Mem) (s n : Nat) : va_E := match oh_len s with
  | some L => .inl (cA s n, oh_ar L.toNat (μ s n))
  | none => match s with
    | 35 => .inl (cA s n, oh_ar 20 (μ s n))
    | 14 => .inl (cA s n, (3, .inr (.inr (.inr (.inr (fun j => some (ad 0 j)))))))
    | 21 => .inl (cA s n, (4, .inr (.inr (.inr (.inr (fun j => some (ad 9 j)))))))
    | _ => .inr (oh_ci s, (List.range (oh_nf s)).map (oh_fv ad μ s n))
def oh_w (ad : Nat → Nat → Nat) (cA : Nat → Nat → ClassId) (μ : Mem) : va_W := oh_ids.map (fun q => (ad q.1 q.2, oh_e ad cA μ q.1 q.2))
def oh_ty (s : Nat) : FieldType := match s with
  | 35 => .boolean
  | 14 => .object "OthersHours$Day"
  | 21 => .object "OthersHours$Sheet"
  | _ => .int
def oh_isA (s : Nat) : Bool := match oh_look oh_ftT s with
  | some _ => false
  | none => true
def oh_tys (cA : Nat → Nat → ClassId) : List (ClassId × FieldType) := (oh_ids.filter (fun q => oh_isA q.1)).map (fun q => (cA q.1 q.2, oh_ty q.1))
theorem oh_tys_at {cA : Nat → Nat → ClassId} {s n : Nat} (h : n < oh_cnt s) (ha : oh_isA s = true) : ∃ k : Nat, (oh_tys cA)[k]? = some (cA s n, oh_ty s) := by
  refine List.mem_iff_getElem?.mp ?_
  refine List.mem_map.mpr ⟨(s, n), List.mem_filter.mpr ⟨oh_mem h, ha⟩, rfl⟩
theorem oh_w_at {ad : Nat → Nat → Nat} {cA : Nat → Nat → ClassId} {μ : Mem} {k s n : Nat} (h : oh_ids[k]? = some (s, n)) : (oh_w ad cA μ)[k]? = some (ad s n, oh_e ad cA μ s n) := by
  simp [oh_w, h]
theorem oh_w_set {ad : Nat → Nat → Nat} {cA : Nat → Nat → ClassId} {μ μ' : Mem} {k s n : Nat} {x : va_E} (h : oh_ids[k]? = some (s, n)) (hx : x = oh_e ad cA μ' s n) (ho : ∀ s' n', ¬ (s' = s ∧ n' = n) → oh_e ad cA μ' s' n' = oh_e ad cA μ s' n') :
    (oh_w ad cA μ).set k (ad s n, x) = oh_w ad cA μ' := by
  subst hx
  apply List.ext_getElem?
  intro i
  simp only [oh_w, List.getElem?_set, List.length_map, List.getElem?_map]
  have hk : k < oh_ids.length := (List.getElem?_eq_some_iff.mp h).1
  by_cases e : k = i
  · subst e
    rw [if_pos rfl, if_pos hk, h]
    rfl
  · rw [if_neg e]
    cases hi : oh_ids[i]? with
    | none => rfl
    | some q =>
      simp only [Option.map_some]
      rw [ho q.1 q.2 ?_]
      rintro ⟨rfl, rfl⟩
      exact e (oh_ids_in h hi)
theorem oh_up_s {μ : Mem} {s n : Nat} {j v : Int} : oh_up μ s n j v s n j = v := by simp [oh_up]
theorem oh_up_o {μ : Mem} {s n s' n' : Nat} {j v j' : Int} (h : ¬ (s' = s ∧ n' = n ∧ j' = j)) : oh_up μ s n j v s' n' j' = μ s' n' j' := by simp [oh_up, h]
theorem oh_e_off {ad : Nat → Nat → Nat} {cA : Nat → Nat → ClassId} {μ μ' : Mem} {s n : Nat} (h : ∀ j, μ' s n j = μ s n j) : oh_e ad cA μ' s n = oh_e ad cA μ s n := by
  have e : μ' s n = μ s n := funext h
  have ef : oh_fv ad μ' s n = oh_fv ad μ s n := by
    funext k
    unfold oh_fv
    rw [e]
  unfold oh_e
  rw [e, ef]
theorem oh_e_up {ad : Nat → Nat → Nat} {cA : Nat → Nat → ClassId} {μ : Mem} {s n : Nat} {j v : Int} : ∀ s' n', ¬ (s' = s ∧ n' = n) → oh_e ad cA (oh_up μ s n j v) s' n' = oh_e ad cA μ s' n' := fun s' n' h => oh_e_off (fun j' => oh_up_o (fun q => h ⟨q.1, q.2.1⟩))
/-- numbers -/
theorem oh_toInt {x : Int} (h : oh_rgI x) : (Int32.ofInt x).toInt = x := by
  obtain ⟨h1, h2⟩ := h
  exact Int32.toInt_ofInt_of_le (by omega) (by omega)
theorem oh_toInt64 {x : Int} (h : oh_rgL x) : (Int64.ofInt x).toInt = x := by
  obtain ⟨h1, h2⟩ := h
  exact Int64.toInt_ofInt_of_le (by omega) (by omega)
theorem oh_rg32 (x : Int32) : oh_rgI x.toInt := ⟨by have := x.le_toInt; omega, by have := x.toInt_lt; omega⟩
theorem oh_rg64 (x : Int64) : oh_rgL x.toInt := ⟨by have := x.le_toInt; omega, by have := x.toInt_lt; omega⟩
theorem oh_eq32 {x y : Int} (hx : oh_rgI x) (hy : oh_rgI y) : Int32.ofInt x = Int32.ofInt y ↔ x = y := by
  rw [← Int32.toInt_inj, oh_toInt hx, oh_toInt hy]
theorem oh_lt32 {x y : Int} (hx : oh_rgI x) (hy : oh_rgI y) : Int32.ofInt x < Int32.ofInt y ↔ x < y := by
  rw [Int32.lt_iff_toInt_lt, oh_toInt hx, oh_toInt hy]
theorem oh_le32 {x y : Int} (hx : oh_rgI x) (hy : oh_rgI y) : Int32.ofInt x ≤ Int32.ofInt y ↔ x ≤ y := by
  rw [Int32.le_iff_toInt_le, oh_toInt hx, oh_toInt hy]
theorem oh_in {i : Int} {L : Nat} (h1 : 0 ≤ i) (h2 : i < L) (hL : L ≤ 2147483647) : vp_in (Int32.ofInt i) L ∧ (Int32.ofInt i).toNatClampNeg = i.toNat := by
  have hr : oh_rgI i := ⟨by omega, by omega⟩
  refine ⟨vp_in_iff.mpr ?_, ?_⟩
  · rw [oh_toInt hr]
    exact ⟨h1, h2⟩
  · show (Int32.ofInt i).toInt.toNat = i.toNat
    rw [oh_toInt hr]
theorem oh_div32 {x y : Int} (hx : oh_rgI x) (hy : oh_rgI y) (h0 : 0 ≤ x) (h1 : 0 < y) : Int32.ofInt x / Int32.ofInt y = Int32.ofInt (x / y) := by
  have hb : x / y ≤ x := Int.ediv_le_self y h0
  have hc : 0 ≤ x / y := Int.ediv_nonneg h0 (Int.le_of_lt h1)
  have hr : oh_rgI (x / y) := ⟨by omega, by have := hx.2; omega⟩
  rw [← Int32.toInt_inj, oh_toInt hr, Int32.toInt_div_of_ne_right, oh_toInt hx, oh_toInt hy, Int.tdiv_eq_ediv_of_nonneg h0]
  intro q
  have := congrArg Int32.toInt q
  rw [oh_toInt hy] at this
  have h3 : (-1 : Int32).toInt = -1 := by decide
  omega
theorem oh_rem32 {x y : Int} (hx : oh_rgI x) (hy : oh_rgI y) (h0 : 0 ≤ x) (h1 : 0 < y) : Int32.ofInt x - Int32.ofInt x / Int32.ofInt y * Int32.ofInt y = Int32.ofInt (x % y) := by
  rw [oh_div32 hx hy h0 h1, ← Int32.ofInt_mul, ← Int32.ofInt_sub]
  congr 1
  have := Int.emod_def x y
  rw [this, Int.mul_comm]
theorem oh_up_wf {μ : Mem} {s n : Nat} {j v : Int} (h : oh_wfM μ) (hv : oh_rgI v) : oh_wfM (oh_up μ s n j v) := by
  intro s' n' j'
  unfold oh_up
  split
  · exact hv
  · exact h _ _ _
/-- values of the small machine as the machine's -/
def oh_re (ad : Nat → Nat → Nat) (tc : Nat → Nat) (v : AV) : Value := match v with
  | Sum.inl x => .int (Int32.ofInt x)
  | Sum.inr (Sum.inl x) => .long (Int64.ofInt x)
  | Sum.inr (Sum.inr (Sum.inl q)) => .ref (ad q.1 q.2)
  | Sum.inr (Sum.inr (Sum.inr c)) => .ref (tc c)
theorem oh_re_cat (ad : Nat → Nat → Nat) (tc : Nat → Nat) (l : List AV) : ((l.map (oh_re ad tc)).map fun v => v.category).sum = oh_cat l := by
  induction l with
  | nil => rfl
  | cons v l ih =>
    rw [List.map_cons, List.map_cons, List.sum_cons, ih]
    rcases v with x | x | q | c <;> simp [oh_re, oh_cat, Value.category] <;> omega
/-- the machine's locals hold those of the small machine -/
def oh_lv (ad : Nat → Nat → Nat) (tc : Nat → Nat) (ls : LV) : List (Nat × Value) := (List.range ls.length).filterMap (fun i => (oh_nth ls i none).map (fun v => (i, oh_re ad tc v)))
theorem oh_nth_lt {ls : LV} {i : Nat} {v : AV} (h : oh_nth ls i none = some v) : i < ls.length := by
  rcases Nat.lt_or_ge i ls.length with q | q
  · exact q
  · rw [oh_nth_big ls i q] at h
    cases h
theorem oh_lv_in {ad : Nat → Nat → Nat} {tc : Nat → Nat} {ls : LV} {i : Nat} {v : AV} (h : oh_nth ls i none = some v) : (i, oh_re ad tc v) ∈ oh_lv ad tc ls := by
  refine List.mem_filterMap.mpr ⟨i, List.mem_range.mpr (oh_nth_lt h), ?_⟩
  rw [h]
  rfl
theorem oh_lv_of {ad : Nat → Nat → Nat} {tc : Nat → Nat} {ls : LV} {q : Nat × Value} (h : q ∈ oh_lv ad tc ls) : ∃ v, oh_nth ls q.1 none = some v ∧ q.2 = oh_re ad tc v := by
  obtain ⟨i, -, hi⟩ := List.mem_filterMap.mp h
  cases hn : oh_nth ls i none with
  | none => rw [hn] at hi; cases hi
  | some v =>
    rw [hn] at hi
    cases hi
    exact ⟨v, hn, rfl⟩
def oh_L (ad : Nat → Nat → Nat) (tc : Nat → Nat) (nL : Nat) (lr : Array Slot) (ls : LV) : Prop := lv_has lr nL (oh_lv ad tc ls)
theorem oh_L_at {ad : Nat → Nat → Nat} {tc : Nat → Nat} {nL : Nat} {lr : Array Slot} {ls : LV} (h : oh_L ad tc nL lr ls) {i : Nat} {v : AV} (hi : oh_nth ls i none = some v) : lr[i]? = some (.val (oh_re ad tc v)) := h.2.2 _ (oh_lv_in hi)
theorem oh_L_of {ad : Nat → Nat → Nat} {tc : Nat → Nat} {nL : Nat} {lr : Array Slot} {ls : LV} {l : List (Nat × Value)} (h : lv_has lr nL l) (hi : ∀ i v, oh_nth ls i none = some v → (i, oh_re ad tc v) ∈ l) : oh_L ad tc nL lr ls := by
  refine ⟨h.1, h.2.1, fun q hq => ?_⟩
  obtain ⟨v, h1, h2⟩ := oh_lv_of hq
  have := h.2.2 _ (hi _ _ h1)
  rw [← h2] at this
  exact this
/-- the list with a place changed -/
def oh_sv : LV → Nat → Option AV → LV
  | [], _, _ => []
  | _ :: l, 0, v => v :: l
  | a :: l, i + 1, v => a :: oh_sv l i v
theorem oh_put_of {v : Option AV} : ∀ (ls : LV) (i : Nat) (k : LV → Prop), oh_put ls i v k → i < ls.length ∧ k (oh_sv ls i v)
  | [], _, _, h => absurd h (by simp [oh_put])
  | _ :: _, 0, _, h => ⟨by simp, h⟩
  | a :: l, i + 1, k, h => by
    obtain ⟨h1, h2⟩ := oh_put_of l i (fun l' => k (a :: l')) h
    exact ⟨by simp; omega, h2⟩
theorem oh_sv_nth {v : Option AV} : ∀ (ls : LV) (i j : Nat), i < ls.length → oh_nth (oh_sv ls i v) j none = if j = i then v else oh_nth ls j none
  | [], _, _, h => absurd h (by simp)
  | _ :: _, 0, 0, _ => rfl
  | _ :: _, 0, _ + 1, _ => by simp [oh_sv, oh_nth]
  | _ :: _, _ + 1, 0, _ => by simp [oh_sv, oh_nth]
  | _ :: l, i + 1, j + 1, h => by
    have := oh_sv_nth (v := v) l i j (by simpa using h)
    simp [oh_sv, oh_nth, this]
theorem oh_sv_len {v : Option AV} : ∀ (ls : LV) (i : Nat), (oh_sv ls i v).length = ls.length
  | [], _ => rfl
  | _ :: _, 0 => rfl
  | _ :: l, i + 1 => by simp [oh_sv, oh_sv_len l i]
def oh_tr : Nat → LV → LV
  | _, [] => []
  | 0, _ :: l => none :: oh_tr 0 l
  | n + 1, a :: l => a :: oh_tr n l
theorem oh_trK_of : ∀ (n : Nat) (ls : LV) (k : LV → Prop), oh_trK n ls k → k (oh_tr n ls)
  | 0, [], _, h => h
  | _ + 1, [], _, h => h
  | 0, a :: l, k, h => oh_trK_of 0 l (fun l' => k (none :: l')) h
  | n + 1, a :: l, k, h => oh_trK_of n l (fun l' => k (a :: l')) h
theorem oh_tr_nth : ∀ (n : Nat) (ls : LV) (i : Nat) (v : AV), oh_nth (oh_tr n ls) i none = some v → oh_nth ls i none = some v
  | _, [], _, _, h => by cases ‹Nat› <;> simp [oh_tr, oh_nth] at h
  | 0, _ :: l, 0, _, h => by simp [oh_tr, oh_nth] at h
  | 0, _ :: l, i + 1, v, h => oh_tr_nth 0 l i v h
  | _ + 1, _ :: _, 0, _, h => h
  | n + 1, _ :: l, i + 1, v, h => oh_tr_nth n l i v h
theorem oh_tr_len : ∀ (n : Nat) (ls : LV), (oh_tr n ls).length = ls.length
  | 0, [] => rfl
  | _ + 1, [] => rfl
  | 0, _ :: l => by simp [oh_tr, oh_tr_len 0 l]
  | n + 1, _ :: l => by simp [oh_tr, oh_tr_len n l]
theorem oh_nth_mem : ∀ (ls : LV) (i : Nat) (v : AV), oh_nth ls i none = some v → some v ∈ ls
  | [], _, _, h => by simp [oh_nth] at h
  | a :: l, 0, v, h => by
    simp [oh_nth] at h
    simp [h]
  | a :: l, i + 1, v, h => List.mem_cons_of_mem _ (oh_nth_mem l i v h)
theorem oh_mem_nth : ∀ (ls : LV) (v : AV), some v ∈ ls → ∃ i, oh_nth ls i none = some v
  | a :: l, v, h => by
    rcases List.mem_cons.mp h with h | h
    · exact ⟨0, h.symm⟩
    · obtain ⟨i, hi⟩ := oh_mem_nth l v h
      exact ⟨i + 1, hi⟩
