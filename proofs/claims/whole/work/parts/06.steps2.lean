/-! STEPS: arithmetic, branches, the stack -/
section OhG2
variable {p : Program} {l : Launch} {e : Env} {R : Room} {s : State} {m : MethodId} {args : Array Value} {below : List Frame} {meth : Method} {c : Code} {cells slots : Nat} {Q : State → Prop}
variable {D : va_G} {ad : Nat → Nat → Nat} {tc : Nat → Nat} {cA : Nat → Nat → ClassId} {A : Nat → Prop} {nL : Nat} {cc : ByteArray} {own : String} {K : Kt} {pc nx : Nat} {ls : LV} {st : List AV} {μ : Mem} {tg : List (Int × Nat)}
theorem oh_and_re (x y : Int) : Int32.ofInt x &&& Int32.ofInt y = Int32.ofInt (oh_and x y) := (Int32.ofInt_toInt _).symm
theorem oh_or_re (x y : Int) : Int32.ofInt x ||| Int32.ofInt y = Int32.ofInt (oh_or x y) := (Int32.ofInt_toInt _).symm
theorem oh_xor_re (x y : Int) : Int32.ofInt x ^^^ Int32.ofInt y = Int32.ofInt (oh_xor x y) := (Int32.ofInt_toInt _).symm
theorem oh_shl_re (x y : Int) : Int32.ofInt x <<< (Int32.ofInt y &&& 31) = Int32.ofInt (oh_shl x y) := (Int32.ofInt_toInt _).symm
theorem oh_shr_re (x y : Int) : Int32.ofInt x >>> (Int32.ofInt y &&& 31) = Int32.ofInt (oh_shr x y) := (Int32.ofInt_toInt _).symm
theorem oh_ushr_re (x y : Int) : ((Int32.ofInt x).toUInt32 >>> ((Int32.ofInt y).toUInt32 &&& Int32.toUInt32 31)).toInt32 = Int32.ofInt (oh_ushr x y) := (Int32.ofInt_toInt _).symm
theorem oh_i2b_re (x : Int) : (Int32.ofInt x).toInt8.toInt32 = Int32.ofInt (oh_i2b x) := (Int32.ofInt_toInt _).symm
theorem oh_i2s_re (x : Int) : (Int32.ofInt x).toInt16.toInt32 = Int32.ofInt (oh_i2s x) := (Int32.ofInt_toInt _).symm
theorem oh_w64_re (x : Int) : Int64.ofInt x = Int64.ofInt (oh_w64 x) := (Int64.ofInt_toInt _).symm
theorem oh_i2l_re {x : Int} (h : oh_rgI x) : (Int32.ofInt x).toInt64 = Int64.ofInt x := by
  rw [← Int64.toInt_inj, Int32.toInt_toInt64, oh_toInt h, oh_toInt64 ⟨by have := h.1; omega, by have := h.2; omega⟩]
theorem oh_cmp_re {x y : Int} (hx : oh_rgL x) (hy : oh_rgL y) : lg_cmp (Int64.ofInt x) (Int64.ofInt y) = Int32.ofInt (oh_cmp x y) := by
  unfold lg_cmp oh_cmp
  have e1 : (Int64.ofInt x > Int64.ofInt y) ↔ y < x := by
    show Int64.ofInt y < Int64.ofInt x ↔ y < x
    rw [Int64.lt_iff_toInt_lt, oh_toInt64 hx, oh_toInt64 hy]
  have e2 : (Int64.ofInt x = Int64.ofInt y) ↔ x = y := by
    rw [← Int64.toInt_inj, oh_toInt64 hx, oh_toInt64 hy]
  by_cases h1 : y < x
  · rw [if_pos (e1.mpr h1), if_neg (by omega), if_neg (by omega)]
    rfl
  · rw [if_neg (fun q => h1 (e1.mp q))]
    by_cases h2 : x = y
    · rw [if_pos (e2.mpr h2), if_neg (by omega), if_pos h2]
      rfl
    · rw [if_neg (fun q => h2 (e2.mp q)), if_pos (by omega)]
      rfl
theorem oh_cmp_rg (x y : Int) : oh_rgI (oh_cmp x y) := by
  unfold oh_cmp oh_rgI
  split
  · omega
  · split <;> omega
theorem oh_br_of {q : Prop} {k : Nat → Prop} (h : oh_br q tg nx k) : ∃ a t r, tg = (a, t) :: r ∧ (q → k t) ∧ (¬ q → k nx) := by
  unfold oh_br at h
  split at h
  · exact ⟨_, _, _, rfl, h⟩
  · exact h.elim

theorem g_iadd (hx : p.tables.exec = Jvm.exec) (hb : c.code = cc) (hK : ∀ pc ls st μ, K pc ls st μ → oh_G p l e R s m args below meth c cells slots Q D ad tc cA A nL pc ls st μ) (hd : decode cc pc = .ok (.iadd, 1)) (hn : nx = pc + 1) (h : oh_b2 st (fun x y st1 => oh_rg (x + y) (K nx ls (oI (x + y) :: st1) μ))) : oh_G p l e R s m args below meth c cells slots Q D ad tc cA A nL pc ls st μ := by
  subst hn
  obtain ⟨x, y, st1, rfl, h⟩ := oh_b2_of h
  obtain ⟨hr, h⟩ := h
  intro h0 h1 h2 h3 H locs lr hP hD hS hL
  obtain ⟨hy, h2⟩ := List.forall_mem_cons.mp h2
  obtain ⟨hx1, h2⟩ := List.forall_mem_cons.mp h2
  have w := hK _ _ _ _ h h0 h1 (List.forall_mem_cons.mpr ⟨hr, h2⟩) h3 H locs lr hP hD hS hL
  refine lv_iadd hx hb hd ?_
  rw [← Int32.ofInt_add]
  exact w
theorem g_isub (hx : p.tables.exec = Jvm.exec) (hb : c.code = cc) (hK : ∀ pc ls st μ, K pc ls st μ → oh_G p l e R s m args below meth c cells slots Q D ad tc cA A nL pc ls st μ) (hd : decode cc pc = .ok (.isub, 1)) (hn : nx = pc + 1) (h : oh_b2 st (fun x y st1 => oh_rg (x - y) (K nx ls (oI (x - y) :: st1) μ))) : oh_G p l e R s m args below meth c cells slots Q D ad tc cA A nL pc ls st μ := by
  subst hn
  obtain ⟨x, y, st1, rfl, h⟩ := oh_b2_of h
  obtain ⟨hr, h⟩ := h
  intro h0 h1 h2 h3 H locs lr hP hD hS hL
  obtain ⟨hy, h2⟩ := List.forall_mem_cons.mp h2
  obtain ⟨hx1, h2⟩ := List.forall_mem_cons.mp h2
  have w := hK _ _ _ _ h h0 h1 (List.forall_mem_cons.mpr ⟨hr, h2⟩) h3 H locs lr hP hD hS hL
  refine lv_isub hx hb hd ?_
  rw [← Int32.ofInt_sub]
  exact w
theorem g_imul (hx : p.tables.exec = Jvm.exec) (hb : c.code = cc) (hK : ∀ pc ls st μ, K pc ls st μ → oh_G p l e R s m args below meth c cells slots Q D ad tc cA A nL pc ls st μ) (hd : decode cc pc = .ok (.imul, 1)) (hn : nx = pc + 1) (h : oh_b2 st (fun x y st1 => oh_rg (x * y) (K nx ls (oI (x * y) :: st1) μ))) : oh_G p l e R s m args below meth c cells slots Q D ad tc cA A nL pc ls st μ := by
  subst hn
  obtain ⟨x, y, st1, rfl, h⟩ := oh_b2_of h
  obtain ⟨hr, h⟩ := h
  intro h0 h1 h2 h3 H locs lr hP hD hS hL
  obtain ⟨hy, h2⟩ := List.forall_mem_cons.mp h2
  obtain ⟨hx1, h2⟩ := List.forall_mem_cons.mp h2
  have w := hK _ _ _ _ h h0 h1 (List.forall_mem_cons.mpr ⟨hr, h2⟩) h3 H locs lr hP hD hS hL
  refine lv_imul hx hb hd ?_
  rw [← Int32.ofInt_mul]
  exact w
theorem g_iand (hx : p.tables.exec = Jvm.exec) (hb : c.code = cc) (hK : ∀ pc ls st μ, K pc ls st μ → oh_G p l e R s m args below meth c cells slots Q D ad tc cA A nL pc ls st μ) (hd : decode cc pc = .ok (.iand, 1)) (hn : nx = pc + 1) (h : oh_b2 st (fun x y st1 => K nx ls (oI (oh_and x y) :: st1) μ)) : oh_G p l e R s m args below meth c cells slots Q D ad tc cA A nL pc ls st μ := by
  subst hn
  obtain ⟨x, y, st1, rfl, h⟩ := oh_b2_of h
  intro h0 h1 h2 h3 H locs lr hP hD hS hL
  obtain ⟨hy, h2⟩ := List.forall_mem_cons.mp h2
  obtain ⟨hx1, h2⟩ := List.forall_mem_cons.mp h2
  have w := hK _ _ _ _ h h0 h1 (List.forall_mem_cons.mpr ⟨oh_rg32 _, h2⟩) h3 H locs lr hP hD hS hL
  refine lv_iand hx hb hd ?_
  rw [oh_and_re]
  exact w
theorem g_ior (hx : p.tables.exec = Jvm.exec) (hb : c.code = cc) (hK : ∀ pc ls st μ, K pc ls st μ → oh_G p l e R s m args below meth c cells slots Q D ad tc cA A nL pc ls st μ) (hd : decode cc pc = .ok (.ior, 1)) (hn : nx = pc + 1) (h : oh_b2 st (fun x y st1 => K nx ls (oI (oh_or x y) :: st1) μ)) : oh_G p l e R s m args below meth c cells slots Q D ad tc cA A nL pc ls st μ := by
  subst hn
  obtain ⟨x, y, st1, rfl, h⟩ := oh_b2_of h
  intro h0 h1 h2 h3 H locs lr hP hD hS hL
  obtain ⟨hy, h2⟩ := List.forall_mem_cons.mp h2
  obtain ⟨hx1, h2⟩ := List.forall_mem_cons.mp h2
  have w := hK _ _ _ _ h h0 h1 (List.forall_mem_cons.mpr ⟨oh_rg32 _, h2⟩) h3 H locs lr hP hD hS hL
  refine lv_ior hx hb hd ?_
  rw [oh_or_re]
  exact w
theorem g_ixor (hx : p.tables.exec = Jvm.exec) (hb : c.code = cc) (hK : ∀ pc ls st μ, K pc ls st μ → oh_G p l e R s m args below meth c cells slots Q D ad tc cA A nL pc ls st μ) (hd : decode cc pc = .ok (.ixor, 1)) (hn : nx = pc + 1) (h : oh_b2 st (fun x y st1 => K nx ls (oI (oh_xor x y) :: st1) μ)) : oh_G p l e R s m args below meth c cells slots Q D ad tc cA A nL pc ls st μ := by
  subst hn
  obtain ⟨x, y, st1, rfl, h⟩ := oh_b2_of h
  intro h0 h1 h2 h3 H locs lr hP hD hS hL
  obtain ⟨hy, h2⟩ := List.forall_mem_cons.mp h2
  obtain ⟨hx1, h2⟩ := List.forall_mem_cons.mp h2
  have w := hK _ _ _ _ h h0 h1 (List.forall_mem_cons.mpr ⟨oh_rg32 _, h2⟩) h3 H locs lr hP hD hS hL
  refine lv_ixor hx hb hd ?_
  rw [oh_xor_re]
  exact w
theorem g_ishl (hx : p.tables.exec = Jvm.exec) (hb : c.code = cc) (hK : ∀ pc ls st μ, K pc ls st μ → oh_G p l e R s m args below meth c cells slots Q D ad tc cA A nL pc ls st μ) (hd : decode cc pc = .ok (.ishl, 1)) (hn : nx = pc + 1) (h : oh_b2 st (fun x y st1 => K nx ls (oI (oh_shl x y) :: st1) μ)) : oh_G p l e R s m args below meth c cells slots Q D ad tc cA A nL pc ls st μ := by
  subst hn
  obtain ⟨x, y, st1, rfl, h⟩ := oh_b2_of h
  intro h0 h1 h2 h3 H locs lr hP hD hS hL
  obtain ⟨hy, h2⟩ := List.forall_mem_cons.mp h2
  obtain ⟨hx1, h2⟩ := List.forall_mem_cons.mp h2
  have w := hK _ _ _ _ h h0 h1 (List.forall_mem_cons.mpr ⟨oh_rg32 _, h2⟩) h3 H locs lr hP hD hS hL
  refine lv_ishl hx hb hd ?_
  rw [oh_shl_re]
  exact w
theorem g_ishr (hx : p.tables.exec = Jvm.exec) (hb : c.code = cc) (hK : ∀ pc ls st μ, K pc ls st μ → oh_G p l e R s m args below meth c cells slots Q D ad tc cA A nL pc ls st μ) (hd : decode cc pc = .ok (.ishr, 1)) (hn : nx = pc + 1) (h : oh_b2 st (fun x y st1 => K nx ls (oI (oh_shr x y) :: st1) μ)) : oh_G p l e R s m args below meth c cells slots Q D ad tc cA A nL pc ls st μ := by
  subst hn
  obtain ⟨x, y, st1, rfl, h⟩ := oh_b2_of h
  intro h0 h1 h2 h3 H locs lr hP hD hS hL
  obtain ⟨hy, h2⟩ := List.forall_mem_cons.mp h2
  obtain ⟨hx1, h2⟩ := List.forall_mem_cons.mp h2
  have w := hK _ _ _ _ h h0 h1 (List.forall_mem_cons.mpr ⟨oh_rg32 _, h2⟩) h3 H locs lr hP hD hS hL
  refine lv_ishr hx hb hd ?_
  rw [oh_shr_re]
  exact w
theorem g_iushr (hx : p.tables.exec = Jvm.exec) (hb : c.code = cc) (hK : ∀ pc ls st μ, K pc ls st μ → oh_G p l e R s m args below meth c cells slots Q D ad tc cA A nL pc ls st μ) (hd : decode cc pc = .ok (.iushr, 1)) (hn : nx = pc + 1) (h : oh_b2 st (fun x y st1 => K nx ls (oI (oh_ushr x y) :: st1) μ)) : oh_G p l e R s m args below meth c cells slots Q D ad tc cA A nL pc ls st μ := by
  subst hn
  obtain ⟨x, y, st1, rfl, h⟩ := oh_b2_of h
  intro h0 h1 h2 h3 H locs lr hP hD hS hL
  obtain ⟨hy, h2⟩ := List.forall_mem_cons.mp h2
  obtain ⟨hx1, h2⟩ := List.forall_mem_cons.mp h2
  exact lv_iushr hx hb hd (oh_ushr_re x y) (hK _ _ _ _ h h0 h1 (List.forall_mem_cons.mpr ⟨oh_rg32 _, h2⟩) h3 H locs lr hP hD hS hL)
theorem g_idiv (hx : p.tables.exec = Jvm.exec) (hb : c.code = cc) (hK : ∀ pc ls st μ, K pc ls st μ → oh_G p l e R s m args below meth c cells slots Q D ad tc cA A nL pc ls st μ) (hd : decode cc pc = .ok (.idiv, 1)) (hn : nx = pc + 1) (h : oh_b2 st (fun x y st1 => (0 ≤ x ∧ 0 < y) ∧ K nx ls (oI (x / y) :: st1) μ)) : oh_G p l e R s m args below meth c cells slots Q D ad tc cA A nL pc ls st μ := by
  subst hn
  obtain ⟨x, y, st1, rfl, h⟩ := oh_b2_of h
  intro h0 h1 h2 h3 H locs lr hP hD hS hL
  obtain ⟨hy, h2⟩ := List.forall_mem_cons.mp h2
  obtain ⟨hx1, h2⟩ := List.forall_mem_cons.mp h2
  have hx1 : oh_rgI x := hx1
  have hy : oh_rgI y := hy
  have hne : ¬ Int32.ofInt y = 0 := by
    intro q
    have := congrArg Int32.toInt q
    rw [oh_toInt hy] at this
    have h9 : (0 : Int32).toInt = 0 := by decide
    have := h.1.2
    omega
  have hr : oh_rgI (x / y) := by
    have a1 := h.1.1
    have a2 := h.1.2
    have b1 : x / y ≤ x := Int.ediv_le_self y a1
    have b2 : 0 ≤ x / y := Int.ediv_nonneg a1 (Int.le_of_lt a2)
    have b3 : 0 ≤ x % y := Int.emod_nonneg x (by omega)
    have b4 : x % y < y := Int.emod_lt_of_pos x a2
    have b5 := hx1.2
    have b6 := hy.2
    exact ⟨by omega, by omega⟩
  have w := hK _ _ _ _ h.2 h0 h1 (List.forall_mem_cons.mpr ⟨hr, h2⟩) h3 H locs lr hP hD hS hL
  refine lv_idiv hx hb hd hne ?_
  rw [oh_div32 hx1 hy h.1.1 h.1.2]
  exact w
theorem g_irem (hx : p.tables.exec = Jvm.exec) (hb : c.code = cc) (hK : ∀ pc ls st μ, K pc ls st μ → oh_G p l e R s m args below meth c cells slots Q D ad tc cA A nL pc ls st μ) (hd : decode cc pc = .ok (.irem, 1)) (hn : nx = pc + 1) (h : oh_b2 st (fun x y st1 => (0 ≤ x ∧ 0 < y) ∧ K nx ls (oI (x % y) :: st1) μ)) : oh_G p l e R s m args below meth c cells slots Q D ad tc cA A nL pc ls st μ := by
  subst hn
  obtain ⟨x, y, st1, rfl, h⟩ := oh_b2_of h
  intro h0 h1 h2 h3 H locs lr hP hD hS hL
  obtain ⟨hy, h2⟩ := List.forall_mem_cons.mp h2
  obtain ⟨hx1, h2⟩ := List.forall_mem_cons.mp h2
  have hx1 : oh_rgI x := hx1
  have hy : oh_rgI y := hy
  have hne : ¬ Int32.ofInt y = 0 := by
    intro q
    have := congrArg Int32.toInt q
    rw [oh_toInt hy] at this
    have h9 : (0 : Int32).toInt = 0 := by decide
    have := h.1.2
    omega
  have hr : oh_rgI (x % y) := by
    have a1 := h.1.1
    have a2 := h.1.2
    have b1 : x / y ≤ x := Int.ediv_le_self y a1
    have b2 : 0 ≤ x / y := Int.ediv_nonneg a1 (Int.le_of_lt a2)
    have b3 : 0 ≤ x % y := Int.emod_nonneg x (by omega)
    have b4 : x % y < y := Int.emod_lt_of_pos x a2
    have b5 := hx1.2
    have b6 := hy.2
    exact ⟨by omega, by omega⟩
  have w := hK _ _ _ _ h.2 h0 h1 (List.forall_mem_cons.mpr ⟨hr, h2⟩) h3 H locs lr hP hD hS hL
  refine lv_irem hx hb hd hne ?_
  rw [oh_rem32 hx1 hy h.1.1 h.1.2]
  exact w
theorem g_i2b (hx : p.tables.exec = Jvm.exec) (hb : c.code = cc) (hK : ∀ pc ls st μ, K pc ls st μ → oh_G p l e R s m args below meth c cells slots Q D ad tc cA A nL pc ls st μ) (hd : decode cc pc = .ok (.i2b, 1)) (hn : nx = pc + 1) (h : oh_b1 st (fun x st1 => K nx ls (oI (oh_i2b x) :: st1) μ)) : oh_G p l e R s m args below meth c cells slots Q D ad tc cA A nL pc ls st μ := by
  subst hn
  obtain ⟨x, st1, rfl, h⟩ := oh_b1_of h
  intro h0 h1 h2 h3 H locs lr hP hD hS hL
  obtain ⟨hx1, h2⟩ := List.forall_mem_cons.mp h2
  exact lv_i2b hx hb hd (oh_i2b_re x) (hK _ _ _ _ h h0 h1 (List.forall_mem_cons.mpr ⟨oh_rg32 _, h2⟩) h3 H locs lr hP hD hS hL)
theorem g_i2s (hx : p.tables.exec = Jvm.exec) (hb : c.code = cc) (hK : ∀ pc ls st μ, K pc ls st μ → oh_G p l e R s m args below meth c cells slots Q D ad tc cA A nL pc ls st μ) (hd : decode cc pc = .ok (.i2s, 1)) (hn : nx = pc + 1) (h : oh_b1 st (fun x st1 => K nx ls (oI (oh_i2s x) :: st1) μ)) : oh_G p l e R s m args below meth c cells slots Q D ad tc cA A nL pc ls st μ := by
  subst hn
  obtain ⟨x, st1, rfl, h⟩ := oh_b1_of h
  intro h0 h1 h2 h3 H locs lr hP hD hS hL
  obtain ⟨hx1, h2⟩ := List.forall_mem_cons.mp h2
  exact lv_i2s hx hb hd (oh_i2s_re x) (hK _ _ _ _ h h0 h1 (List.forall_mem_cons.mpr ⟨oh_rg32 _, h2⟩) h3 H locs lr hP hD hS hL)
theorem g_i2l (hx : p.tables.exec = Jvm.exec) (hb : c.code = cc) (hK : ∀ pc ls st μ, K pc ls st μ → oh_G p l e R s m args below meth c cells slots Q D ad tc cA A nL pc ls st μ) (hd : decode cc pc = .ok (.i2l, 1)) (hn : nx = pc + 1) (h : oh_b1 st (fun x st1 => K nx ls (oL x :: st1) μ)) : oh_G p l e R s m args below meth c cells slots Q D ad tc cA A nL pc ls st μ := by
  subst hn
  obtain ⟨x, st1, rfl, h⟩ := oh_b1_of h
  intro h0 h1 h2 h3 H locs lr hP hD hS hL
  obtain ⟨hx1, h2⟩ := List.forall_mem_cons.mp h2
  have hx1 : oh_rgI x := hx1
  have hr : oh_rgL x := ⟨by have := hx1.1; omega, by have := hx1.2; omega⟩
  exact lv_i2l hx hb hd (oh_i2l_re hx1) (hK _ _ _ _ h h0 h1 (List.forall_mem_cons.mpr ⟨hr, h2⟩) h3 H locs lr hP hD hS hL)
theorem g_ladd (hx : p.tables.exec = Jvm.exec) (hb : c.code = cc) (hK : ∀ pc ls st μ, K pc ls st μ → oh_G p l e R s m args below meth c cells slots Q D ad tc cA A nL pc ls st μ) (hd : decode cc pc = .ok (.ladd, 1)) (hn : nx = pc + 1) (h : oh_l2 st (fun x y st1 => K nx ls (oL (oh_w64 (x + y)) :: st1) μ)) : oh_G p l e R s m args below meth c cells slots Q D ad tc cA A nL pc ls st μ := by
  subst hn
  obtain ⟨x, y, st1, rfl, h⟩ := oh_l2_of h
  intro h0 h1 h2 h3 H locs lr hP hD hS hL
  obtain ⟨hy, h2⟩ := List.forall_mem_cons.mp h2
  obtain ⟨hx1, h2⟩ := List.forall_mem_cons.mp h2
  have w := hK _ _ _ _ h h0 h1 (List.forall_mem_cons.mpr ⟨oh_rg64 _, h2⟩) h3 H locs lr hP hD hS hL
  refine lv_ladd hx hb hd ?_
  rw [← Int64.ofInt_add, oh_w64_re]
  exact w
theorem g_lmul (hx : p.tables.exec = Jvm.exec) (hb : c.code = cc) (hK : ∀ pc ls st μ, K pc ls st μ → oh_G p l e R s m args below meth c cells slots Q D ad tc cA A nL pc ls st μ) (hd : decode cc pc = .ok (.lmul, 1)) (hn : nx = pc + 1) (h : oh_l2 st (fun x y st1 => K nx ls (oL (oh_w64 (x * y)) :: st1) μ)) : oh_G p l e R s m args below meth c cells slots Q D ad tc cA A nL pc ls st μ := by
  subst hn
  obtain ⟨x, y, st1, rfl, h⟩ := oh_l2_of h
  intro h0 h1 h2 h3 H locs lr hP hD hS hL
  obtain ⟨hy, h2⟩ := List.forall_mem_cons.mp h2
  obtain ⟨hx1, h2⟩ := List.forall_mem_cons.mp h2
  have w := hK _ _ _ _ h h0 h1 (List.forall_mem_cons.mpr ⟨oh_rg64 _, h2⟩) h3 H locs lr hP hD hS hL
  refine lv_lmul hx hb hd ?_
  rw [← Int64.ofInt_mul, oh_w64_re]
  exact w
theorem g_lcmp (hx : p.tables.exec = Jvm.exec) (hb : c.code = cc) (hK : ∀ pc ls st μ, K pc ls st μ → oh_G p l e R s m args below meth c cells slots Q D ad tc cA A nL pc ls st μ) (hd : decode cc pc = .ok (.lcmp, 1)) (hn : nx = pc + 1) (h : oh_l2 st (fun x y st1 => K nx ls (oI (oh_cmp x y) :: st1) μ)) : oh_G p l e R s m args below meth c cells slots Q D ad tc cA A nL pc ls st μ := by
  subst hn
  obtain ⟨x, y, st1, rfl, h⟩ := oh_l2_of h
  intro h0 h1 h2 h3 H locs lr hP hD hS hL
  obtain ⟨hy, h2⟩ := List.forall_mem_cons.mp h2
  obtain ⟨hx1, h2⟩ := List.forall_mem_cons.mp h2
  have w := hK _ _ _ _ h h0 h1 (List.forall_mem_cons.mpr ⟨oh_cmp_rg x y, h2⟩) h3 H locs lr hP hD hS hL
  refine W.lcmp hx hb hd ?_
  rw [oh_cmp_re hx1 hy]
  exact w
theorem g_icmp_eq (hx : p.tables.exec = Jvm.exec) (hb : c.code = cc) (hK : ∀ pc ls st μ, K pc ls st μ → oh_G p l e R s m args below meth c cells slots Q D ad tc cA A nL pc ls st μ) {off : Int} (hd : decode cc pc = .ok (.if_icmp .eq off, 3)) (hn : nx = pc + 3) (ht : ∀ a t r, tg = (a, t) :: r → (pc : Int) + off = (t : Int)) (h : oh_b2 st (fun x y st1 => oh_br (x = y) tg nx (fun t => K t ls st1 μ))) : oh_G p l e R s m args below meth c cells slots Q D ad tc cA A nL pc ls st μ := by
  subst hn
  obtain ⟨x, y, st1, rfl, h⟩ := oh_b2_of h
  obtain ⟨a, t, r, htg, ha, hf⟩ := oh_br_of h
  intro h0 h1 h2 h3 H locs lr hP hD hS hL
  obtain ⟨hy, h2⟩ := List.forall_mem_cons.mp h2
  obtain ⟨hx1, h2⟩ := List.forall_mem_cons.mp h2
  have ef := oh_eq32 hx1 hy
  exact lv_icmp_eq hx hb hd (ht _ _ _ htg) (fun q => hK _ _ _ _ (ha (ef.mp q)) h0 h1 h2 h3 H locs lr hP hD hS hL) (fun q => hK _ _ _ _ (hf (fun z => q (ef.mpr z))) h0 h1 h2 h3 H locs lr hP hD hS hL)
theorem g_if_eq (hx : p.tables.exec = Jvm.exec) (hb : c.code = cc) (hK : ∀ pc ls st μ, K pc ls st μ → oh_G p l e R s m args below meth c cells slots Q D ad tc cA A nL pc ls st μ) {off : Int} (hd : decode cc pc = .ok (.ifCond .eq off, 3)) (hn : nx = pc + 3) (ht : ∀ a t r, tg = (a, t) :: r → (pc : Int) + off = (t : Int)) (h : oh_b1 st (fun x st1 => oh_br (x = 0) tg nx (fun t => K t ls st1 μ))) : oh_G p l e R s m args below meth c cells slots Q D ad tc cA A nL pc ls st μ := by
  subst hn
  obtain ⟨x, st1, rfl, h⟩ := oh_b1_of h
  obtain ⟨a, t, r, htg, ha, hf⟩ := oh_br_of h
  intro h0 h1 h2 h3 H locs lr hP hD hS hL
  obtain ⟨hx1, h2⟩ := List.forall_mem_cons.mp h2
  have h00 : oh_rgI 0 := ⟨by decide, by decide⟩
  have ef := oh_eq32 hx1 h00
  exact lv_if_eq hx hb hd (ht _ _ _ htg) (fun q => hK _ _ _ _ (ha (ef.mp q)) h0 h1 h2 h3 H locs lr hP hD hS hL) (fun q => hK _ _ _ _ (hf (fun z => q (ef.mpr z))) h0 h1 h2 h3 H locs lr hP hD hS hL)
theorem g_icmp_ne (hx : p.tables.exec = Jvm.exec) (hb : c.code = cc) (hK : ∀ pc ls st μ, K pc ls st μ → oh_G p l e R s m args below meth c cells slots Q D ad tc cA A nL pc ls st μ) {off : Int} (hd : decode cc pc = .ok (.if_icmp .ne off, 3)) (hn : nx = pc + 3) (ht : ∀ a t r, tg = (a, t) :: r → (pc : Int) + off = (t : Int)) (h : oh_b2 st (fun x y st1 => oh_br (¬ x = y) tg nx (fun t => K t ls st1 μ))) : oh_G p l e R s m args below meth c cells slots Q D ad tc cA A nL pc ls st μ := by
  subst hn
  obtain ⟨x, y, st1, rfl, h⟩ := oh_b2_of h
  obtain ⟨a, t, r, htg, ha, hf⟩ := oh_br_of h
  intro h0 h1 h2 h3 H locs lr hP hD hS hL
  obtain ⟨hy, h2⟩ := List.forall_mem_cons.mp h2
  obtain ⟨hx1, h2⟩ := List.forall_mem_cons.mp h2
  have ef := not_congr (oh_eq32 hx1 hy)
  exact lv_icmp_ne hx hb hd (ht _ _ _ htg) (fun q => hK _ _ _ _ (ha (ef.mp q)) h0 h1 h2 h3 H locs lr hP hD hS hL) (fun q => hK _ _ _ _ (hf (fun z => (ef.mpr z) q)) h0 h1 h2 h3 H locs lr hP hD hS hL)
theorem g_if_ne (hx : p.tables.exec = Jvm.exec) (hb : c.code = cc) (hK : ∀ pc ls st μ, K pc ls st μ → oh_G p l e R s m args below meth c cells slots Q D ad tc cA A nL pc ls st μ) {off : Int} (hd : decode cc pc = .ok (.ifCond .ne off, 3)) (hn : nx = pc + 3) (ht : ∀ a t r, tg = (a, t) :: r → (pc : Int) + off = (t : Int)) (h : oh_b1 st (fun x st1 => oh_br (¬ x = 0) tg nx (fun t => K t ls st1 μ))) : oh_G p l e R s m args below meth c cells slots Q D ad tc cA A nL pc ls st μ := by
  subst hn
  obtain ⟨x, st1, rfl, h⟩ := oh_b1_of h
  obtain ⟨a, t, r, htg, ha, hf⟩ := oh_br_of h
  intro h0 h1 h2 h3 H locs lr hP hD hS hL
  obtain ⟨hx1, h2⟩ := List.forall_mem_cons.mp h2
  have h00 : oh_rgI 0 := ⟨by decide, by decide⟩
  have ef := not_congr (oh_eq32 hx1 h00)
  exact lv_if_ne hx hb hd (ht _ _ _ htg) (fun q => hK _ _ _ _ (ha (ef.mp q)) h0 h1 h2 h3 H locs lr hP hD hS hL) (fun q => hK _ _ _ _ (hf (fun z => (ef.mpr z) q)) h0 h1 h2 h3 H locs lr hP hD hS hL)
theorem g_icmp_lt (hx : p.tables.exec = Jvm.exec) (hb : c.code = cc) (hK : ∀ pc ls st μ, K pc ls st μ → oh_G p l e R s m args below meth c cells slots Q D ad tc cA A nL pc ls st μ) {off : Int} (hd : decode cc pc = .ok (.if_icmp .lt off, 3)) (hn : nx = pc + 3) (ht : ∀ a t r, tg = (a, t) :: r → (pc : Int) + off = (t : Int)) (h : oh_b2 st (fun x y st1 => oh_br (x < y) tg nx (fun t => K t ls st1 μ))) : oh_G p l e R s m args below meth c cells slots Q D ad tc cA A nL pc ls st μ := by
  subst hn
  obtain ⟨x, y, st1, rfl, h⟩ := oh_b2_of h
  obtain ⟨a, t, r, htg, ha, hf⟩ := oh_br_of h
  intro h0 h1 h2 h3 H locs lr hP hD hS hL
  obtain ⟨hy, h2⟩ := List.forall_mem_cons.mp h2
  obtain ⟨hx1, h2⟩ := List.forall_mem_cons.mp h2
  have ef := oh_lt32 hx1 hy
  exact lv_icmp_lt hx hb hd (ht _ _ _ htg) (fun q => hK _ _ _ _ (ha (ef.mp q)) h0 h1 h2 h3 H locs lr hP hD hS hL) (fun q => hK _ _ _ _ (hf (fun z => q (ef.mpr z))) h0 h1 h2 h3 H locs lr hP hD hS hL)
theorem g_if_lt (hx : p.tables.exec = Jvm.exec) (hb : c.code = cc) (hK : ∀ pc ls st μ, K pc ls st μ → oh_G p l e R s m args below meth c cells slots Q D ad tc cA A nL pc ls st μ) {off : Int} (hd : decode cc pc = .ok (.ifCond .lt off, 3)) (hn : nx = pc + 3) (ht : ∀ a t r, tg = (a, t) :: r → (pc : Int) + off = (t : Int)) (h : oh_b1 st (fun x st1 => oh_br (x < 0) tg nx (fun t => K t ls st1 μ))) : oh_G p l e R s m args below meth c cells slots Q D ad tc cA A nL pc ls st μ := by
  subst hn
  obtain ⟨x, st1, rfl, h⟩ := oh_b1_of h
  obtain ⟨a, t, r, htg, ha, hf⟩ := oh_br_of h
  intro h0 h1 h2 h3 H locs lr hP hD hS hL
  obtain ⟨hx1, h2⟩ := List.forall_mem_cons.mp h2
  have h00 : oh_rgI 0 := ⟨by decide, by decide⟩
  have ef := oh_lt32 hx1 h00
  exact lv_if_lt hx hb hd (ht _ _ _ htg) (fun q => hK _ _ _ _ (ha (ef.mp q)) h0 h1 h2 h3 H locs lr hP hD hS hL) (fun q => hK _ _ _ _ (hf (fun z => q (ef.mpr z))) h0 h1 h2 h3 H locs lr hP hD hS hL)
theorem g_icmp_ge (hx : p.tables.exec = Jvm.exec) (hb : c.code = cc) (hK : ∀ pc ls st μ, K pc ls st μ → oh_G p l e R s m args below meth c cells slots Q D ad tc cA A nL pc ls st μ) {off : Int} (hd : decode cc pc = .ok (.if_icmp .ge off, 3)) (hn : nx = pc + 3) (ht : ∀ a t r, tg = (a, t) :: r → (pc : Int) + off = (t : Int)) (h : oh_b2 st (fun x y st1 => oh_br (y ≤ x) tg nx (fun t => K t ls st1 μ))) : oh_G p l e R s m args below meth c cells slots Q D ad tc cA A nL pc ls st μ := by
  subst hn
  obtain ⟨x, y, st1, rfl, h⟩ := oh_b2_of h
  obtain ⟨a, t, r, htg, ha, hf⟩ := oh_br_of h
  intro h0 h1 h2 h3 H locs lr hP hD hS hL
  obtain ⟨hy, h2⟩ := List.forall_mem_cons.mp h2
  obtain ⟨hx1, h2⟩ := List.forall_mem_cons.mp h2
  have ef := oh_le32 hy hx1
  exact lv_icmp_ge hx hb hd (ht _ _ _ htg) (fun q => hK _ _ _ _ (ha (ef.mp q)) h0 h1 h2 h3 H locs lr hP hD hS hL) (fun q => hK _ _ _ _ (hf (fun z => q (ef.mpr z))) h0 h1 h2 h3 H locs lr hP hD hS hL)
theorem g_if_ge (hx : p.tables.exec = Jvm.exec) (hb : c.code = cc) (hK : ∀ pc ls st μ, K pc ls st μ → oh_G p l e R s m args below meth c cells slots Q D ad tc cA A nL pc ls st μ) {off : Int} (hd : decode cc pc = .ok (.ifCond .ge off, 3)) (hn : nx = pc + 3) (ht : ∀ a t r, tg = (a, t) :: r → (pc : Int) + off = (t : Int)) (h : oh_b1 st (fun x st1 => oh_br (0 ≤ x) tg nx (fun t => K t ls st1 μ))) : oh_G p l e R s m args below meth c cells slots Q D ad tc cA A nL pc ls st μ := by
  subst hn
  obtain ⟨x, st1, rfl, h⟩ := oh_b1_of h
  obtain ⟨a, t, r, htg, ha, hf⟩ := oh_br_of h
  intro h0 h1 h2 h3 H locs lr hP hD hS hL
  obtain ⟨hx1, h2⟩ := List.forall_mem_cons.mp h2
  have h00 : oh_rgI 0 := ⟨by decide, by decide⟩
  have ef := oh_le32 h00 hx1
  exact lv_if_ge hx hb hd (ht _ _ _ htg) (fun q => hK _ _ _ _ (ha (ef.mp q)) h0 h1 h2 h3 H locs lr hP hD hS hL) (fun q => hK _ _ _ _ (hf (fun z => q (ef.mpr z))) h0 h1 h2 h3 H locs lr hP hD hS hL)
theorem g_icmp_gt (hx : p.tables.exec = Jvm.exec) (hb : c.code = cc) (hK : ∀ pc ls st μ, K pc ls st μ → oh_G p l e R s m args below meth c cells slots Q D ad tc cA A nL pc ls st μ) {off : Int} (hd : decode cc pc = .ok (.if_icmp .gt off, 3)) (hn : nx = pc + 3) (ht : ∀ a t r, tg = (a, t) :: r → (pc : Int) + off = (t : Int)) (h : oh_b2 st (fun x y st1 => oh_br (y < x) tg nx (fun t => K t ls st1 μ))) : oh_G p l e R s m args below meth c cells slots Q D ad tc cA A nL pc ls st μ := by
  subst hn
  obtain ⟨x, y, st1, rfl, h⟩ := oh_b2_of h
  obtain ⟨a, t, r, htg, ha, hf⟩ := oh_br_of h
  intro h0 h1 h2 h3 H locs lr hP hD hS hL
  obtain ⟨hy, h2⟩ := List.forall_mem_cons.mp h2
  obtain ⟨hx1, h2⟩ := List.forall_mem_cons.mp h2
  have ef := oh_lt32 hy hx1
  exact lv_icmp_gt hx hb hd (ht _ _ _ htg) (fun q => hK _ _ _ _ (ha (ef.mp q)) h0 h1 h2 h3 H locs lr hP hD hS hL) (fun q => hK _ _ _ _ (hf (fun z => q (ef.mpr z))) h0 h1 h2 h3 H locs lr hP hD hS hL)
theorem g_if_gt (hx : p.tables.exec = Jvm.exec) (hb : c.code = cc) (hK : ∀ pc ls st μ, K pc ls st μ → oh_G p l e R s m args below meth c cells slots Q D ad tc cA A nL pc ls st μ) {off : Int} (hd : decode cc pc = .ok (.ifCond .gt off, 3)) (hn : nx = pc + 3) (ht : ∀ a t r, tg = (a, t) :: r → (pc : Int) + off = (t : Int)) (h : oh_b1 st (fun x st1 => oh_br (0 < x) tg nx (fun t => K t ls st1 μ))) : oh_G p l e R s m args below meth c cells slots Q D ad tc cA A nL pc ls st μ := by
  subst hn
  obtain ⟨x, st1, rfl, h⟩ := oh_b1_of h
  obtain ⟨a, t, r, htg, ha, hf⟩ := oh_br_of h
  intro h0 h1 h2 h3 H locs lr hP hD hS hL
  obtain ⟨hx1, h2⟩ := List.forall_mem_cons.mp h2
  have h00 : oh_rgI 0 := ⟨by decide, by decide⟩
  have ef := oh_lt32 h00 hx1
  exact lv_if_gt hx hb hd (ht _ _ _ htg) (fun q => hK _ _ _ _ (ha (ef.mp q)) h0 h1 h2 h3 H locs lr hP hD hS hL) (fun q => hK _ _ _ _ (hf (fun z => q (ef.mpr z))) h0 h1 h2 h3 H locs lr hP hD hS hL)
theorem g_icmp_le (hx : p.tables.exec = Jvm.exec) (hb : c.code = cc) (hK : ∀ pc ls st μ, K pc ls st μ → oh_G p l e R s m args below meth c cells slots Q D ad tc cA A nL pc ls st μ) {off : Int} (hd : decode cc pc = .ok (.if_icmp .le off, 3)) (hn : nx = pc + 3) (ht : ∀ a t r, tg = (a, t) :: r → (pc : Int) + off = (t : Int)) (h : oh_b2 st (fun x y st1 => oh_br (x ≤ y) tg nx (fun t => K t ls st1 μ))) : oh_G p l e R s m args below meth c cells slots Q D ad tc cA A nL pc ls st μ := by
  subst hn
  obtain ⟨x, y, st1, rfl, h⟩ := oh_b2_of h
  obtain ⟨a, t, r, htg, ha, hf⟩ := oh_br_of h
  intro h0 h1 h2 h3 H locs lr hP hD hS hL
  obtain ⟨hy, h2⟩ := List.forall_mem_cons.mp h2
  obtain ⟨hx1, h2⟩ := List.forall_mem_cons.mp h2
  have ef := oh_le32 hx1 hy
  exact lv_icmp_le hx hb hd (ht _ _ _ htg) (fun q => hK _ _ _ _ (ha (ef.mp q)) h0 h1 h2 h3 H locs lr hP hD hS hL) (fun q => hK _ _ _ _ (hf (fun z => q (ef.mpr z))) h0 h1 h2 h3 H locs lr hP hD hS hL)
theorem g_if_le (hx : p.tables.exec = Jvm.exec) (hb : c.code = cc) (hK : ∀ pc ls st μ, K pc ls st μ → oh_G p l e R s m args below meth c cells slots Q D ad tc cA A nL pc ls st μ) {off : Int} (hd : decode cc pc = .ok (.ifCond .le off, 3)) (hn : nx = pc + 3) (ht : ∀ a t r, tg = (a, t) :: r → (pc : Int) + off = (t : Int)) (h : oh_b1 st (fun x st1 => oh_br (x ≤ 0) tg nx (fun t => K t ls st1 μ))) : oh_G p l e R s m args below meth c cells slots Q D ad tc cA A nL pc ls st μ := by
  subst hn
  obtain ⟨x, st1, rfl, h⟩ := oh_b1_of h
  obtain ⟨a, t, r, htg, ha, hf⟩ := oh_br_of h
  intro h0 h1 h2 h3 H locs lr hP hD hS hL
  obtain ⟨hx1, h2⟩ := List.forall_mem_cons.mp h2
  have h00 : oh_rgI 0 := ⟨by decide, by decide⟩
  have ef := oh_le32 hx1 h00
  exact lv_if_le hx hb hd (ht _ _ _ htg) (fun q => hK _ _ _ _ (ha (ef.mp q)) h0 h1 h2 h3 H locs lr hP hD hS hL) (fun q => hK _ _ _ _ (hf (fun z => q (ef.mpr z))) h0 h1 h2 h3 H locs lr hP hD hS hL)
theorem g_goto (hx : p.tables.exec = Jvm.exec) (hb : c.code = cc) (hK : ∀ pc ls st μ, K pc ls st μ → oh_G p l e R s m args below meth c cells slots Q D ad tc cA A nL pc ls st μ) {off : Int} (hd : decode cc pc = .ok (.goto off, 3)) {a : Int} {t : Nat} (ht : (pc : Int) + off = (t : Int)) (h : K t ls st μ) : oh_G p l e R s m args below meth c cells slots Q D ad tc cA A nL pc ls st μ := by
  intro h0 h1 h2 h3 H locs lr hP hD hS hL
  exact lv_goto hx hb hd ht (hK _ _ _ _ h h0 h1 h2 h3 H locs lr hP hD hS hL)
/-- the rows of a switch: keys from lo on, targets by the offsets -/
def oh_swOK (pc : Nat) (lo : Int) : List Int → List (Int × Nat) → Bool
  | [], [] => true
  | o :: os, (a, t) :: l => decide (a = lo) && decide ((pc : Int) + o = (t : Int)) && oh_swOK pc (lo + 1) os l
  | _, _ => false
theorem oh_sw_of {k : Nat → Prop} : ∀ (os : List Int) (l : List (Int × Nat)) (lo x : Int), oh_swOK pc lo os l = true → lo ≤ x → x < lo + os.length → oh_swl x l k → ∃ (o : Int) (t : Nat), os[(x - lo).toNat]? = some o ∧ (pc : Int) + o = (t : Int) ∧ k t
  | [], l, lo, x, _, h1, h2, _ => absurd h2 (by simp; omega)
  | o :: os, [], lo, x, h, _, _, _ => by simp [oh_swOK] at h
  | o :: os, (a, t) :: l, lo, x, h, h1, h2, hk => by
    simp only [oh_swOK, Bool.and_eq_true, decide_eq_true_eq] at h
    obtain ⟨⟨e1, e2⟩, e3⟩ := h
    by_cases hx : x = lo
    · subst hx
      refine ⟨o, t, ?_, e2, hk.1 e1.symm⟩
      simp
    · obtain ⟨o', t', g1, g2, g3⟩ := oh_sw_of os l (lo + 1) x e3 (by omega) (by simp at h2; omega) hk.2
      refine ⟨o', t', ?_, g2, g3⟩
      have : (x - lo).toNat = (x - (lo + 1)).toNat + 1 := by omega
      rw [this, List.getElem?_cons_succ]
      exact g1
theorem g_switch (hx : p.tables.exec = Jvm.exec) (hb : c.code = cc) (hK : ∀ pc ls st μ, K pc ls st μ → oh_G p l e R s m args below meth c cells slots Q D ad tc cA A nL pc ls st μ) {dflt lo hi : Int} {offs : Array Int} {len : Nat} (hd : decode cc pc = .ok (.tableswitch dflt lo hi offs, len)) {a : Int} {t : Nat} {r : List (Int × Nat)} (htg : tg = (a, t) :: r) (ht : (pc : Int) + dflt = (t : Int)) (hsw : oh_swOK pc lo offs.toList r = true) (hlen : hi < lo + offs.toList.length) (h : oh_b1 st (fun x st1 => (x < lo ∨ hi < x → K t ls st1 μ) ∧ oh_swl x r (fun t => K t ls st1 μ))) : oh_G p l e R s m args below meth c cells slots Q D ad tc cA A nL pc ls st μ := by
  obtain ⟨x, st1, rfl, h⟩ := oh_b1_of h
  intro h0 h1 h2 h3 H locs lr hP hD hS hL
  obtain ⟨hx1, h2⟩ := List.forall_mem_cons.mp h2
  have hx1 : oh_rgI x := hx1
  have hxi := oh_toInt hx1
  by_cases q : x < lo ∨ hi < x
  · exact lv_tableOut hx hb hd (by rw [hxi]; exact q) ht (hK _ _ _ _ (h.1 q) h0 h1 h2 h3 H locs lr hP hD hS hL)
  · obtain ⟨o, t', g1, g2, g3⟩ := oh_sw_of _ _ _ _ hsw (by omega) (by omega) h.2
    refine lv_tableIn hx hb hd (by rw [hxi]; omega) (by rw [hxi]; omega) (off := o) ?_ g2 (hK _ _ _ _ g3 h0 h1 h2 h3 H locs lr hP hD hS hL)
    rw [hxi, ← Array.getElem?_toList]
    exact g1
theorem g_dup (hx : p.tables.exec = Jvm.exec) (hb : c.code = cc) (hK : ∀ pc ls st μ, K pc ls st μ → oh_G p l e R s m args below meth c cells slots Q D ad tc cA A nL pc ls st μ) (hd : decode cc pc = .ok (.dup, 1)) (hn : nx = pc + 1) (h : oh_dup st (fun st1 => K nx ls st1 μ)) : oh_G p l e R s m args below meth c cells slots Q D ad tc cA A nL pc ls st μ := by
  subst hn
  unfold oh_dup at h
  intro h0 h1 h2 h3 H locs lr hP hD hS hL
  split at h
  · obtain ⟨hx1, h2⟩ := List.forall_mem_cons.mp h2
    exact lv_dup hx hb hd rfl (hK _ _ _ _ h h0 h1 (List.forall_mem_cons.mpr ⟨hx1, List.forall_mem_cons.mpr ⟨hx1, h2⟩⟩) h3 H locs lr hP hD hS hL)
  · rename_i x st1
    obtain ⟨hx1, h2⟩ := List.forall_mem_cons.mp h2
    refine lv_dup hx hb hd ?_ (hK _ _ _ _ h h0 h1 (List.forall_mem_cons.mpr ⟨hx1, List.forall_mem_cons.mpr ⟨hx1, h2⟩⟩) h3 H locs lr hP hD hS hL)
    rcases x with ⟨q1, q2⟩ | x <;> rfl
  · exact h.elim
theorem g_dup2 (hx : p.tables.exec = Jvm.exec) (hb : c.code = cc) (hK : ∀ pc ls st μ, K pc ls st μ → oh_G p l e R s m args below meth c cells slots Q D ad tc cA A nL pc ls st μ) (hd : decode cc pc = .ok (.dup2, 1)) (hn : nx = pc + 1) (h : oh_dup2 st (fun st1 => K nx ls st1 μ)) : oh_G p l e R s m args below meth c cells slots Q D ad tc cA A nL pc ls st μ := by
  subst hn
  unfold oh_dup2 at h
  intro h0 h1 h2 h3 H locs lr hP hD hS hL
  split at h
  · rename_i x y st1
    obtain ⟨hx1, h2⟩ := List.forall_mem_cons.mp h2
    obtain ⟨hy1, h2⟩ := List.forall_mem_cons.mp h2
    refine lv_dup2_11 hx hb hd rfl ?_ (hK _ _ _ _ h h0 h1 (List.forall_mem_cons.mpr ⟨hx1, List.forall_mem_cons.mpr ⟨hy1, List.forall_mem_cons.mpr ⟨hx1, List.forall_mem_cons.mpr ⟨hy1, h2⟩⟩⟩⟩) h3 H locs lr hP hD hS hL)
    rcases y with ⟨q1, q2⟩ | y <;> rfl
  · exact h.elim
theorem g_pop (hx : p.tables.exec = Jvm.exec) (hb : c.code = cc) (hK : ∀ pc ls st μ, K pc ls st μ → oh_G p l e R s m args below meth c cells slots Q D ad tc cA A nL pc ls st μ) (hd : decode cc pc = .ok (.pop, 1)) (hn : nx = pc + 1) (h : oh_pop st (fun st1 => K nx ls st1 μ)) : oh_G p l e R s m args below meth c cells slots Q D ad tc cA A nL pc ls st μ := by
  subst hn
  unfold oh_pop at h
  intro h0 h1 h2 h3 H locs lr hP hD hS hL
  split at h
  · obtain ⟨hx1, h2⟩ := List.forall_mem_cons.mp h2
    exact lv_pop hx hb hd rfl (hK _ _ _ _ h h0 h1 h2 h3 H locs lr hP hD hS hL)
  · exact h.elim
end OhG2
