/-! THE STEPS: what the small machine asks at an instruction is enough for the machine there -/
theorem oh_b1_of {st : List AV} {k : Int → List AV → Prop} (h : oh_b1 st k) : ∃ x st1, st = oI x :: st1 ∧ k x st1 := by
  unfold oh_b1 at h
  split at h
  · exact ⟨_, _, rfl, h⟩
  · exact h.elim
theorem oh_b2_of {st : List AV} {k : Int → Int → List AV → Prop} (h : oh_b2 st k) : ∃ x y st1, st = oI y :: oI x :: st1 ∧ k x y st1 := by
  unfold oh_b2 at h
  split at h
  · exact ⟨_, _, _, rfl, h⟩
  · exact h.elim
theorem oh_l2_of {st : List AV} {k : Int → Int → List AV → Prop} (h : oh_l2 st k) : ∃ x y st1, st = oL y :: oL x :: st1 ∧ k x y st1 := by
  unfold oh_l2 at h
  split at h
  · exact ⟨_, _, _, rfl, h⟩
  · exact h.elim
theorem oh_ldI_of {ls : LV} {i : Nat} {k : Int → Prop} (h : oh_ldI ls i k) : ∃ x, oh_nth ls i none = some (oI x) ∧ k x := by
  unfold oh_ldI at h
  split at h
  · rename_i x e
    exact ⟨x, e, h⟩
  · exact h.elim
theorem oh_ldL_of {ls : LV} {i : Nat} {k : Int → Prop} (h : oh_ldL ls i k) : ∃ x, oh_nth ls i none = some (oL x) ∧ k x := by
  unfold oh_ldL at h
  split at h
  · rename_i x e
    exact ⟨x, e, h⟩
  · exact h.elim
theorem oh_ldA_of {ls : LV} {i : Nat} {k : (Nat × Nat) ⊕ Nat → Prop} (h : oh_ldA ls i k) : ∃ x, oh_nth ls i none = some (Sum.inr (Sum.inr x)) ∧ k x := by
  unfold oh_ldA at h
  split at h
  · rename_i x e
    exact ⟨x, e, h⟩
  · exact h.elim
theorem oh_st1_of {ls : LV} {i : Nat} {v : AV} {k : LV → Prop} (h : oh_st1 ls i v k) : i < ls.length ∧ oh_pl ls i = true ∧ k (oh_sv ls i (some v)) := by
  unfold oh_st1 at h
  split at h
  · rename_i e
    obtain ⟨h1, h2⟩ := oh_put_of _ _ _ h
    exact ⟨h1, e, h2⟩
  · exact h.elim
theorem oh_st2_of {ls : LV} {i : Nat} {v : AV} {k : LV → Prop} (h : oh_st2 ls i v k) : i + 1 < ls.length ∧ oh_pl ls i = true ∧ k (oh_sv (oh_sv ls i (some v)) (i + 1) none) := by
  unfold oh_st2 at h
  split at h
  · rename_i e
    obtain ⟨h1, h2⟩ := oh_put_of _ _ _ h
    obtain ⟨h3, h4⟩ := oh_put_of _ _ _ h2
    rw [oh_sv_len] at h3
    exact ⟨h3, e, h4⟩
  · exact h.elim
theorem oh_pl_of {ls : LV} {i : Nat} (h : oh_pl ls i = true) {j : Nat} (hj : j + 1 = i) {x : Int} : ¬ oh_nth ls j none = some (oL x) := by
  subst hj
  intro e
  simp [oh_pl, e] at h
theorem oh_mem_st1 {ls : LV} {i : Nat} {v : AV} (hi : i < ls.length) (hv : oh_wf v) (h : ∀ w, some w ∈ ls → oh_wf w) : ∀ w, some w ∈ oh_sv ls i (some v) → oh_wf w := by
  intro w hw
  obtain ⟨j, hj⟩ := oh_mem_nth _ _ hw
  rw [oh_sv_nth _ _ _ hi] at hj
  split at hj
  · cases hj
    exact hv
  · exact h _ (oh_nth_mem _ _ _ hj)
theorem oh_mem_st0 {ls : LV} {i : Nat} (hi : i < ls.length) (h : ∀ w, some w ∈ ls → oh_wf w) : ∀ w, some w ∈ oh_sv ls i none → oh_wf w := by
  intro w hw
  obtain ⟨j, hj⟩ := oh_mem_nth _ _ hw
  rw [oh_sv_nth _ _ _ hi] at hj
  split at hj
  · cases hj
  · exact h _ (oh_nth_mem _ _ _ hj)
theorem oh_lv_st1 {ad : Nat → Nat → Nat} {tc : Nat → Nat} {nL : Nat} {ls : LV} {i : Nat} {v : AV} (hi : i < ls.length) (hp : oh_pl ls i = true) {lr' : Array Slot}
    (h' : lv_has lr' nL ((i, oh_re ad tc v) :: (oh_lv ad tc ls).filter (fun q => !(q.1 == i) && !(q.1 + 1 == i && q.2.category == 2)))) : oh_L ad tc nL lr' (oh_sv ls i (some v)) := by
  refine oh_L_of h' (fun j w hj => ?_)
  rw [oh_sv_nth _ _ _ hi] at hj
  split at hj
  · rename_i e
    subst e
    cases hj
    exact List.mem_cons_self
  · rename_i e
    refine List.mem_cons_of_mem _ (List.mem_filter.mpr ⟨oh_lv_in hj, ?_⟩)
    simp only [Bool.and_eq_true, Bool.not_eq_true', beq_eq_false_iff_ne, Bool.and_eq_false_iff]
    refine ⟨e, ?_⟩
    by_cases e2 : j + 1 = i
    · right
      rcases w with x | x | q | c
      · simp [oh_re, Value.category]
      · exact absurd hj (oh_pl_of hp e2)
      · simp [oh_re, Value.category]
      · simp [oh_re, Value.category]
    · left
      exact e2
theorem oh_lv_st2 {ad : Nat → Nat → Nat} {tc : Nat → Nat} {nL : Nat} {ls : LV} {i : Nat} {v : AV} (hi : i + 1 < ls.length) (hp : oh_pl ls i = true) {lr' : Array Slot}
    (h' : lv_has lr' nL ((i, oh_re ad tc v) :: (oh_lv ad tc ls).filter (fun q => !(q.1 == i) && (!(q.1 == i + 1) && !(q.1 + 1 == i && q.2.category == 2))))) : oh_L ad tc nL lr' (oh_sv (oh_sv ls i (some v)) (i + 1) none) := by
  refine oh_L_of h' (fun j w hj => ?_)
  rw [oh_sv_nth _ _ _ (by rw [oh_sv_len]; exact hi), oh_sv_nth _ _ _ (by omega)] at hj
  split at hj
  · cases hj
  · rename_i e0
    split at hj
    · rename_i e
      subst e
      cases hj
      exact List.mem_cons_self
    · rename_i e
      refine List.mem_cons_of_mem _ (List.mem_filter.mpr ⟨oh_lv_in hj, ?_⟩)
      simp only [Bool.and_eq_true, Bool.not_eq_true', beq_eq_false_iff_ne, Bool.and_eq_false_iff]
      refine ⟨e, e0, ?_⟩
      by_cases e2 : j + 1 = i
      · right
        rcases w with x | x | q | c
        · simp [oh_re, Value.category]
        · exact absurd hj (oh_pl_of hp e2)
        · simp [oh_re, Value.category]
        · simp [oh_re, Value.category]
      · left
        exact e2
/-- the claim at a state: whatever heap and locals hold it -/
def oh_G (p : Program) (l : Launch) (e : Env) (R : Room) (s : State) (m : MethodId) (args : Array Value) (below : List Frame) (meth : Method) (c : Code) (cells slots : Nat) (Q : State → Prop) (D : va_G) (ad : Nat → Nat → Nat) (tc : Nat → Nat) (cA : Nat → Nat → ClassId) (A : Nat → Prop) (nL : Nat) : Kt := fun pc ls st μ =>
  ls.length = nL → (∀ v, some v ∈ ls → oh_wf v) → (∀ v ∈ st, oh_wf v) → oh_wfM μ → ∀ (H : Heap) (locs : List Loc) (lr : Array Slot), va_P D vwCl (oh_w ad cA μ) H → va_D A (oh_w ad cA μ) → va_S A s.heap H locs → oh_L ad tc nL lr ls →
    W p l e R s m args below meth c H locs cells slots Q (F0 m pc lr (st.map (oh_re ad tc)))
section OhG
variable {p : Program} {l : Launch} {e : Env} {R : Room} {s : State} {m : MethodId} {args : Array Value} {below : List Frame} {meth : Method} {c : Code} {cells slots : Nat} {Q : State → Prop}
variable {D : va_G} {ad : Nat → Nat → Nat} {tc : Nat → Nat} {cA : Nat → Nat → ClassId} {A : Nat → Prop} {nL : Nat} {cc : ByteArray} {own : String} {K : Kt} {pc nx : Nat} {ls : LV} {st : List AV} {μ : Mem}
theorem g_iconst (hx : p.tables.exec = Jvm.exec) (hb : c.code = cc) (hK : ∀ pc ls st μ, K pc ls st μ → oh_G p l e R s m args below meth c cells slots Q D ad tc cA A nL pc ls st μ) {n : Int} (hd : decode cc pc = .ok (.iconst n, 1)) (hn : nx = pc + 1) (hr : oh_rgI n) (h : K nx ls (oI n :: st) μ) : oh_G p l e R s m args below meth c cells slots Q D ad tc cA A nL pc ls st μ := by
  subst hn
  intro h0 h1 h2 h3 H locs lr hP hD hS hL
  exact lv_iconst hx hb hd rfl (hK _ _ _ _ h h0 h1 (List.forall_mem_cons.mpr ⟨hr, h2⟩) h3 H locs lr hP hD hS hL)
theorem g_bipush (hx : p.tables.exec = Jvm.exec) (hb : c.code = cc) (hK : ∀ pc ls st μ, K pc ls st μ → oh_G p l e R s m args below meth c cells slots Q D ad tc cA A nL pc ls st μ) {n : Int} (hd : decode cc pc = .ok (.bipush n, 2)) (hn : nx = pc + 2) (hr : -128 ≤ n ∧ n ≤ 127) (h : K nx ls (oI n :: st) μ) : oh_G p l e R s m args below meth c cells slots Q D ad tc cA A nL pc ls st μ := by
  subst hn
  intro h0 h1 h2 h3 H locs lr hP hD hS hL
  refine lv_bipush hx hb hd ?_ (hK _ _ _ _ h h0 h1 (List.forall_mem_cons.mpr ⟨⟨by omega, by omega⟩, h2⟩) h3 H locs lr hP hD hS hL)
  rw [← Int32.toInt_inj, oh_toInt ⟨by omega, by omega⟩, Int8.toInt_toInt32]
  exact Int8.toInt_ofInt_of_le (by omega) (by omega)
theorem g_sipush (hx : p.tables.exec = Jvm.exec) (hb : c.code = cc) (hK : ∀ pc ls st μ, K pc ls st μ → oh_G p l e R s m args below meth c cells slots Q D ad tc cA A nL pc ls st μ) {n : Int} (hd : decode cc pc = .ok (.sipush n, 3)) (hn : nx = pc + 3) (hr : -32768 ≤ n ∧ n ≤ 32767) (h : K nx ls (oI n :: st) μ) : oh_G p l e R s m args below meth c cells slots Q D ad tc cA A nL pc ls st μ := by
  subst hn
  intro h0 h1 h2 h3 H locs lr hP hD hS hL
  refine lv_sipush hx hb hd ?_ (hK _ _ _ _ h h0 h1 (List.forall_mem_cons.mpr ⟨⟨by omega, by omega⟩, h2⟩) h3 H locs lr hP hD hS hL)
  rw [← Int32.toInt_inj, oh_toInt ⟨by omega, by omega⟩, Int16.toInt_toInt32]
  exact Int16.toInt_ofInt_of_le (by omega) (by omega)
theorem g_lconst (hx : p.tables.exec = Jvm.exec) (hb : c.code = cc) (hK : ∀ pc ls st μ, K pc ls st μ → oh_G p l e R s m args below meth c cells slots Q D ad tc cA A nL pc ls st μ) {n : Fin 2} (hd : decode cc pc = .ok (.lconst n, 1)) (hn : nx = pc + 1) (h : K nx ls (oL (n.val : Int) :: st) μ) : oh_G p l e R s m args below meth c cells slots Q D ad tc cA A nL pc ls st μ := by
  subst hn
  intro h0 h1 h2 h3 H locs lr hP hD hS hL
  refine lv_lconst hx hb hd ?_ (hK _ _ _ _ h h0 h1 (List.forall_mem_cons.mpr ⟨⟨by omega, by omega⟩, h2⟩) h3 H locs lr hP hD hS hL)
  rfl
theorem g_ldc (hx : p.tables.exec = Jvm.exec) (hb : c.code = cc) (hown : s.vm.findClass own = some m.cls) (hK : ∀ pc ls st μ, K pc ls st μ → oh_G p l e R s m args below meth c cells slots Q D ad tc cA A nL pc ls st μ) {n : Nat} {v : Int} (hd : decode cc pc = .ok (.ldc n, 2)) (hn : nx = pc + 2) (hr : oh_rgI v) (hc : (Jvm.Cond.constant own n (Int32.ofInt v)).before args s = true) (h : K nx ls (oI v :: st) μ) : oh_G p l e R s m args below meth c cells slots Q D ad tc cA A nL pc ls st μ := by
  subst hn
  intro h0 h1 h2 h3 H locs lr hP hD hS hL
  exact lv_ldc hx hb hown hc hd (hK _ _ _ _ h h0 h1 (List.forall_mem_cons.mpr ⟨hr, h2⟩) h3 H locs lr hP hD hS hL)
theorem g_ldcw (hx : p.tables.exec = Jvm.exec) (hb : c.code = cc) (hown : s.vm.findClass own = some m.cls) (hK : ∀ pc ls st μ, K pc ls st μ → oh_G p l e R s m args below meth c cells slots Q D ad tc cA A nL pc ls st μ) {n : Nat} {v : Int} (hd : decode cc pc = .ok (.ldc_w n, 3)) (hn : nx = pc + 3) (hr : oh_rgI v) (hc : (Jvm.Cond.constant own n (Int32.ofInt v)).before args s = true) (h : K nx ls (oI v :: st) μ) : oh_G p l e R s m args below meth c cells slots Q D ad tc cA A nL pc ls st μ := by
  subst hn
  intro h0 h1 h2 h3 H locs lr hP hD hS hL
  exact lv_ldcw hx hb hown hc hd (hK _ _ _ _ h h0 h1 (List.forall_mem_cons.mpr ⟨hr, h2⟩) h3 H locs lr hP hD hS hL)
theorem g_ldc2 (hx : p.tables.exec = Jvm.exec) (hb : c.code = cc) (hown : s.vm.findClass own = some m.cls) (hK : ∀ pc ls st μ, K pc ls st μ → oh_G p l e R s m args below meth c cells slots Q D ad tc cA A nL pc ls st μ) {n : Nat} {v : Int} (hd : decode cc pc = .ok (.ldc2_w n, 3)) (hn : nx = pc + 3) (hr : oh_rgL v) (hc : (Jvm.Cond.constantLong own n (Int64.ofInt v)).before args s = true) (h : K nx ls (oL v :: st) μ) : oh_G p l e R s m args below meth c cells slots Q D ad tc cA A nL pc ls st μ := by
  subst hn
  intro h0 h1 h2 h3 H locs lr hP hD hS hL
  exact lv_ldc2 hx hb hown hc hd (hK _ _ _ _ h h0 h1 (List.forall_mem_cons.mpr ⟨hr, h2⟩) h3 H locs lr hP hD hS hL)
theorem g_iload (hx : p.tables.exec = Jvm.exec) (hb : c.code = cc) (hK : ∀ pc ls st μ, K pc ls st μ → oh_G p l e R s m args below meth c cells slots Q D ad tc cA A nL pc ls st μ) {k : Nat} (hd : decode cc pc = .ok (.iload k, 2)) (hn : nx = pc + 2) (h : oh_ldI ls k (fun x => K nx ls (oI x :: st) μ)) : oh_G p l e R s m args below meth c cells slots Q D ad tc cA A nL pc ls st μ := by
  subst hn
  obtain ⟨x, hx1, h⟩ := oh_ldI_of h
  intro h0 h1 h2 h3 H locs lr hP hD hS hL
  exact lv_iload hx hb hd (oh_L_at hL hx1) (hK _ _ _ _ h h0 h1 (List.forall_mem_cons.mpr ⟨h1 _ (oh_nth_mem _ _ _ hx1), h2⟩) h3 H locs lr hP hD hS hL)
theorem g_iload_n (hx : p.tables.exec = Jvm.exec) (hb : c.code = cc) (hK : ∀ pc ls st μ, K pc ls st μ → oh_G p l e R s m args below meth c cells slots Q D ad tc cA A nL pc ls st μ) {k : Fin 4} (hd : decode cc pc = .ok (.iload_n k, 1)) (hn : nx = pc + 1) (h : oh_ldI ls k.val (fun x => K nx ls (oI x :: st) μ)) : oh_G p l e R s m args below meth c cells slots Q D ad tc cA A nL pc ls st μ := by
  subst hn
  obtain ⟨x, hx1, h⟩ := oh_ldI_of h
  intro h0 h1 h2 h3 H locs lr hP hD hS hL
  exact lv_iload_n hx hb hd rfl (oh_L_at hL hx1) (hK _ _ _ _ h h0 h1 (List.forall_mem_cons.mpr ⟨h1 _ (oh_nth_mem _ _ _ hx1), h2⟩) h3 H locs lr hP hD hS hL)
theorem g_lload (hx : p.tables.exec = Jvm.exec) (hb : c.code = cc) (hK : ∀ pc ls st μ, K pc ls st μ → oh_G p l e R s m args below meth c cells slots Q D ad tc cA A nL pc ls st μ) {k : Nat} (hd : decode cc pc = .ok (.lload k, 2)) (hn : nx = pc + 2) (h : oh_ldL ls k (fun x => K nx ls (oL x :: st) μ)) : oh_G p l e R s m args below meth c cells slots Q D ad tc cA A nL pc ls st μ := by
  subst hn
  obtain ⟨x, hx1, h⟩ := oh_ldL_of h
  intro h0 h1 h2 h3 H locs lr hP hD hS hL
  exact lv_lload hx hb hd (oh_L_at hL hx1) (hK _ _ _ _ h h0 h1 (List.forall_mem_cons.mpr ⟨h1 _ (oh_nth_mem _ _ _ hx1), h2⟩) h3 H locs lr hP hD hS hL)
theorem g_lload_n (hx : p.tables.exec = Jvm.exec) (hb : c.code = cc) (hK : ∀ pc ls st μ, K pc ls st μ → oh_G p l e R s m args below meth c cells slots Q D ad tc cA A nL pc ls st μ) {k : Fin 4} (hd : decode cc pc = .ok (.lload_n k, 1)) (hn : nx = pc + 1) (h : oh_ldL ls k.val (fun x => K nx ls (oL x :: st) μ)) : oh_G p l e R s m args below meth c cells slots Q D ad tc cA A nL pc ls st μ := by
  subst hn
  obtain ⟨x, hx1, h⟩ := oh_ldL_of h
  intro h0 h1 h2 h3 H locs lr hP hD hS hL
  exact lv_lload_n hx hb hd rfl (oh_L_at hL hx1) (hK _ _ _ _ h h0 h1 (List.forall_mem_cons.mpr ⟨h1 _ (oh_nth_mem _ _ _ hx1), h2⟩) h3 H locs lr hP hD hS hL)
theorem g_aload (hx : p.tables.exec = Jvm.exec) (hb : c.code = cc) (hK : ∀ pc ls st μ, K pc ls st μ → oh_G p l e R s m args below meth c cells slots Q D ad tc cA A nL pc ls st μ) {k : Nat} (hd : decode cc pc = .ok (.aload k, 2)) (hn : nx = pc + 2) (h : oh_ldA ls k (fun x => K nx ls (Sum.inr (Sum.inr x) :: st) μ)) : oh_G p l e R s m args below meth c cells slots Q D ad tc cA A nL pc ls st μ := by
  subst hn
  obtain ⟨x, hx1, h⟩ := oh_ldA_of h
  intro h0 h1 h2 h3 H locs lr hP hD hS hL
  have hw := hK _ _ _ _ h h0 h1 (List.forall_mem_cons.mpr ⟨h1 _ (oh_nth_mem _ _ _ hx1), h2⟩) h3 H locs lr hP hD hS hL
  have ha := oh_L_at hL hx1
  rcases x with ⟨q1, q2⟩ | x
  · exact lv_aload hx hb hd ha hw
  · exact lv_aload hx hb hd ha hw
theorem g_aload_n (hx : p.tables.exec = Jvm.exec) (hb : c.code = cc) (hK : ∀ pc ls st μ, K pc ls st μ → oh_G p l e R s m args below meth c cells slots Q D ad tc cA A nL pc ls st μ) {k : Fin 4} (hd : decode cc pc = .ok (.aload_n k, 1)) (hn : nx = pc + 1) (h : oh_ldA ls k.val (fun x => K nx ls (Sum.inr (Sum.inr x) :: st) μ)) : oh_G p l e R s m args below meth c cells slots Q D ad tc cA A nL pc ls st μ := by
  subst hn
  obtain ⟨x, hx1, h⟩ := oh_ldA_of h
  intro h0 h1 h2 h3 H locs lr hP hD hS hL
  have hw := hK _ _ _ _ h h0 h1 (List.forall_mem_cons.mpr ⟨h1 _ (oh_nth_mem _ _ _ hx1), h2⟩) h3 H locs lr hP hD hS hL
  have ha := oh_L_at hL hx1
  rcases x with ⟨q1, q2⟩ | x
  · exact lv_aload_n hx hb hd rfl ha hw
  · exact lv_aload_n hx hb hd rfl ha hw
theorem g_istore (hx : p.tables.exec = Jvm.exec) (hb : c.code = cc) (hK : ∀ pc ls st μ, K pc ls st μ → oh_G p l e R s m args below meth c cells slots Q D ad tc cA A nL pc ls st μ) {k : Nat} (hd : decode cc pc = .ok (.istore k, 2)) (hn : nx = pc + 2) (h : oh_stI ls k st (fun l st1 => K nx l st1 μ)) : oh_G p l e R s m args below meth c cells slots Q D ad tc cA A nL pc ls st μ := by
  subst hn
  unfold oh_stI at h
  split at h
  · rename_i x st1
    obtain ⟨hi, hp, h⟩ := oh_st1_of h
    intro h0 h1 h2 h3 H locs lr hP hD hS hL
    obtain ⟨hw, h2⟩ := List.forall_mem_cons.mp h2
    refine lv_istore hx hb hd hL (by omega) rfl (fun lr' hl' => ?_)
    exact hK _ _ _ _ h (by rw [oh_sv_len]; exact h0) (oh_mem_st1 hi hw h1) h2 h3 H locs lr' hP hD hS (oh_lv_st1 (v := oI x) hi hp hl')
  · exact h.elim
theorem g_istore_n (hx : p.tables.exec = Jvm.exec) (hb : c.code = cc) (hK : ∀ pc ls st μ, K pc ls st μ → oh_G p l e R s m args below meth c cells slots Q D ad tc cA A nL pc ls st μ) {k : Fin 4} (hd : decode cc pc = .ok (.istore_n k, 1)) (hn : nx = pc + 1) (h : oh_stI ls k.val st (fun l st1 => K nx l st1 μ)) : oh_G p l e R s m args below meth c cells slots Q D ad tc cA A nL pc ls st μ := by
  subst hn
  unfold oh_stI at h
  split at h
  · rename_i x st1
    obtain ⟨hi, hp, h⟩ := oh_st1_of h
    intro h0 h1 h2 h3 H locs lr hP hD hS hL
    obtain ⟨hw, h2⟩ := List.forall_mem_cons.mp h2
    refine lv_istore_n hx hb hd rfl hL (by omega) rfl (fun lr' hl' => ?_)
    exact hK _ _ _ _ h (by rw [oh_sv_len]; exact h0) (oh_mem_st1 hi hw h1) h2 h3 H locs lr' hP hD hS (oh_lv_st1 (v := oI x) hi hp hl')
  · exact h.elim
theorem g_lstore (hx : p.tables.exec = Jvm.exec) (hb : c.code = cc) (hK : ∀ pc ls st μ, K pc ls st μ → oh_G p l e R s m args below meth c cells slots Q D ad tc cA A nL pc ls st μ) {k : Nat} (hd : decode cc pc = .ok (.lstore k, 2)) (hn : nx = pc + 2) (h : oh_stL ls k st (fun l st1 => K nx l st1 μ)) : oh_G p l e R s m args below meth c cells slots Q D ad tc cA A nL pc ls st μ := by
  subst hn
  unfold oh_stL at h
  split at h
  · rename_i x st1
    obtain ⟨hi, hp, h⟩ := oh_st2_of h
    intro h0 h1 h2 h3 H locs lr hP hD hS hL
    obtain ⟨hw, h2⟩ := List.forall_mem_cons.mp h2
    refine lv_lstore hx hb hd hL (by omega) rfl (fun lr' hl' => ?_)
    exact hK _ _ _ _ h (by rw [oh_sv_len, oh_sv_len]; exact h0) (oh_mem_st0 (by rw [oh_sv_len]; exact hi) (oh_mem_st1 (by omega) hw h1)) h2 h3 H locs lr' hP hD hS (oh_lv_st2 (v := oL x) hi hp hl')
  · exact h.elim
theorem g_lstore_n (hx : p.tables.exec = Jvm.exec) (hb : c.code = cc) (hK : ∀ pc ls st μ, K pc ls st μ → oh_G p l e R s m args below meth c cells slots Q D ad tc cA A nL pc ls st μ) {k : Fin 4} (hd : decode cc pc = .ok (.lstore_n k, 1)) (hn : nx = pc + 1) (h : oh_stL ls k.val st (fun l st1 => K nx l st1 μ)) : oh_G p l e R s m args below meth c cells slots Q D ad tc cA A nL pc ls st μ := by
  subst hn
  unfold oh_stL at h
  split at h
  · rename_i x st1
    obtain ⟨hi, hp, h⟩ := oh_st2_of h
    intro h0 h1 h2 h3 H locs lr hP hD hS hL
    obtain ⟨hw, h2⟩ := List.forall_mem_cons.mp h2
    refine lv_lstore_n hx hb hd rfl hL (by omega) rfl (fun lr' hl' => ?_)
    exact hK _ _ _ _ h (by rw [oh_sv_len, oh_sv_len]; exact h0) (oh_mem_st0 (by rw [oh_sv_len]; exact hi) (oh_mem_st1 (by omega) hw h1)) h2 h3 H locs lr' hP hD hS (oh_lv_st2 (v := oL x) hi hp hl')
  · exact h.elim
theorem g_astore (hx : p.tables.exec = Jvm.exec) (hb : c.code = cc) (hK : ∀ pc ls st μ, K pc ls st μ → oh_G p l e R s m args below meth c cells slots Q D ad tc cA A nL pc ls st μ) {k : Nat} (hd : decode cc pc = .ok (.astore k, 2)) (hn : nx = pc + 2) (h : oh_stA ls k st (fun l st1 => K nx l st1 μ)) : oh_G p l e R s m args below meth c cells slots Q D ad tc cA A nL pc ls st μ := by
  subst hn
  unfold oh_stA at h
  split at h
  · rename_i x st1
    obtain ⟨hi, hp, h⟩ := oh_st1_of h
    intro h0 h1 h2 h3 H locs lr hP hD hS hL
    obtain ⟨hw, h2⟩ := List.forall_mem_cons.mp h2
    have kk := fun lr' hl' => hK _ _ _ _ h (by rw [oh_sv_len]; exact h0) (oh_mem_st1 hi hw h1) h2 h3 H locs lr' hP hD hS (oh_lv_st1 (v := Sum.inr (Sum.inr x)) hi hp hl')
    rcases x with ⟨q1, q2⟩ | x
    · exact lv_astore hx hb hd hL (by omega) rfl kk
    · exact lv_astore hx hb hd hL (by omega) rfl kk
  · exact h.elim
theorem g_astore_n (hx : p.tables.exec = Jvm.exec) (hb : c.code = cc) (hK : ∀ pc ls st μ, K pc ls st μ → oh_G p l e R s m args below meth c cells slots Q D ad tc cA A nL pc ls st μ) {k : Fin 4} (hd : decode cc pc = .ok (.astore_n k, 1)) (hn : nx = pc + 1) (h : oh_stA ls k.val st (fun l st1 => K nx l st1 μ)) : oh_G p l e R s m args below meth c cells slots Q D ad tc cA A nL pc ls st μ := by
  subst hn
  unfold oh_stA at h
  split at h
  · rename_i x st1
    obtain ⟨hi, hp, h⟩ := oh_st1_of h
    intro h0 h1 h2 h3 H locs lr hP hD hS hL
    obtain ⟨hw, h2⟩ := List.forall_mem_cons.mp h2
    have kk := fun lr' hl' => hK _ _ _ _ h (by rw [oh_sv_len]; exact h0) (oh_mem_st1 hi hw h1) h2 h3 H locs lr' hP hD hS (oh_lv_st1 (v := Sum.inr (Sum.inr x)) hi hp hl')
    rcases x with ⟨q1, q2⟩ | x
    · exact lv_astore_n hx hb hd rfl hL (by omega) rfl kk
    · exact lv_astore_n hx hb hd rfl hL (by omega) rfl kk
  · exact h.elim
theorem g_iinc (hx : p.tables.exec = Jvm.exec) (hb : c.code = cc) (hK : ∀ pc ls st μ, K pc ls st μ → oh_G p l e R s m args below meth c cells slots Q D ad tc cA A nL pc ls st μ) {k : Nat} {n : Int} (hd : decode cc pc = .ok (.iinc k n, 3)) (hn : nx = pc + 3) (h : oh_ldI ls k (fun x => oh_rg (x + n) (oh_st1 ls k (oI (x + n)) (fun l => K nx l st μ)))) : oh_G p l e R s m args below meth c cells slots Q D ad tc cA A nL pc ls st μ := by
  subst hn
  obtain ⟨x, hx1, hr, h⟩ := oh_ldI_of h
  obtain ⟨hi, hp, h⟩ := oh_st1_of h
  intro h0 h1 h2 h3 H locs lr hP hD hS hL
  obtain ⟨kk, hkk⟩ := List.mem_iff_getElem?.mp (oh_lv_in (ad := ad) (tc := tc) hx1)
  refine lv_iinc hx hb hd hL hkk (Int32.ofInt_add x n).symm (by omega) rfl (fun lr' hl' => ?_)
  exact hK _ _ _ _ h (by rw [oh_sv_len]; exact h0) (oh_mem_st1 hi hr h1) h2 h3 H locs lr' hP hD hS (oh_lv_st1 (v := oI (x + n)) hi hp hl')
end OhG
