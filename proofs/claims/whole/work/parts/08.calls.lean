/-! CALLS, CONTRACTS, and the small machine's claim out of all its steps -/
theorem oh_look_mem {α : Type} : ∀ {l : List (Nat × α)} {k : Nat} {a : α}, oh_look l k = some a → (k, a) ∈ l
  | [], _, _, h => by simp [oh_look] at h
  | (k', a') :: l, k, a, h => by
    unfold oh_look at h
    split at h
    · rename_i e
      have e := Nat.eq_of_beq_eq_true e
      subst e
      cases h
      exact List.mem_cons_self
    · exact List.mem_cons_of_mem _ (oh_look_mem h)
def oh_nK (v : AV) : Prop := match v with
  | Sum.inr (Sum.inr (Sum.inr _)) => False
  | _ => True
theorem oh_re_nK {ad : Nat → Nat → Nat} {tc tc' : Nat → Nat} {v : AV} (h : oh_nK v) : oh_re ad tc v = oh_re ad tc' v := by
  rcases v with x | x | q | k
  · rfl
  · rfl
  · rfl
  · exact h.elim
theorem oh_args_of : ∀ (n : Nat) (st acc : List AV) (k : List AV → List AV → Prop), oh_args n st acc k → ∃ bs st1, st = bs ++ st1 ∧ bs.length = n ∧ (∀ v ∈ bs, oh_nK v) ∧ k (bs.reverse ++ acc) st1
  | 0, st, acc, k, h => ⟨[], st, rfl, rfl, ⟨fun _ h => (nomatch h), h⟩⟩
  | n + 1, [], _, _, h => by simp [oh_args] at h
  | n + 1, v :: st, acc, k, h => by
    have key : oh_nK v ∧ oh_args n st (v :: acc) k := by
      rcases v with x | x | q | c
      · exact ⟨trivial, h⟩
      · exact ⟨trivial, h⟩
      · exact ⟨trivial, h⟩
      · exact h.elim
    obtain ⟨bs, st1, e, hl, hn, hk⟩ := oh_args_of n st (v :: acc) k key.2
    refine ⟨v :: bs, st1, by rw [e]; rfl, by simp [hl], List.forall_mem_cons.mpr ⟨key.1, hn⟩, ?_⟩
    simpa using hk
/-- the addresses that may be written: the world's, and new ones -/
def oh_A (ad : Nat → Nat → Nat) (sz : Nat) : Nat → Prop := fun q => (∃ s n, n < oh_cnt s ∧ q = ad s n) ∨ sz ≤ q
theorem oh_A_sub {ad : Nat → Nat → Nat} {a b : Nat} (h : a ≤ b) {q : Nat} (hq : oh_A ad b q) : oh_A ad a q := by
  rcases hq with hq | hq
  · exact Or.inl hq
  · exact Or.inr (Nat.le_trans h hq)
theorem oh_D_all {ad : Nat → Nat → Nat} {cA : Nat → Nat → ClassId} {μ : Mem} {A : Nat → Prop} {sz : Nat} (h : va_D A (oh_w ad cA μ)) : va_D (oh_A ad sz) (oh_w ad cA μ) := by
  refine ⟨h.1, fun k q hk => ?_⟩
  have hm : q ∈ oh_w ad cA μ := List.mem_of_getElem? hk
  obtain ⟨x, hx, rfl⟩ := List.mem_map.mp hm
  exact Or.inl ⟨x.1, x.2, oh_mem_cnt hx, rfl⟩
def oh_tc (t0 t1 : Nat) : Nat → Nat := fun k => match k with
  | 0 => t0
  | _ => t1
def oh_Sta (t0 t1 : Nat) (A : Nat → Prop) (U : State) (H : Heap) : Prop := va_Z "OthersHours" "TOIL" "[I" (.ref t0) A U H ∧ va_Z "OthersHours" "DIGEST_HOURS" "[I" (.ref t1) A U H ∧ ∀ k, oh_Con oh_kc (oh_tc t0 t1) A U H k
theorem oh_Sta_moved {t0 t1 : Nat} {A : Nat → Prop} {u U : State} {H : Heap} (hvm : u.vm.Alike U.vm) (h : oh_Sta t0 t1 A u H) : oh_Sta t0 t1 A U H :=
  ⟨h.1.moved hvm, h.2.1.moved hvm, fun k => by
    obtain ⟨N, h1, h2, h3, h4⟩ := h.2.2 k
    exact ⟨N, h1, h2, h3.moved hvm, h4⟩⟩
theorem oh_Sta_kept {t0 t1 : Nat} {A : Nat → Prop} {U : State} {H H1 : Heap} (hq : ∀ a : Nat, a < H.size → ¬ A a → H1[a]? = H[a]?) (h : oh_Sta t0 t1 A U H) : oh_Sta t0 t1 A U H1 :=
  ⟨h.1.kept hq, h.2.1.kept hq, fun k => by
    obtain ⟨N, h1, h2, h3, h4⟩ := h.2.2 k
    exact ⟨N, h1, h2, h3.kept hq, h4⟩⟩
theorem oh_Sta_narrow {t0 t1 : Nat} {A B : Nat → Prop} {U : State} {H : Heap} (hAB : ∀ q, B q → A q) (h : oh_Sta t0 t1 A U H) : oh_Sta t0 t1 B U H :=
  ⟨h.1.narrow hAB, h.2.1.narrow hAB, fun k => by
    obtain ⟨N, h1, h2, h3, h4⟩ := h.2.2 k
    exact ⟨N, h1, h2, h3.narrow hAB, h4⟩⟩
def oh_B (D : va_G) (ad : Nat → Nat → Nat) (cA : Nat → Nat → ClassId) (t0 t1 : Nat) (μ : Mem) (sz : Nat) (U : State) : Prop :=
  U.heap.size = sz ∧ va_P D vwCl (oh_w ad cA μ) U.heap ∧ va_K D vwCl (oh_tys cA) U ∧ va_D (oh_A ad sz) (oh_w ad cA μ) ∧ oh_Sta t0 t1 (oh_A ad sz) U U.heap ∧ ∀ w ∈ oh_nest, va_Nw w U
def oh_Qc (D : va_G) (ad : Nat → Nat → Nat) (cA : Nat → Nat → ClassId) (tc : Nat → Nat) (sz : Nat) (Post : Po) : Array Value → State → Outcome → State → Prop := fun _ st oc t =>
  (∃ (r : Option AV) (μ1 : Mem), oc = .returned (r.map (oh_re ad tc)) ∧ Post r μ1 ∧ (∀ v, r = some v → oh_wf v ∧ oh_nK v) ∧ oh_wfM μ1 ∧ va_P D vwCl (oh_w ad cA μ1) t.heap ∧ va_D (oh_A ad sz) (oh_w ad cA μ1)) ∧ va_F (oh_A ad sz) st t
def oh_rm (h : Nat) : Room := { frames := h, cells := 0, slots := 0, locals := 128 * h }
/-- a method's contract over the machine -/
def oh_MC (l : Launch) (h : Nat) (y : MethodName) (bytes : ByteArray) (maxL : Nat) (ret : Option FieldType) (T : Tr) : Prop :=
  ∀ (D : va_G) (ad : Nat → Nat → Nat) (cA : Nat → Nat → ClassId) (t0 t1 sz : Nat) (as : List AV) (μ : Mem) (Post : Po), T as μ Post → (∀ v ∈ as, oh_wf v ∧ oh_nK v) → oh_wfM μ →
    Met l y (.code y bytes maxL ret :: oh_tbl) (oh_rm h) (va_Pc (as.map (oh_re ad (oh_tc t0 t1))) (oh_B D ad cA t0 t1 μ sz)) (oh_Qc D ad cA (oh_tc t0 t1) sz Post) 0 0 (oh_A ad sz)
theorem oh_blind {D : va_G} {ad : Nat → Nat → Nat} {cA : Nat → Nat → ClassId} {t0 t1 sz : Nat} {μ : Mem} {av : List Value} : FrameBlind (va_Pc av (oh_B D ad cA t0 t1 μ sz)) := by
  intro a U g mk q
  obtain ⟨q0, q1, qP, qK, qD, qS, qN⟩ := q
  exact ⟨q0, q1, qP, va_K.moved (u := U) (U := U.calling g mk a) (Vm.Alike.refl U.vm) qK, qD, oh_Sta_moved (u := U) (U := U.calling g mk a) (Vm.Alike.refl U.vm) qS, oh_nest_same (u := U) rfl qN⟩
theorem oh_good {w : Cond} (h : w ∈ oh_tbl) : GoodIn oh_tbl (w :: oh_tbl) := by
  intro v hv
  rcases List.mem_cons.mp hv with rfl | hv
  · exact ⟨h, good_of_word (List.mem_filter.mp h).2⟩
  · exact ⟨hv, good_of_word (List.mem_filter.mp hv).2⟩
section OhC
variable {p : Program} {l : Launch} {e : Env} {R : Room} {s : State} {m : MethodId} {args : Array Value} {below : List Frame} {meth : Method} {c : Code} {cells slots : Nat} {Q : State → Prop}
variable {D : va_G} {ad : Nat → Nat → Nat} {tc : Nat → Nat} {cA : Nat → Nat → ClassId} {nL : Nat} {cc : ByteArray} {own : String} {K : Kt} {pc nx : Nat} {ls : LV} {st : List AV} {μ : Mem} {kc : Nat → Int × (Int → Int)} {t0 t1 : Nat}
def oh_COK (p : Program) (l : Launch) (e : Env) (R : Room) (s : State) (m : MethodId) (args : Array Value) (below : List Frame) (meth : Method) (c : Code) (cells slots : Nat) (Q : State → Prop) (D : va_G) (ad : Nat → Nat → Nat) (tc : Nat → Nat) (cA : Nat → Nat → ClassId) (A : Nat → Prop) (nL : Nat) (cc : ByteArray) (i : ClassFile.Instr) (na : Nat) (T : Tr) : Prop :=
  ∀ (pc : Nat) (as st1 : List AV) (μ : Mem) (Post : Po) (H : Heap) (locs : List Loc) (lr : Array Slot), decode cc pc = .ok (i, 3) → as.length = na → (∀ v ∈ as, oh_wf v ∧ oh_nK v) → oh_cat st1 ≤ 8 → oh_wfM μ → T as μ Post → va_P D vwCl (oh_w ad cA μ) H → va_D A (oh_w ad cA μ) → va_S A s.heap H locs → lr.size = nL →
    (∀ (r : Option AV) (μ1 : Mem) (H1 : Heap) (locs1 : List Loc), Post r μ1 → (∀ v, r = some v → oh_wf v) → oh_wfM μ1 → va_P D vwCl (oh_w ad cA μ1) H1 → va_D A (oh_w ad cA μ1) → va_S A s.heap H1 locs1 → W p l e R s m args below meth c H1 locs1 cells slots Q (F0 m (pc + 3) lr ((r.toList ++ st1).map (oh_re ad tc)))) →
    W p l e R s m args below meth c H locs cells slots Q (F0 m pc lr ((as.reverse ++ st1).map (oh_re ad tc)))
theorem oh_run_go {lr : Array Slot} {H : Heap} {locs : List Loc} {st0 : List Value} {st1 : List AV} {Post : Po} {a : Array Value}
    (hr : va_Run p l e R s m args below meth c H locs cells slots 0 0 (F0 m pc lr st0) (st1.map (oh_re ad tc)) (oh_Qc D ad cA (oh_tc t0 t1) H.size Post a) (oh_A ad H.size)) (hS : va_S (oh_A ad s.heap.size) s.heap H locs)
    (kk : ∀ (r : Option AV) (μ1 : Mem) (H1 : Heap) (locs1 : List Loc), Post r μ1 → (∀ v, r = some v → oh_wf v) → oh_wfM μ1 → va_P D vwCl (oh_w ad cA μ1) H1 → va_D (oh_A ad s.heap.size) (oh_w ad cA μ1) → va_S (oh_A ad s.heap.size) s.heap H1 locs1 → W p l e R s m args below meth c H1 locs1 cells slots Q (F0 m (pc + 3) lr ((r.toList ++ st1).map (oh_re ad tc)))) :
    W p l e R s m args below meth c H locs cells slots Q (F0 m pc lr st0) := by
  intro T hT X
  obtain ⟨v, st₀, t, T', L, h0, X', hL, e1, e2, ⟨⟨r, μ1, hv, hp, hw, hm, hP1, hD1⟩, hz, hk⟩, st⟩ := hr T hT X
  cases hv
  rw [h0] at hz hk
  have hsub : ∀ q, oh_A ad H.size q → oh_A ad s.heap.size q := fun q h => oh_A_sub hS.1 h
  have kk2 := kk r μ1 T'.heap (locs ++ L) hp (fun v hv => (hw v hv).1) hm (by rw [e1]; exact hP1) (oh_D_all hD1)
    ⟨Nat.le_trans hS.1 (by rw [e1]; exact hz), fun q h1 h2 => by rw [e1, hk q (Nat.lt_of_lt_of_le h1 hS.1) (fun z => h2 (hsub q z))]; exact hS.2.1 q h1 h2, fun q hq => by
      rcases List.mem_append.mp hq with h | h
      · exact hS.2.2 q h
      · exact hsub _ (hL q h)⟩
  have est : (r.map (oh_re ad (oh_tc t0 t1))).toList ++ st1.map (oh_re ad tc) = (r.toList ++ st1).map (oh_re ad tc) := by
    cases r with
    | none => rfl
    | some v =>
      show oh_re ad (oh_tc t0 t1) v :: _ = oh_re ad tc v :: _
      rw [oh_re_nK (tc' := tc) (hw v rfl).2]
      rfl
  obtain ⟨t2, a1, b1⟩ := kk2 T' rfl X'
  refine ⟨t2, st t2 ?_, b1⟩
  show Steps p.tables e below (T'.setTop (F0 m (pc + 3) lr ((r.map (oh_re ad (oh_tc t0 t1))).toList ++ st1.map (oh_re ad tc)))) t2
  rw [est]
  exact a1
theorem oh_pre {as : List AV} {H : Heap} {locs : List Loc} (hKn : va_K D vwCl (oh_tys cA) s) (hSt : oh_Sta t0 t1 (oh_A ad s.heap.size) s s.heap) (hNs : ∀ w ∈ oh_nest, va_Nw w s) (hP : va_P D vwCl (oh_w ad cA μ) H) (hD : va_D (oh_A ad s.heap.size) (oh_w ad cA μ)) (hS : va_S (oh_A ad s.heap.size) s.heap H locs) :
    ∀ U : State, U.heap = H → s.WarmedH U.vm → va_Pc (as.map (oh_re ad (oh_tc t0 t1))) (oh_B D ad cA t0 t1 μ H.size) (as.map (oh_re ad (oh_tc t0 t1))).toArray U := by
  intro U hU hW
  refine ⟨rfl, by rw [hU], by rw [hU]; exact hP, va_K.moved hW.alike hKn, oh_D_all hD, ?_, oh_nest_warm hW hNs⟩
  rw [hU]
  exact oh_Sta_moved hW.alike (oh_Sta_narrow (fun q h => oh_A_sub hS.1 h) (oh_Sta_kept (fun a h1 h2 => hS.2.1 a h1 h2) hSt))
theorem oh_map_nK {as : List AV} (h : ∀ v ∈ as, oh_wf v ∧ oh_nK v) : as.map (oh_re ad tc) = as.map (oh_re ad (oh_tc t0 t1)) := List.map_congr_left (fun v hv => oh_re_nK (h v hv).2)
/-- a static method of the same class, or of another one by an ordinary link -/
theorem oh_cS (hx : p.tables.exec = Jvm.exec) (hb : c.code = cc) (hml : c.maxLocals = nL) (hown : s.vm.findClass own = some m.cls) (hts : ∀ w ∈ oh_tbl, w.before args s = true) (hKn : va_K D vwCl (oh_tys cA) s) (hSt : oh_Sta t0 t1 (oh_A ad s.heap.size) s s.heap) (hNs : ∀ w ∈ oh_nest, va_Nw w s)
    {h idx na maxL : Nat} {y : MethodName} {bytes : ByteArray} {ret : Option FieldType} {T : Tr} (hM : oh_MC l h y bytes maxL ret T) (w1 : Cond.code y bytes maxL ret ∈ oh_tbl) (w2 : Cond.initialized y.cls ∈ oh_tbl) (w3 : Cond.methodLink own idx y ∈ oh_tbl) (w4 : Cond.static y ∈ oh_tbl)
    (hd : y.cls ≠ "java/lang/invoke/MethodHandle" ∧ y.cls ≠ "java/lang/invoke/VarHandle" ∧ (parseMethodDescriptor y.desc).map (fun d => d.parameters.length) = some na) (hR : h + 1 ≤ R.frames ∧ 8 + (maxL + 11) + 128 * h ≤ R.locals) (hcs : cells ≤ R.cells ∧ slots ≤ R.slots) :
    oh_COK p l e R s m args below meth c cells slots Q D ad tc cA (oh_A ad s.heap.size) nL cc (.invokestatic idx) na T := by
  intro pc as st1 μ Post H locs lr hdg hn hwf hcat hwM hT hP hD hS hlr kk
  refine oh_run_go (t0 := t0) (t1 := t1) (a := (as.map (oh_re ad (oh_tc t0 t1))).toArray) (va_runS (y := y) (bytes := bytes) (maxL := maxL) (ret := ret) (ws := .code y bytes maxL ret :: oh_tbl) (Ts := oh_tbl) ⟨hx, hb, hml, hown, hts⟩ (hM D ad cA t0 t1 H.size as μ Post hT hwf hwM) ⟨callB_of na hts (oh_good w1) rfl rfl rfl (hts _ w2) (hts _ w3) hd hR, hts _ w4⟩
    ⟨oh_blind, oh_pre hKn hSt hNs hP hD hS⟩ rfl (by rw [List.length_map]; exact hn) hlr ?_ (lv_room (by rw [oh_re_cat]; exact hcat)) hdg hcs) hS kk
  rw [← oh_map_nK (tc := tc) hwf]
  show (as.reverse ++ st1).map (oh_re ad tc) = _
  rw [List.map_append, List.map_reverse]
/-- a private static method of the nest's host -/
theorem oh_cSN (hx : p.tables.exec = Jvm.exec) (hb : c.code = cc) (hml : c.maxLocals = nL) (hown : s.vm.findClass own = some m.cls) (hts : ∀ w ∈ oh_tbl, w.before args s = true) (hKn : va_K D vwCl (oh_tys cA) s) (hSt : oh_Sta t0 t1 (oh_A ad s.heap.size) s s.heap) (hNs : ∀ w ∈ oh_nest, va_Nw w s)
    {h idx na maxL : Nat} {host : String} {y : MethodName} {bytes : ByteArray} {ret : Option FieldType} {T : Tr} (hM : oh_MC l h y bytes maxL ret T) (w1 : Cond.code y bytes maxL ret ∈ oh_tbl) (w2 : Cond.initialized y.cls ∈ oh_tbl) (w3 : Cond.methodLinkNest own idx y host ∈ oh_nest) (w4 : Cond.static y ∈ oh_tbl)
    (hd : y.cls ≠ "java/lang/invoke/MethodHandle" ∧ y.cls ≠ "java/lang/invoke/VarHandle" ∧ (parseMethodDescriptor y.desc).map (fun d => d.parameters.length) = some na) (hR : h + 1 ≤ R.frames ∧ 8 + (maxL + 11) + 128 * h ≤ R.locals) (hcs : cells ≤ R.cells ∧ slots ≤ R.slots) :
    oh_COK p l e R s m args below meth c cells slots Q D ad tc cA (oh_A ad s.heap.size) nL cc (.invokestatic idx) na T := by
  intro pc as st1 μ Post H locs lr hdg hn hwf hcat hwM hT hP hD hS hlr kk
  have hl : va_Nw (.methodLinkNest own idx y host) s := hNs _ w3
  refine oh_run_go (t0 := t0) (t1 := t1) (a := (as.map (oh_re ad (oh_tc t0 t1))).toArray) (va_runSN (y := y) (bytes := bytes) (maxL := maxL) (ret := ret) (host := host) (ws := .code y bytes maxL ret :: oh_tbl) (Ts := oh_tbl) ⟨hx, hb, hml, hown, hts⟩ (hM D ad cA t0 t1 H.size as μ Post hT hwf hwM) ⟨va_cnB na hts (oh_good w1) rfl rfl rfl hl (hts _ w2) hd hR, hts _ w4, trivial⟩
    ⟨oh_blind, oh_pre hKn hSt hNs hP hD hS⟩ rfl (by rw [List.length_map]; exact hn) hlr ?_ (lv_room (by rw [oh_re_cat]; exact hcat)) hdg hcs) hS kk
  rw [← oh_map_nK (tc := tc) hwf]
  show (as.reverse ++ st1).map (oh_re ad tc) = _
  rw [List.map_append, List.map_reverse]
/-- a method of an object of the world -/
theorem oh_cV (hx : p.tables.exec = Jvm.exec) (hb : c.code = cc) (hml : c.maxLocals = nL) (hown : s.vm.findClass own = some m.cls) (hts : ∀ w ∈ oh_tbl, w.before args s = true) (hKn : va_K D vwCl (oh_tys cA) s) (hSt : oh_Sta t0 t1 (oh_A ad s.heap.size) s s.heap) (hNs : ∀ w ∈ oh_nest, va_Nw w s)
    {h idx na maxL s0 : Nat} {y : MethodName} {bytes : ByteArray} {ret : Option FieldType} {T : Tr} (hM : oh_MC l h y bytes maxL ret T) (hrec : ∀ as μ Post, T as μ Post → ∃ n r, as = oR s0 n :: r) (hA0 : oh_isA s0 = false) (hcl : ∃ q, vwCl[oh_ci s0]? = some q ∧ q.1 = y.cls) (w1 : Cond.code y bytes maxL ret ∈ oh_tbl) (w2 : Cond.initialized y.cls ∈ oh_tbl) (w3 : Cond.methodLink own idx y ∈ oh_tbl) (w4 : Cond.instanceMethod y ∈ oh_tbl) (w5 : Cond.selects y.cls y y ∈ oh_tbl)
    (hd : y.cls ≠ "java/lang/invoke/MethodHandle" ∧ y.cls ≠ "java/lang/invoke/VarHandle" ∧ (parseMethodDescriptor y.desc).map (fun d => d.parameters.length) = some na) (hR : h + 1 ≤ R.frames ∧ 8 + (maxL + 11) + 128 * h ≤ R.locals) (hcs : cells ≤ R.cells ∧ slots ≤ R.slots) :
    oh_COK p l e R s m args below meth c cells slots Q D ad tc cA (oh_A ad s.heap.size) nL cc (.invokevirtual idx) (na + 1) T := by
  intro pc as st1 μ Post H locs lr hdg hn hwf hcat hwM hT hP hD hS hlr kk
  obtain ⟨n, r, rfl⟩ := hrec as μ Post hT
  have hw : n < oh_cnt s0 := (hwf _ List.mem_cons_self).1
  obtain ⟨q0, hq0⟩ := oh_place hw
  have he := oh_w_at (ad := ad) (cA := cA) (μ := μ) hq0
  rw [oh_e_obj hA0] at he
  obtain ⟨qc, hqc, hqn⟩ := hcl
  have hrv := va_recv hKn hP hqc he
  rw [hqn] at hrv
  have hpre := oh_pre (as := oR s0 n :: r) hKn hSt hNs hP hD hS
  refine oh_run_go (t0 := t0) (t1 := t1) (a := (Value.ref (ad s0 n) :: r.map (oh_re ad (oh_tc t0 t1))).toArray) (va_runV (y := y) (C := y.cls) (b := ad s0 n) (As := r.map (oh_re ad (oh_tc t0 t1))) (n := na) (bytes := bytes) (maxL := maxL) (ret := ret) (ws := .code y bytes maxL ret :: oh_tbl) (Ts := oh_tbl) ⟨hx, hb, hml, hown, hts⟩ (hM D ad cA t0 t1 H.size (oR s0 n :: r) μ Post hT hwf hwM) ⟨callB_of na hts (oh_good w1) rfl rfl rfl (hts _ w2) (hts _ w3) hd hR, hts _ w4, hts _ w5⟩
    ⟨oh_blind, hrv, hpre⟩ rfl (by rw [List.length_map]; simpa using hn) hlr ?_ (lv_room (by rw [oh_re_cat]; exact hcat)) hdg hcs) hS kk
  rw [← oh_map_nK (tc := tc) (fun v hv => hwf v (List.mem_cons_of_mem _ hv))]
  show ((oR s0 n :: r).reverse ++ st1).map (oh_re ad tc) = _
  simp [oh_re]
theorem g_invoke {i : ClassFile.Instr} {ca : List (Nat × Nat × Tr)} {idx : Nat} {A : Nat → Prop} (hK : ∀ pc ls st μ, K pc ls st μ → oh_G p l e R s m args below meth c cells slots Q D ad tc cA A nL pc ls st μ) (hd : decode cc pc = .ok (i, 3)) (hn : nx = pc + 3)
    (hC : ∀ na T, oh_look ca idx = some (na, T) → oh_COK p l e R s m args below meth c cells slots Q D ad tc cA A nL cc i na T) (h : oh_inv ca idx st μ (fun st1 μ1 => K nx ls st1 μ1)) : oh_G p l e R s m args below meth c cells slots Q D ad tc cA A nL pc ls st μ := by
  subst hn
  unfold oh_inv at h
  split at h
  · rename_i na T hl
    obtain ⟨bs, st1, rfl, hbl, hnk, h⟩ := oh_args_of _ _ _ _ h
    split at h
    · rename_i hcat
      have hcat := Nat.le_of_ble_eq_true hcat
      intro h0 h1 h2 h3 H locs lr hP hD hS hL
      obtain ⟨h2a, h2b⟩ := List.forall_mem_append.mp h2
      rw [List.append_nil] at h
      have w := hC na T hl pc bs.reverse st1 μ _ H locs lr hd (by rw [List.length_reverse]; exact hbl) (fun v hv => ⟨h2a v (List.mem_reverse.mp hv), hnk v (List.mem_reverse.mp hv)⟩) hcat h3 h.1 hP hD hS hL.1
        (fun r μ1 H1 locs1 hpo hwr hwm hP1 hD1 hS1 => ?_)
      · rw [List.reverse_reverse] at w
        exact w
      · cases r with
        | none => exact hK _ _ _ _ hpo h0 h1 h2b hwm H1 locs1 lr hP1 hD1 hS1 hL
        | some v => exact hK _ _ _ _ hpo h0 h1 (List.forall_mem_cons.mpr ⟨hwr v rfl, h2b⟩) hwm H1 locs1 lr hP1 hD1 hS1 hL
    · exact h.elim
  · exact h.elim
end OhC
