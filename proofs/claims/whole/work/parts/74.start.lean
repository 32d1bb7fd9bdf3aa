/-! THE CLAIM OUT OF ONE WALK OF THE LAW'S BODY. Your part is whole_start (and what it stands on); all else here is the same for every law, but numbers. -/
def R_law : String := "OthersHoursLaw"
def lw_P (b : Addr) (xs : List Int32) (args : Array Value) (s : State) : Prop := args = #[.ref b] ∧ s.IntsAt b xs ∧ xs.length ≤ 384 ∧ (Jvm.Cond.and given_1 narrow_1).before args s = true
def lw_Q (_ : Array Value) (s : State) (o : Outcome) (t : State) : Prop := o = .returned (some (.int 1)) ∧ Framed s o t [] 600000 7302250
def lw_Z (below : List Frame) (a : Array Value) (s : State) : State → Prop := fun t => ∃ o, t.status = .running ∧ Ended t below o ∧ lw_Q a s o t
/-- the law's own end, with 1 on the stack, nothing written that was there before, its room as the claim has it -/
theorem lw_ret {p : Program} {l : Launch} {e : Env} {s : State} {m : MethodId} {below : List Frame} {meth : Method} {c : Code} {b : Nat} (hx : p.tables.exec = Jvm.exec) (hb : c.code = code) (hr : meth.sig.returnType = ret) (hlocks : meth.locks = false) {pc : Nat} {H : Heap} {ls : Array Slot} (hdg : decode code pc = .ok (.ireturn, 1)) : W p l e room_1 s m #[Value.ref b] below meth c H [] 600000 7302250 (lw_Z below #[Value.ref b] s) (F0 m pc ls [.int 1]) := by
  intro T hT X
  obtain ⟨fs, hret, hrun, hended, hW, hframe⟩ := X.leave (v := some (.int 1)) (hlocks := hlocks) (fun h => by rw [hr] at h; cases h)
  have hmeth' : T.vm.method? m = some meth := X.method'
  refine ⟨T.setFrames fs, ?_, .returned (some (.int 1)), hrun, hended, rfl, ⟨_, rfl⟩, hW, hframe⟩
  jvm_step X.here [X.here.top, hx, hb, hdg, hmeth', hr, ret, narrow_b1]
  (try refine ⟨rfl, ?_⟩); (try refine ⟨rfl, ?_⟩)
  first | (intro acts; rw [hret _ acts rfl rfl rfl]) | rw [hret _ _ rfl rfl rfl]
  exact Steps.refl _
/-- what holds at the law's entry: the machine, the code, the tables' words (any of lw_tbl by 'hts w (by decide +kernel)'), the script of L ints xs at the cell b, what the Statement gives of the start (any of its parts by flat_of_before) -/
def lw_At (p : Program) (s : State) (m : MethodId) (meth : Method) (c : Code) (b L : Nat) (xs : Nat → Int32) : Prop :=
  p.tables.exec = Jvm.exec ∧ c.code = code ∧ meth.sig.returnType = ret ∧ c.maxLocals = 4 ∧ s.vm.findClass R_law = some m.cls ∧ (∀ w ∈ lw_tbl, w.before #[Value.ref b] s = true) ∧ va_X b L xs s s.heap ∧ b < s.heap.size ∧ meth.locks = false ∧ (Jvm.Cond.and given_1 narrow_1).before #[Value.ref b] s = true
theorem dL_law_0 : decode cL_law 0 = .ok (.new 7, 3) := by decide +kernel
theorem dL_law_3 : decode cL_law 3 = .ok (.dup, 1) := by decide +kernel
theorem dL_law_4 : decode cL_law 4 = .ok (.invokespecial 9, 3) := by decide +kernel
theorem dL_law_7 : decode cL_law 7 = .ok (.astore_n 1, 1) := by decide +kernel
theorem dL_law_8 : decode cL_law 8 = .ok (.new 10, 3) := by decide +kernel
theorem dL_law_11 : decode cL_law 11 = .ok (.dup, 1) := by decide +kernel
theorem dL_law_12 : decode cL_law 12 = .ok (.invokespecial 12, 3) := by decide +kernel
theorem dL_law_15 : decode cL_law 15 = .ok (.astore_n 2, 1) := by decide +kernel
theorem dL_law_16 : decode cL_law 16 = .ok (.iconst 0, 1) := by decide +kernel
theorem dL_law_17 : decode cL_law 17 = .ok (.istore_n 3, 1) := by decide +kernel
theorem dg_of {s : State} {args : Array Value} (hto : ∀ w ∈ oh_tbl, w.before args s = true) : ∃ D : va_G, va_K D vwCl [] s := by
  obtain ⟨c0, i0, K0⟩ := u_known hto u_X0 (n := 9) (hto (.instantiable RX0 9) (oh_at 121 (by decide +kernel) rfl))
  obtain ⟨c1, i1, K1⟩ := u_known hto u_X1 (n := 1) (hto (.instantiable RX1 1) (oh_at 110 (by decide +kernel) rfl))
  obtain ⟨c2, i2, K2⟩ := u_known hto u_X2 (n := 3) (hto (.instantiable RX2 3) (oh_at 162 (by decide +kernel) rfl))
  obtain ⟨c3, i3, K3⟩ := u_known hto u_X3 (n := 7) (hto (.instantiable RX3 7) (oh_at 80 (by decide +kernel) rfl))
  obtain ⟨c4, i4, K4⟩ := u_known hto u_X4 (n := 15) (hto (.instantiable RX4 15) (oh_at 72 (by decide +kernel) rfl))
  obtain ⟨c5, i5, K5⟩ := u_known hto u_X5 (n := 25) (hto (.instantiable RX5 25) (oh_at 684 (by decide +kernel) rfl))
  refine ⟨(fun c => oh_nth [c0, c1, c2, c3, c4, c5] c c0, fun c => oh_nth [i0, i1, i2, i3, i4, i5] c i0), fun c q hq => ?_, fun k q hk => by cases hk⟩
  match c, hq with
  | 0, hq => cases hq; exact K0
  | 1, hq => cases hq; exact K1
  | 2, hq => cases hq; exact K2
  | 3, hq => cases hq; exact K3
  | 4, hq => cases hq; exact K4
  | 5, hq => cases hq; exact K5
  | _ + 6, hq => cases hq
def ltc (b t0 t1 : Nat) : Nat → Nat := fun k => match k with
  | 2 => b
  | k => oh_tc t0 t1 k
theorem lcon {b L t0 t1 : Nat} {xs : Nat → Int32} {A : Nat → Prop} {s : State} (hL : L ≤ 384) (hX : va_X b L xs s s.heap) (hb : ¬ A b) (hSt : oh_Sta t0 t1 A s s.heap) : ∀ k, oh_Con (lkc L (fun j => (xs j.toNat).toInt)) (ltc b t0 t1) A s s.heap k := by
  intro k
  match k with
  | 0 => exact hSt.2.2 0
  | 1 => exact hSt.2.2 1
  | 2 =>
    obtain ⟨scr, h1, h2, h3, h4, h5⟩ := hX
    refine ⟨L, rfl, by omega, ⟨scr, h1, h2, h3, by omega, by rw [h4], fun j hj => ?_, hb⟩, fun j => oh_rg32 _⟩
    rw [h5 j hj]
    show some (Value.int (xs j)) = some (Value.int (Int32.ofInt (xs ((j : Int).toNat)).toInt))
    rw [Int32.ofInt_toInt, show ((j : Int).toNat) = j from rfl]
  | k + 3 => exact hSt.2.2 (k + 3)
set_option maxHeartbeats 4000000 in
set_option maxRecDepth 100000 in
theorem law_run {p : Program} {e : Env} {s : State} {m : MethodId} {below : List Frame} {meth : Method} {c : Code} (l : Launch) {b L : Nat} {xs : Nat → Int32} (hL : L ≤ 384) (C0 : lw_At p s m meth c b L xs) {D : va_G} {h4 h5 : Nat} {u4 u5 : UU} {H : Heap} {locs : List Loc} {ls : Array Slot}
    (hK : va_K D vwCl (tysX4 u4.2 ++ tysX5 u5.2) s) (hP : va_P D vwCl (w66 h4 h5 u4 u5) H) (hD : va_D (fun q => s.heap.size ≤ q) (w66 h4 h5 u4 u5)) (hS : va_S (fun q => s.heap.size ≤ q) s.heap H locs) (hl : lv_has ls 4 [(3, .int 0), (2, .ref h5), (1, .ref h4), (0, .ref b)]) :
    W p l e room_1 s m #[Value.ref b] below meth c H locs 66 8578 (lw_Z below #[Value.ref b] s) (F0 m 18 ls []) := by
  obtain ⟨hx, hb, hr, hml, hown, hts, hX, hbl, hlocks, hgv⟩ := C0
  have hto : ∀ w ∈ oh_tbl, w.before #[Value.ref b] s = true := fun w hw => hts w (List.mem_filter.mp hw).1
  have hP0 := w0_P hP
  have hD0 := w0_D hD
  have hK0 := w0_K hK
  have hAA : ∀ q, oh_A (adl h4 h5 u4 u5) s.heap.size q → s.heap.size ≤ q := by
    intro q hq
    rcases hq with ⟨s0, n0, hn, rfl⟩ | hq
    · obtain ⟨k, hk⟩ := oh_place hn
      exact hD0.2 k _ (oh_w_at hk)
    · exact hq
  generalize hade : adl h4 h5 u4 u5 = ad at *
  generalize hcae : cal u4 u5 = cA at *
  have hD1 : va_D (oh_A ad s.heap.size) (oh_w ad cA mu0) := hD0.weaken (fun _ _ _ h => Or.inr h)
  have hS1 : va_S (oh_A ad s.heap.size) s.heap H locs := ⟨hS.1, fun q h1 h2 => hS.2.1 q h1 (fun z => h2 (Or.inr z)), fun q hq => Or.inr (hS.2.2 q hq)⟩
  have hnA : ∀ a : Nat, a < s.heap.size → ¬ oh_A ad s.heap.size a := fun a ha q => absurd (hAA a q) (Nat.not_le.mpr ha)
  obtain ⟨t0, t1, hSt⟩ := sta_of hgv hts hnA
  have hNs : ∀ w ∈ oh_nest, va_Nw w s := fun w hw => va_Nw.of (nest_tabs w hw) (hts w (nest_in w hw))
  have hCon := lcon hL hX (hnA b hbl) hSt
  obtain ⟨hcS, hcV⟩ := oh_calls (p := p) (e := e) (R := room_1) (below := below) (meth := meth) (cells := 66) (slots := 8578) (Q := lw_Z below #[Value.ref b] s) (tc := ltc b t0 t1) (own := "OthersHoursLaw") (cc := cL_law) (nL := 4) hx hb hml hown hto hK0 hSt hNs (h := 20) (Nat.le_of_ble_eq_true rfl) (Nat.le_of_ble_eq_true rfl) ⟨(Nat.le_of_ble_eq_true rfl), (Nat.le_of_ble_eq_true rfl)⟩ (ca_law_ok l)
  have hcl := oh_cl (P := pg_law L (fun j => (xs j.toNat).toInt)) (Post := lawP) (nL := 4) (cc := cL_law) (own := "OthersHoursLaw") hx hb hown hto hNs hK0 hCon rb_law (kf_0 "OthersHoursLaw").1 (kf_0 "OthersHoursLaw").2.1 (kf_0 "OthersHoursLaw").2.2.1 (fun idx k hk => nomatch (oh_look_mem hk)) hcS hcV ?_
  · have hG := law_ok hcl hL L 0 A0 mu0 (by omega) (by omega) (by omega) Rep0C Rep0M
    refine hG rfl ?_ (fun v hv => nomatch hv) mu0_wf H locs ls hP0 hD1 hS1 (oh_L_of hl ?_)
    · intro v hv
      simp only [List.mem_cons, List.not_mem_nil, or_false, Option.some.injEq] at hv
      rcases hv with rfl | rfl | rfl | rfl
      · trivial
      · exact (by decide : 0 < oh_cnt 13)
      · exact (by decide : 0 < oh_cnt 22)
      · exact (by unfold oh_rgI; omega : oh_rgI 0)
    · intro i v hv
      match i, hv with
      | 0, hv => cases hv; exact List.mem_of_getElem? (i := 3) rfl
      | 1, hv => cases hv; rw [← hade]; exact List.mem_of_getElem? (i := 2) rfl
      | 2, hv => cases hv; rw [← hade]; exact List.mem_of_getElem? (i := 1) rfl
      | 3, hv => cases hv; exact List.mem_of_getElem? (i := 0) rfl
      | _ + 4, hv => cases hv
  · intro i pc r μ1 H1 locs1 lr _ hd hk hpo hwr hwm hP1 hD1 hS1
    have hpo : r = some (oI 1) := hpo
    subst hpo
    rcases hk with ⟨rfl, -⟩ | ⟨rfl, x, h⟩ | ⟨rfl, s0, n0, h⟩ | ⟨rfl, h⟩
    · exact va_forget (fun q hq => hAA _ (hS1.2.2 q hq)) (W.widen (Nat.le_of_ble_eq_true rfl) (Nat.le_of_ble_eq_true rfl) (lw_ret hx hb hr hlocks hd))
    · cases h
    · cases h
    · cases h
set_option maxHeartbeats 4000000 in
set_option maxRecDepth 100000 in
/-- from the entry, for every script of at most 384 ints, the law comes to its end with true -/
theorem whole_start {p : Program} {e : Env} {s : State} {m : MethodId} {below : List Frame} {meth : Method} {c : Code} (l : Launch) {b L : Nat} {xs : Nat → Int32} (hL : L ≤ 384) (C0 : lw_At p s m meth c b L xs) : W p l e room_1 s m #[Value.ref b] below meth c s.heap [] 0 0 (lw_Z below #[Value.ref b] s) (entryFrame m ([Value.ref b] : List Value).toArray 4) := by
  have C1 := C0
  obtain ⟨hx, hb, hr, hml, hown, hts, hX, hbl, hlocks, hgv⟩ := C0
  have hto : ∀ w ∈ oh_tbl, w.before #[Value.ref b] s = true := fun w hw => hts w (List.mem_filter.mp hw).1
  obtain ⟨D, hK⟩ := dg_of hto
  have hOX0 : va_AO RX0 s := va_AO.of (hts (.arrayOver (.object RX0)) (List.mem_of_getElem? (i := 120) (by decide +kernel)))
  have hOX2 : va_AO RX2 s := va_AO.of (hts (.arrayOver (.object RX2)) (List.mem_of_getElem? (i := 161) (by decide +kernel)))
  obtain ⟨A, hAe⟩ : ∃ A : Nat → Prop, A = fun q => s.heap.size ≤ q := ⟨_, rfl⟩
  have hA : ∀ q : Nat, s.heap.size ≤ q → A q := fun q h => by rw [hAe]; exact h
  have hP : va_P D vwCl [] s.heap := fun k q h => by cases h
  have hD : va_D A [] := ⟨fun i j x y h => (by cases h), fun k q h => (by cases h)⟩
  have hS : va_S A s.heap s.heap [] := va_S.rf
  have hl := lv_entry ([.ref b]) (n := 4) (Nat.le_of_ble_eq_true rfl)
  rw [lg_entry_eq]
  generalize (lg_sl ([.ref b]) ++ List.replicate (4 - (lg_sl ([.ref b])).length) Slot.unset).toArray = ls at hl ⊢
  have hl : lv_has ls 4 [(0, .ref b)] := hl
  refine va_new (D := D) (own := "OthersHoursLaw") (ci := 4) (fs := dfX4) (C := RX4) (T := TX4) (N := 15) hx hb hto u_X4 tyX4 tyX4_ok hown (hto _ (oh_at 71 (by decide +kernel) rfl)) (hto _ (oh_at 72 (by decide +kernel) rfl)) (hto _ (oh_at 61 (by decide +kernel) rfl)) hK hP hD hS hA rfl dfX4_ok (Nat.le_of_ble_eq_true rfl) (Nat.le_of_ble_eq_true rfl) dL_law_0 (fun h4 H hP hD hS => ?_)
  have hP : va_P D vwCl [(h4, .inr (4, dfX4))] H := hP
  have hD : va_D A [(h4, .inr (4, dfX4))] := hD
  refine lv_dup hx hb dL_law_3 rfl ?_
  have hPc := hP.sub (ws' := [(h4, .inr (4, dfX4))]) [0] rfl
  have hDc := hD.sub (ws' := [(h4, .inr (4, dfX4))]) [0] (by decide) rfl
  have hKc := hK.sub (tys' := []) [] rfl
  have hFc := va_free (wc := [(h4, .inr (4, dfX4))]) hD hS hA [0] rfl
  refine va_callv (va_runI (As := []) (rest := [.ref h4]) ⟨hx, hb, hml, hown, hto⟩ (c_X4_init l D h4 H.size) (cwI 0 hto (oh_good wc_X4) rfl rfl rfl (hto _ (oh_at 61 (by decide +kernel) rfl)) (hto _ (oh_at 73 (by decide +kernel) rfl)) (hto _ (oh_at 74 (by decide +kernel) rfl)) rfl (by decide +kernel) ⟨(Nat.le_of_ble_eq_true rfl), (Nat.le_of_ble_eq_true rfl)⟩) ⟨fun a U g mk q => by obtain ⟨q0, q1, qP, qK, qD, qO1, qO2⟩ := q; exact ⟨q0, q1, qP, va_K.moved (u := U) (U := U.calling g mk a) (Vm.Alike.refl U.vm) qK, qD, va_AO.moved (u := U) (U := U.calling g mk a) (Vm.Alike.refl U.vm) qO1, va_AO.moved (u := U) (U := U.calling g mk a) (Vm.Alike.refl U.vm) qO2⟩, fun U hU hW => ⟨rfl, by rw [hU], by rw [hU]; exact hPc, va_K.moved hW.alike hKc, hDc.weaken (fun _ _ _ _ => trivial), va_AO.moved hW.alike hOX0, va_AO.moved hW.alike hOX2⟩⟩ rfl rfl hl.1 rfl (lv_room (Nat.le_of_ble_eq_true rfl)) dL_law_4 ⟨(Nat.le_of_ble_eq_true rfl), (Nat.le_of_ble_eq_true rfl)⟩) hS (fun q _ h => hFc q h) hFc (fun u4 t H1 locs ht hvm hw hB hz1 hk1 hS => ?_)
  obtain ⟨hP1, hK1, hD1⟩ := hB
  rw [ht] at hP1
  have hK1 := va_K.moved hvm.symm hK1
  obtain ⟨hP, hD⟩ := va_join (wr := []) (w1 := wX4 h4 u4) hP hD [0] [] rfl rfl (by decide) (by decide) hk1 hFc hP1 hD1
  have hK : va_K D vwCl (tysX4 u4.2) s := hK.app hK1
  generalize H1 = H at hP hS ⊢
  have hP : va_P D vwCl (wX4 h4 u4) H := hP
  have hD : va_D A (wX4 h4 u4) := hD
  refine W.eq (g2 := F0 m 7 ls [.ref h4]) rfl ?_
  refine lv_astore_n (lv' := [(1, .ref h4), (0, .ref b)]) hx hb dL_law_7 rfl hl (by decide) rfl (fun ls hl => ?_)
  refine va_new (D := D) (own := "OthersHoursLaw") (ci := 5) (fs := dfX5) (C := RX5) (T := TX5) (N := 25) hx hb hto u_X5 tyX5 tyX5_ok hown (hto _ (oh_at 683 (by decide +kernel) rfl)) (hto _ (oh_at 684 (by decide +kernel) rfl)) (hto _ (oh_at 66 (by decide +kernel) rfl)) hK hP hD hS hA rfl dfX5_ok (Nat.le_of_ble_eq_true rfl) (Nat.le_of_ble_eq_true rfl) dL_law_8 (fun h5 H hP hD hS => ?_)
  refine lv_dup hx hb dL_law_11 rfl ?_
  have hPc := hP.sub (ws' := [(h5, .inr (5, dfX5))]) [46] rfl
  have hDc := hD.sub (ws' := [(h5, .inr (5, dfX5))]) [46] (by decide) rfl
  have hKc := hK.sub (tys' := []) [] rfl
  have hFc := va_free (wc := [(h5, .inr (5, dfX5))]) hD hS hA [46] rfl
  refine va_callv (va_runI (As := []) (rest := [.ref h5]) ⟨hx, hb, hml, hown, hto⟩ (c_X5_init l D h5 H.size) (cwI 0 hto (oh_good wc_X5) rfl rfl rfl (hto _ (oh_at 66 (by decide +kernel) rfl)) (hto _ (oh_at 685 (by decide +kernel) rfl)) (hto _ (oh_at 686 (by decide +kernel) rfl)) rfl (by decide +kernel) ⟨(Nat.le_of_ble_eq_true rfl), (Nat.le_of_ble_eq_true rfl)⟩) ⟨fun a U g mk q => by obtain ⟨q0, q1, qP, qK, qD⟩ := q; exact ⟨q0, q1, qP, va_K.moved (u := U) (U := U.calling g mk a) (Vm.Alike.refl U.vm) qK, qD⟩, fun U hU hW => ⟨rfl, by rw [hU], by rw [hU]; exact hPc, va_K.moved hW.alike hKc, hDc.weaken (fun _ _ _ _ => trivial)⟩⟩ rfl rfl hl.1 rfl (lv_room (Nat.le_of_ble_eq_true rfl)) dL_law_12 ⟨(Nat.le_of_ble_eq_true rfl), (Nat.le_of_ble_eq_true rfl)⟩) hS (fun q _ h => hFc q h) hFc (fun u5 t H1 locs ht hvm hw hB hz1 hk1 hS => ?_)
  obtain ⟨hP1, hK1, hD1⟩ := hB
  rw [ht] at hP1
  have hK1 := va_K.moved hvm.symm hK1
  obtain ⟨hP, hD⟩ := va_join (wr := wX4 h4 u4) (w1 := wX5 h5 u5) hP hD [46] [0, 1, 2, 3, 4, 5, 6, 7, 8, 9, 10, 11, 12, 13, 14, 15, 16, 17, 18, 19, 20, 21, 22, 23, 24, 25, 26, 27, 28, 29, 30, 31, 32, 33, 34, 35, 36, 37, 38, 39, 40, 41, 42, 43, 44, 45] rfl rfl (by decide) (by decide) hk1 hFc hP1 hD1
  have hK : va_K D vwCl (tysX4 u4.2 ++ tysX5 u5.2) s := hK.app hK1
  generalize H1 = H at hP hS ⊢
  have hP : va_P D vwCl (w66 h4 h5 u4 u5) H := hP
  have hD : va_D A (w66 h4 h5 u4 u5) := hD
  refine W.eq (g2 := F0 m 15 ls [.ref h5]) rfl ?_
  refine lv_astore_n (lv' := [(2, .ref h5), (1, .ref h4), (0, .ref b)]) hx hb dL_law_15 rfl hl (by decide) rfl (fun ls hl => ?_)
  refine lv_iconst (v := 0) hx hb dL_law_16 (by decide) ?_
  refine lv_istore_n (lv' := [(3, .int 0), (2, .ref h5), (1, .ref h4), (0, .ref b)]) hx hb dL_law_17 rfl hl (by decide) rfl (fun ls hl => ?_)
  subst hAe
  exact law_run l hL C1 hK hP hD hS hl
