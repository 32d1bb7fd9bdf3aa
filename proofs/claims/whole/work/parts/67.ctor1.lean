theorem dX1_init_0 : decode cX1_init 0 = .ok (.aload_n 0, 1) := by decide +kernel
theorem dX1_init_1 : decode cX1_init 1 = .ok (.invokespecial 3, 3) := by decide +kernel
theorem dX1_init_4 : decode cX1_init 4 = .ok (.aload_n 0, 1) := by decide +kernel
theorem dX1_init_5 : decode cX1_init 5 = .ok (.sipush 144, 3) := by decide +kernel
theorem dX1_init_8 : decode cX1_init 8 = .ok (.newarray .int, 2) := by decide +kernel
theorem dX1_init_10 : decode cX1_init 10 = .ok (.putfield 9, 3) := by decide +kernel
theorem dX1_init_13 : decode cX1_init 13 = .ok (.iconst 0, 1) := by decide +kernel
theorem dX1_init_14 : decode cX1_init 14 = .ok (.istore_n 1, 1) := by decide +kernel
theorem dX1_init_15 : decode cX1_init 15 = .ok (.iload_n 1, 1) := by decide +kernel
theorem dX1_init_16 : decode cX1_init 16 = .ok (.sipush 144, 3) := by decide +kernel
theorem dX1_init_19 : decode cX1_init 19 = .ok (.if_icmp .ge 19, 3) := by decide +kernel
theorem dX1_init_22 : decode cX1_init 22 = .ok (.aload_n 0, 1) := by decide +kernel
theorem dX1_init_23 : decode cX1_init 23 = .ok (.getfield 9, 3) := by decide +kernel
theorem dX1_init_26 : decode cX1_init 26 = .ok (.iload_n 1, 1) := by decide +kernel
theorem dX1_init_27 : decode cX1_init 27 = .ok (.iload_n 1, 1) := by decide +kernel
theorem dX1_init_28 : decode cX1_init 28 = .ok (.bipush 24, 2) := by decide +kernel
theorem dX1_init_30 : decode cX1_init 30 = .ok (.idiv, 1) := by decide +kernel
theorem dX1_init_31 : decode cX1_init 31 = .ok (.iastore, 1) := by decide +kernel
theorem dX1_init_32 : decode cX1_init 32 = .ok (.iinc 1 1, 3) := by decide +kernel
theorem dX1_init_35 : decode cX1_init 35 = .ok (.goto (-20), 3) := by decide +kernel
theorem dX1_init_38 : decode cX1_init 38 = .ok (.return_, 1) := by decide +kernel
def ow0 (j i : Nat) : Int32 := if j < i then nI (j / 24) else 0
theorem ow0_div : ∀ i, i < 144 → nI i / 24 = nI (i / 24) := by decide +kernel
theorem ow0_up {i : Nat} (hi : i < 144) : upd (fun j => ow0 j i) (nI i).toNatClampNeg (nI i / 24) = fun j => ow0 j (i + 1) := by
  funext j
  rw [nI_clamp (by omega), ow0_div i hi]
  by_cases e : j = i
  · subst e
    rw [pk_us]
    unfold ow0
    rw [if_pos (by omega)]
  · rw [pk_un e]
    unfold ow0
    by_cases q : j < i
    · rw [if_pos q, if_pos (by omega)]
    · rw [if_neg q, if_neg (by omega)]
section OwL
variable {p : Program} {l : Launch} {e : Env} {R : Room} {s : State} {m : MethodId} {args : Array Value} {below : List Frame} {meth : Method} {c : Code} {cells slots : Nat} {Q : State → Prop} {D : va_G} {A : Nat → Prop} {h0 q1 : Nat} {k1 : ClassId}
theorem ow_loop (hx : p.tables.exec = Jvm.exec) (hb : c.code = cX1_init) (hts : ∀ w ∈ oh_tbl, w.before args s = true) (hown : s.vm.findClass RX1 = some m.cls) (hK : va_K D vwCl [(k1, .int)] s)
    (hend : ∀ (H : Heap) (locs : List Loc) (ls : Array Slot), va_P D vwCl [(h0, .inr (1, [.ref q1])), (q1, .inl (k1, 144, .inl (fun j => ow0 j 144)))] H → va_D A [(h0, .inr (1, [.ref q1])), (q1, .inl (k1, 144, .inl (fun j => ow0 j 144)))] → va_S A s.heap H locs → W p l e R s m args below meth c H locs cells slots Q (F0 m 38 ls [])) :
    ∀ (n i : Nat), i + n = 144 → ∀ (H : Heap) (locs : List Loc) (ls : Array Slot), lv_has ls 2 [(1, .int (nI i)), (0, .ref h0)] → va_P D vwCl [(h0, .inr (1, [.ref q1])), (q1, .inl (k1, 144, .inl (fun j => ow0 j i)))] H → va_D A [(h0, .inr (1, [.ref q1])), (q1, .inl (k1, 144, .inl (fun j => ow0 j i)))] → va_S A s.heap H locs → W p l e R s m args below meth c H locs cells slots Q (F0 m 15 ls []) := by
  intro n
  induction n with
  | zero =>
    intro i hi H locs ls hl hP hD hS
    have e1 : i = 144 := by omega
    subst e1
    refine lv_iload_n hx hb dX1_init_15 rfl (lv_at hl 0 rfl) ?_
    refine lv_sipush (v := 144) hx hb dX1_init_16 (by decide) ?_
    refine lv_icmp_ge (tgt := 38) hx hb dX1_init_19 (by decide) (fun _ => hend H locs ls hP hD hS) (fun c9 => absurd (by decide) c9)
  | succ n ih =>
    intro i hi H locs ls hl hP hD hS
    refine lv_iload_n hx hb dX1_init_15 rfl (lv_at hl 0 rfl) ?_
    refine lv_sipush (v := 144) hx hb dX1_init_16 (by decide) ?_
    refine lv_icmp_ge (tgt := 38) hx hb dX1_init_19 (by decide) (fun c9 => absurd c9 (nI_ge (a := i) (b := 144) (by omega) (by decide))) (fun _ => ?_)
    refine lv_aload_n hx hb dX1_init_22 rfl (lv_at hl 1 rfl) ?_
    refine va_get (D := D) (ci := 1) (v := .ref q1) (C := RX1) (T := TX1) (N := 1) hx hb hts u_X1 hown hK hP 0 rfl rfl 0 (by decide) (hts _ wq_115) (fun _ h9 => h9) rfl dX1_init_23 ?_
    refine lv_iload_n hx hb dX1_init_26 rfl (lv_at hl 0 rfl) ?_
    refine lv_iload_n hx hb dX1_init_27 rfl (lv_at hl 0 rfl) ?_
    refine lv_bipush (v := 24) hx hb dX1_init_28 (by decide) ?_
    refine lv_idiv hx hb dX1_init_30 (by decide) ?_
    refine va_iast (D := D) hx hb hK hP hD hS 1 0 rfl rfl (vp_in_nI (by omega) (by decide)) dX1_init_31 (fun H locs hP hD hS => ?_)
    rw [ow0_up (by omega)] at hP hD
    refine lv_iinc (v := nI (i + 1)) (lv' := [(1, .int (nI (i + 1))), (0, .ref h0)]) hx hb dX1_init_32 hl (k := 0) rfl (nI_succ i).symm (by decide) rfl (fun ls hl => ?_)
    refine lv_goto (tgt := 15) hx hb dX1_init_35 (by decide) ?_
    exact ih (i + 1) (by omega) H locs ls hl hP hD hS
end OwL
def wX1 (h0 : Nat) (u : (Nat → Nat) × (Nat → ClassId)) : va_W := [(h0, .inr (1, [.ref (u.1 0)])), (u.1 0, .inl (u.2 0, 144, .inl (fun j => ow0 j 144)))]
def tysX1 (k : Nat → ClassId) : List (ClassId × FieldType) := [(k 0, .int)]
set_option maxHeartbeats 4000000 in
set_option maxRecDepth 100000 in
theorem c_X1_init (l : Launch) (D : va_G) (h0 sz : Nat) : Met l yX1_init (.code yX1_init cX1_init 2 none :: oh_tbl) { frames := 1, cells := 1, slots := 144, locals := 24 } (va_Pc [.ref h0] (fun U => U.heap.size = sz ∧ va_P D vwCl [(h0, .inr (1, dfX1))] U.heap ∧ va_K D vwCl [] U ∧ va_D (fun _ => True) [(h0, .inr (1, dfX1))])) (va_Qv (fun _ : (Nat → Nat) × (Nat → ClassId) => True) (fun u t => va_P D vwCl (wX1 h0 u) t.heap ∧ va_K D vwCl (tysX1 u.2) t ∧ va_D (va_A [(h0, .inr (1, dfX1))] sz) (wX1 h0 u)) (va_A [(h0, .inr (1, dfX1))] sz)) 1 144 (va_A [(h0, .inr (1, dfX1))] sz) := by
  refine Met.ofW (cc := cX1_init) (maxL := 2) (ret := none) (by decide) rfl ?_
  intro p e s m args below meth c s₁ B hml hv
  obtain ⟨rfl, hsz, hP, hK, hD0⟩ := hv
  have hx := B.exec
  have hb := B.bytes
  have hr := B.returns
  have hts0 := atoms_spec (ws := .code yX1_init cX1_init 2 none :: oh_tbl) B.pre
  have hts : ∀ w ∈ oh_tbl, w.before _ s = true := fun w hw => hts0 w (List.mem_cons_of_mem _ hw)
  have hown : s.vm.findClass RX1 = some m.cls := findClass_of_methodNamed B.named
  have hlocks := B.notSynchronized
  have hin : meth.name = "<init>" := (name_of_methodNamed B.named B.method).1
  subst hsz
  have hD := hD0.self (sz := s.heap.size)
  generalize hAe : va_A [(h0, .inr (1, dfX1))] s.heap.size = A at hD ⊢
  have hA : ∀ q : Nat, s.heap.size ≤ q → A q := fun q h => by rw [← hAe]; exact Or.inr h
  have hS : va_S A s.heap s.heap [] := va_S.rf
  have hl := lv_entry ([.ref h0]) (n := 2) (Nat.le_of_ble_eq_true rfl)
  rw [lg_entry_eq]
  generalize (lg_sl ([.ref h0]) ++ List.replicate (2 - (lg_sl ([.ref h0])).length) Slot.unset).toArray = ls at hl ⊢
  have hl : lv_has ls 2 [(0, .ref h0)] := hl
  have hP : va_P D vwCl [(h0, .inr (1, [.null]))] s.heap := hP
  have hD : va_D A [(h0, .inr (1, [.null]))] := hD
  have hK : va_K D vwCl [] s := hK
  refine lv_aload_n hx hb dX1_init_0 rfl (lv_at hl 0 rfl) ?_
  refine W.objInit hx hb hown (hts _ wq_114) (hts _ wq_77) (hts _ wq_78) rfl (by rw [hml]; exact hl.1) rfl dX1_init_1 (Nat.le_of_ble_eq_true rfl) (Nat.le_of_ble_eq_true rfl) ?_
  refine W.eq (g2 := F0 m 4 ls []) rfl ?_
  refine lv_aload_n hx hb dX1_init_4 rfl (lv_at hl 0 rfl) ?_
  refine lv_sipush (v := 144) hx hb dX1_init_5 (by decide) ?_
  refine va_newa (D := D) (atype := .int) (ty := .int) (a0 := zA 144) hx hb (hts _ wq_108) rfl hK hP hD hS hA (fun _ => rfl) (by decide) (by decide) (Nat.le_of_ble_eq_true rfl) (Nat.le_of_ble_eq_true rfl) (Nat.le_of_ble_eq_true rfl) dX1_init_8 (fun q1 k1 H hK hP hD hS => ?_)
  have hP : va_P D vwCl [(h0, .inr (1, [.null])), (q1, .inl (k1, zA 144))] H := hP
  have hD : va_D A [(h0, .inr (1, [.null])), (q1, .inl (k1, zA 144))] := hD
  have hK : va_K D vwCl [(k1, .int)] s := hK
  refine va_putF (D := D) (ci := 1) (v := .ref q1) (ty := tyX1 0) (C := RX1) (T := TX1) (N := 1) hx hb hts u_X1 tyX1 tyX1_ok nmX1 hown hK hP hD hS 0 rfl rfl 0 (by decide) (hts _ wq_115) (fun _ h9 => h9) rfl hin rfl (by decide +kernel) rfl rfl (Nat.le_of_ble_eq_true rfl) dX1_init_10 (fun H locs hP hD hS => ?_)
  have hP : va_P D vwCl [(h0, .inr (1, [.ref q1])), (q1, .inl (k1, zA 144))] H := hP
  have hD : va_D A [(h0, .inr (1, [.ref q1])), (q1, .inl (k1, zA 144))] := hD
  refine lv_iconst (v := 0) hx hb dX1_init_13 (by decide) ?_
  refine lv_istore_n (lv' := [(1, .int 0), (0, .ref h0)]) hx hb dX1_init_14 rfl hl (by decide) rfl (fun ls hl => ?_)
  refine ow_loop (q1 := q1) (k1 := k1) hx hb hts hown hK (fun H locs ls hP hD hS => ?_) 144 0 rfl H locs ls hl hP hD hS
  exact W.vret hx hb hr (fun t ht hW => ⟨⟨(fun i => oh_nth [q1] i 0, fun i => oh_nth [k1] i (k1)), rfl, trivial, by rw [ht]; exact hP, va_K.moved hW.alike hK, hD⟩, hS.F ht⟩) hS.2.2 dX1_init_38
