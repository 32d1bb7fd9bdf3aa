/-! THE SMALL MACHINE STANDS FOR THE MACHINE -/
def oh_tg1 (pc : Nat) (off : Int) (tg : List (Int × Nat)) : Bool := match tg with
  | (_, t) :: _ => decide ((pc : Int) + off = (t : Int))
  | [] => true
def oh_rowC (pc : Nat) (i : ClassFile.Instr) (len : Nat) (tg : List (Int × Nat)) : Bool := match i with
  | .iconst n => len == 1 && decide (-1 ≤ n ∧ n ≤ 5)
  | .bipush n => len == 2 && decide (-128 ≤ n ∧ n ≤ 127)
  | .sipush n => len == 3 && decide (-32768 ≤ n ∧ n ≤ 32767)
  | .ldc k => len == 2 && decide (k < 100000)
  | .ldc_w k => len == 3 && decide (k < 100000)
  | .ldc2_w _ => len == 3
  | .iload _ => len == 2
  | .lload _ => len == 2
  | .aload _ => len == 2
  | .istore _ => len == 2
  | .lstore _ => len == 2
  | .astore _ => len == 2
  | .iinc _ _ => len == 3
  | .ifCond _ off => len == 3 && oh_tg1 pc off tg
  | .if_icmp _ off => len == 3 && oh_tg1 pc off tg
  | .goto off => len == 3 && oh_tg1 pc off tg
  | .tableswitch d lo hi offs => match tg with
    | (_, t) :: r => decide ((pc : Int) + d = (t : Int)) && (oh_swOK pc lo offs.toList r && decide (hi < lo + offs.toList.length))
    | [] => true
  | .getfield _ => len == 3
  | .putfield _ => len == 3
  | .getstatic _ => len == 3
  | .invokestatic k => len == 3 && decide (k < 100000)
  | .invokevirtual _ => len == 3
  | _ => len == 1
def oh_rowB (cc : ByteArray) (r : IR) : Bool := match r with
  | (pc, i, len, nx, tg) => decide (decode cc pc = .ok (i, len)) && (decide (nx = pc + len) && oh_rowC pc i len tg)
theorem oh_ln {cc : ByteArray} {pc len nx k : Nat} {i : ClassFile.Instr} (h : (len == k) = true) (hd : decode cc pc = .ok (i, len)) (hn : nx = pc + len) : decode cc pc = .ok (i, k) ∧ nx = pc + k := by
  have e : len = k := eq_of_beq h
  subst e
  exact ⟨hd, hn⟩
theorem oh_lnA {cc : ByteArray} {pc len nx k : Nat} {i : ClassFile.Instr} {b : Bool} (h : (len == k && b) = true) (hd : decode cc pc = .ok (i, len)) (hn : nx = pc + len) : (decode cc pc = .ok (i, k) ∧ nx = pc + k) ∧ b = true := by
  rw [Bool.and_eq_true] at h
  exact ⟨oh_ln h.1 hd hn, h.2⟩
theorem oh_tg1_of {pc : Nat} {off : Int} {tg : List (Int × Nat)} (h : oh_tg1 pc off tg = true) : ∀ a t r, tg = (a, t) :: r → (pc : Int) + off = (t : Int) := by
  rintro a t r rfl
  simpa [oh_tg1] using h
/-- an instruction that ends a method, and its answer -/
def oh_rtk (rb : Bool) (i : ClassFile.Instr) (r : Option AV) : Prop :=
  (i = .ireturn ∧ ∃ x, r = some (oI x) ∧ (rb = true → 0 ≤ x ∧ x ≤ 1)) ∨ (i = .lreturn ∧ ∃ x, r = some (oL x)) ∨ (i = .areturn ∧ ∃ s n, r = some (oR s n)) ∨ (i = .return_ ∧ r = none)
section OhCl
variable {p : Program} {l : Launch} {e : Env} {R : Room} {s : State} {m : MethodId} {args : Array Value} {below : List Frame} {meth : Method} {c : Code} {cells slots : Nat} {Q : State → Prop}
variable {D : va_G} {ad : Nat → Nat → Nat} {tc : Nat → Nat} {cA : Nat → Nat → ClassId} {A : Nat → Prop} {nL : Nat} {cc : ByteArray} {own : String}
set_option maxHeartbeats 4000000 in
theorem oh_cl {P : PG} {Post : Po} (hx : p.tables.exec = Jvm.exec) (hb : c.code = cc) (hown : s.vm.findClass own = some m.cls) (hts : ∀ w ∈ oh_tbl, w.before args s = true) (hNs : ∀ w ∈ oh_nest, va_Nw w s) (hKn : va_K D vwCl (oh_tys cA) s) (hC : ∀ k, oh_Con P.2.2.2.2.2.2 tc A s s.heap k)
    (hTab : P.1.all (oh_rowB cc) = true) (hFl : ∀ idx s0 k o, oh_look P.2.1 idx = some (s0, k, o) → oh_FOK own idx s0 k o)
    (hCi : ∀ k v, k < 100000 → oh_look P.2.2.1 k = some v → oh_rgI v ∧ Cond.constant own k (Int32.ofInt v) ∈ oh_tbl) (hCl : ∀ k v, oh_look P.2.2.1 (k + 100000) = some v → oh_rgL v ∧ Cond.constantLong own k (Int64.ofInt v) ∈ oh_tbl)
    (hKs : ∀ idx k, oh_look P.2.2.2.1 idx = some k → oh_SOK own tc A s idx k)
    (hCaS : ∀ idx na T, idx < 100000 → oh_look P.2.2.2.2.1 idx = some (na, T) → oh_COK p l e R s m args below meth c cells slots Q D ad tc cA A nL cc (.invokestatic idx) na T)
    (hCaV : ∀ idx na T, oh_look P.2.2.2.2.1 (idx + 100000) = some (na, T) → oh_COK p l e R s m args below meth c cells slots Q D ad tc cA A nL cc (.invokevirtual idx) na T)
    (hR : ∀ (i : ClassFile.Instr) (pc : Nat) (r : Option AV) (μ : Mem) (H : Heap) (locs : List Loc) (lr : Array Slot), (∃ len nx tg, (pc, i, len, nx, tg) ∈ P.1) → decode cc pc = .ok (i, 1) → oh_rtk P.2.2.2.2.2.1 i r → Post r μ → (∀ v, r = some v → oh_wf v) → oh_wfM μ → va_P D vwCl (oh_w ad cA μ) H → va_D A (oh_w ad cA μ) → va_S A s.heap H locs → W p l e R s m args below meth c H locs cells slots Q (F0 m pc lr (r.toList.map (oh_re ad tc)))) :
    oh_Cl P Post (oh_G p l e R s m args below meth c cells slots Q D ad tc cA A nL) := by
  refine ⟨?_, ?_⟩
  · intro K hK pc ls st μ h
    unfold oh_step at h
    split at h
    · rename_i i len nx tg hl
      have hrow := List.all_eq_true.mp hTab _ (oh_look_mem hl)
      simp only [oh_rowB, Bool.and_eq_true, decide_eq_true_eq] at hrow
      obtain ⟨hd, hn, hrow⟩ := hrow
      have hmm : ∃ len nx tg, (pc, i, len, nx, tg) ∈ P.1 := ⟨len, nx, tg, oh_look_mem hl⟩
      clear hl
      unfold oh_sem at h
      split at h
      · obtain ⟨⟨d1, n1⟩, b1⟩ := oh_lnA (k := 1) hrow hd hn
        have b1 := of_decide_eq_true b1
        exact g_iconst hx hb hK d1 n1 ⟨by omega, by omega⟩ h
      · obtain ⟨⟨d1, n1⟩, b1⟩ := oh_lnA (k := 2) hrow hd hn
        exact g_bipush hx hb hK d1 n1 (of_decide_eq_true b1) h
      · obtain ⟨⟨d1, n1⟩, b1⟩ := oh_lnA (k := 3) hrow hd hn
        exact g_sipush hx hb hK d1 n1 (of_decide_eq_true b1) h
      · obtain ⟨d1, n1⟩ := oh_ln (k := 1) hrow hd hn
        exact g_lconst hx hb hK d1 n1 h
      · obtain ⟨⟨d1, n1⟩, b1⟩ := oh_lnA (k := 2) hrow hd hn
        split at h
        · rename_i v hv
          obtain ⟨r1, r2⟩ := hCi _ _ (of_decide_eq_true b1) hv
          exact g_ldc hx hb hown hK d1 n1 r1 (hts _ r2) h
        · exact h.elim
      · obtain ⟨⟨d1, n1⟩, b1⟩ := oh_lnA (k := 3) hrow hd hn
        split at h
        · rename_i v hv
          obtain ⟨r1, r2⟩ := hCi _ _ (of_decide_eq_true b1) hv
          exact g_ldcw hx hb hown hK d1 n1 r1 (hts _ r2) h
        · exact h.elim
      · obtain ⟨d1, n1⟩ := oh_ln (k := 3) hrow hd hn
        split at h
        · rename_i v hv
          obtain ⟨r1, r2⟩ := hCl _ _ hv
          exact g_ldc2 hx hb hown hK d1 n1 r1 (hts _ r2) h
        · exact h.elim
      · obtain ⟨d1, n1⟩ := oh_ln (k := 2) hrow hd hn
        exact g_iload hx hb hK d1 n1 h
      · obtain ⟨d1, n1⟩ := oh_ln (k := 1) hrow hd hn
        exact g_iload_n hx hb hK d1 n1 h
      · obtain ⟨d1, n1⟩ := oh_ln (k := 2) hrow hd hn
        exact g_lload hx hb hK d1 n1 h
      · obtain ⟨d1, n1⟩ := oh_ln (k := 1) hrow hd hn
        exact g_lload_n hx hb hK d1 n1 h
      · obtain ⟨d1, n1⟩ := oh_ln (k := 2) hrow hd hn
        exact g_aload hx hb hK d1 n1 h
      · obtain ⟨d1, n1⟩ := oh_ln (k := 1) hrow hd hn
        exact g_aload_n hx hb hK d1 n1 h
      · obtain ⟨d1, n1⟩ := oh_ln (k := 2) hrow hd hn
        exact g_istore hx hb hK d1 n1 h
      · obtain ⟨d1, n1⟩ := oh_ln (k := 1) hrow hd hn
        exact g_istore_n hx hb hK d1 n1 h
      · obtain ⟨d1, n1⟩ := oh_ln (k := 2) hrow hd hn
        exact g_lstore hx hb hK d1 n1 h
      · obtain ⟨d1, n1⟩ := oh_ln (k := 1) hrow hd hn
        exact g_lstore_n hx hb hK d1 n1 h
      · obtain ⟨d1, n1⟩ := oh_ln (k := 2) hrow hd hn
        exact g_astore hx hb hK d1 n1 h
      · obtain ⟨d1, n1⟩ := oh_ln (k := 1) hrow hd hn
        exact g_astore_n hx hb hK d1 n1 h
      · obtain ⟨d1, n1⟩ := oh_ln (k := 3) hrow hd hn
        exact g_iinc hx hb hK d1 n1 h
      · obtain ⟨d1, n1⟩ := oh_ln (k := 1) hrow hd hn
        exact g_iadd hx hb hK d1 n1 h
      · obtain ⟨d1, n1⟩ := oh_ln (k := 1) hrow hd hn
        exact g_isub hx hb hK d1 n1 h
      · obtain ⟨d1, n1⟩ := oh_ln (k := 1) hrow hd hn
        exact g_imul hx hb hK d1 n1 h
      · obtain ⟨d1, n1⟩ := oh_ln (k := 1) hrow hd hn
        exact g_idiv hx hb hK d1 n1 h
      · obtain ⟨d1, n1⟩ := oh_ln (k := 1) hrow hd hn
        exact g_irem hx hb hK d1 n1 h
      · obtain ⟨d1, n1⟩ := oh_ln (k := 1) hrow hd hn
        exact g_iand hx hb hK d1 n1 h
      · obtain ⟨d1, n1⟩ := oh_ln (k := 1) hrow hd hn
        exact g_ior hx hb hK d1 n1 h
      · obtain ⟨d1, n1⟩ := oh_ln (k := 1) hrow hd hn
        exact g_ixor hx hb hK d1 n1 h
      · obtain ⟨d1, n1⟩ := oh_ln (k := 1) hrow hd hn
        exact g_ishl hx hb hK d1 n1 h
      · obtain ⟨d1, n1⟩ := oh_ln (k := 1) hrow hd hn
        exact g_ishr hx hb hK d1 n1 h
      · obtain ⟨d1, n1⟩ := oh_ln (k := 1) hrow hd hn
        exact g_iushr hx hb hK d1 n1 h
      · obtain ⟨d1, n1⟩ := oh_ln (k := 1) hrow hd hn
        exact g_i2b hx hb hK d1 n1 h
      · obtain ⟨d1, n1⟩ := oh_ln (k := 1) hrow hd hn
        exact g_i2s hx hb hK d1 n1 h
      · obtain ⟨d1, n1⟩ := oh_ln (k := 1) hrow hd hn
        exact g_i2l hx hb hK d1 n1 h
      · obtain ⟨d1, n1⟩ := oh_ln (k := 1) hrow hd hn
        exact g_ladd hx hb hK d1 n1 h
      · obtain ⟨d1, n1⟩ := oh_ln (k := 1) hrow hd hn
        exact g_lmul hx hb hK d1 n1 h
      · obtain ⟨d1, n1⟩ := oh_ln (k := 1) hrow hd hn
        exact g_lcmp hx hb hK d1 n1 h
      · rename_i cd off
        obtain ⟨⟨d1, n1⟩, b1⟩ := oh_lnA (k := 3) hrow hd hn
        have ht := oh_tg1_of b1
        cases cd with
        | eq => exact g_if_eq hx hb hK d1 n1 ht h
        | ne => exact g_if_ne hx hb hK d1 n1 ht h
        | lt => exact g_if_lt hx hb hK d1 n1 ht h
        | ge => exact g_if_ge hx hb hK d1 n1 ht h
        | gt => exact g_if_gt hx hb hK d1 n1 ht h
        | le => exact g_if_le hx hb hK d1 n1 ht h
      · rename_i cd off
        obtain ⟨⟨d1, n1⟩, b1⟩ := oh_lnA (k := 3) hrow hd hn
        have ht := oh_tg1_of b1
        cases cd with
        | eq => exact g_icmp_eq hx hb hK d1 n1 ht h
        | ne => exact g_icmp_ne hx hb hK d1 n1 ht h
        | lt => exact g_icmp_lt hx hb hK d1 n1 ht h
        | ge => exact g_icmp_ge hx hb hK d1 n1 ht h
        | gt => exact g_icmp_gt hx hb hK d1 n1 ht h
        | le => exact g_icmp_le hx hb hK d1 n1 ht h
      · obtain ⟨⟨d1, n1⟩, b1⟩ := oh_lnA (k := 3) hrow hd hn
        have ht := oh_tg1_of b1
        split at h
        · rename_i a t r
          exact g_goto (a := a) hx hb hK d1 (ht _ _ _ rfl) h
        · exact h.elim
      · rename_i dflt lo hi offs
        split at h
        · rename_i a t r
          simp only [oh_rowC, Bool.and_eq_true, decide_eq_true_eq] at hrow
          obtain ⟨b1, b2, b3⟩ := hrow
          exact g_switch (tg := (a, t) :: r) (a := a) hx hb hK hd rfl b1 b2 b3 h
        · obtain ⟨x, st1, -, h⟩ := oh_b1_of h
          exact h.elim
      · obtain ⟨d1, n1⟩ := oh_ln (k := 3) hrow hd hn
        split at h
        · rename_i s0 f o hv
          exact g_getfield hx hb hown hts hKn hK d1 n1 (hFl _ _ _ _ hv) h
        · exact h.elim
      · obtain ⟨d1, n1⟩ := oh_ln (k := 3) hrow hd hn
        split at h
        · rename_i s0 f o hv
          exact g_putfield hx hb hown hts hKn hK d1 n1 (hFl _ _ _ _ hv) h
        · exact h.elim
      · obtain ⟨d1, n1⟩ := oh_ln (k := 3) hrow hd hn
        split at h
        · rename_i k hv
          exact g_getstatic hx hb hown hts hNs hK d1 n1 (hKs _ _ hv) h
        · exact h.elim
      · obtain ⟨d1, n1⟩ := oh_ln (k := 1) hrow hd hn
        exact g_iaload hx hb hKn hC hK d1 n1 h
      · obtain ⟨d1, n1⟩ := oh_ln (k := 1) hrow hd hn
        exact g_iastore hx hb hKn hK d1 n1 h
      · obtain ⟨d1, n1⟩ := oh_ln (k := 1) hrow hd hn
        exact g_baload hx hb hKn hK d1 n1 h
      · obtain ⟨d1, n1⟩ := oh_ln (k := 1) hrow hd hn
        exact g_bastore hx hb hKn hK d1 n1 h
      · obtain ⟨d1, n1⟩ := oh_ln (k := 1) hrow hd hn
        exact g_aaload hx hb hKn hK d1 n1 h
      · obtain ⟨d1, n1⟩ := oh_ln (k := 1) hrow hd hn
        exact g_alen hx hb hKn hC hK d1 n1 h
      · obtain ⟨d1, n1⟩ := oh_ln (k := 1) hrow hd hn
        exact g_dup hx hb hK d1 n1 h
      · obtain ⟨d1, n1⟩ := oh_ln (k := 1) hrow hd hn
        exact g_dup2 hx hb hK d1 n1 h
      · obtain ⟨d1, n1⟩ := oh_ln (k := 1) hrow hd hn
        exact g_pop hx hb hK d1 n1 h
      · obtain ⟨⟨d1, n1⟩, b1⟩ := oh_lnA (k := 3) hrow hd hn
        exact g_invoke hK d1 n1 (fun na T hv => hCaS _ _ _ (of_decide_eq_true b1) hv) h
      · obtain ⟨d1, n1⟩ := oh_ln (k := 3) hrow hd hn
        exact g_invoke hK d1 n1 (fun na T hv => hCaV _ _ _ hv) h
      · obtain ⟨d1, n1⟩ := oh_ln (k := 1) hrow hd hn
        split at h
        · rename_i x
          intro h0 h1 h2 h3 H locs lr hP hD hS hL
          split at h
          · rename_i hrb
            exact hR _ _ (some (oI x)) μ H locs lr hmm d1 (Or.inl ⟨rfl, x, rfl, fun _ => h.1⟩) h.2 (fun v hv => by cases hv; exact h2 _ List.mem_cons_self) h3 hP hD hS
          · rename_i hrb
            exact hR _ _ (some (oI x)) μ H locs lr hmm d1 (Or.inl ⟨rfl, x, rfl, fun z => by rw [hrb] at z; cases z⟩) h (fun v hv => by cases hv; exact h2 _ List.mem_cons_self) h3 hP hD hS
        · exact h.elim
      · obtain ⟨d1, n1⟩ := oh_ln (k := 1) hrow hd hn
        split at h
        · rename_i x
          intro h0 h1 h2 h3 H locs lr hP hD hS hL
          exact hR _ _ (some (oL x)) μ H locs lr hmm d1 (Or.inr (Or.inl ⟨rfl, x, rfl⟩)) h (fun v hv => by cases hv; exact h2 _ List.mem_cons_self) h3 hP hD hS
        · exact h.elim
      · obtain ⟨d1, n1⟩ := oh_ln (k := 1) hrow hd hn
        split at h
        · rename_i q
          intro h0 h1 h2 h3 H locs lr hP hD hS hL
          exact hR _ _ (some (Sum.inr (Sum.inr (Sum.inl q)))) μ H locs lr hmm d1 (Or.inr (Or.inr (Or.inl ⟨rfl, q.1, q.2, rfl⟩))) h (fun v hv => by cases hv; exact h2 _ List.mem_cons_self) h3 hP hD hS
        · exact h.elim
      · obtain ⟨d1, n1⟩ := oh_ln (k := 1) hrow hd hn
        split at h
        · intro h0 h1 h2 h3 H locs lr hP hD hS hL
          exact hR _ _ none μ H locs lr hmm d1 (Or.inr (Or.inr (Or.inr ⟨rfl, rfl⟩))) h (fun v hv => by cases hv) h3 hP hD hS
        · exact h.elim
      · exact h.elim
    · exact h.elim
  · intro k pc ls st μ h
    have h := oh_trK_of _ _ _ h
    intro h0 h1 h2 h3 H locs lr hP hD hS hL
    refine h (by rw [oh_tr_len]; exact h0) (fun v hv => ?_) h2 h3 H locs lr hP hD hS ?_
    · obtain ⟨i, hi⟩ := oh_mem_nth _ _ hv
      exact h1 _ (oh_nth_mem _ _ _ (oh_tr_nth _ _ _ _ hi))
    · exact oh_L_of hL (fun i v hi => oh_lv_in (oh_tr_nth _ _ _ _ hi))
end OhCl
