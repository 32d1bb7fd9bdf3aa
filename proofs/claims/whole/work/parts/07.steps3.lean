/-! STEPS: fields, arrays, statics -/
theorem oh_isA_cases {s : Nat} (h : oh_isA s = false) : s = 0 ∨ s = 7 ∨ s = 9 ∨ s = 11 ∨ s = 13 ∨ s = 22 := by
  unfold oh_isA at h
  split at h
  · rename_i l hl
    simp only [oh_look, oh_ftT] at hl
    by_cases a0 : s = 0
    · exact Or.inl a0
    by_cases a1 : s = 7
    · exact Or.inr (Or.inl a1)
    by_cases a2 : s = 9
    · exact Or.inr (Or.inr (Or.inl a2))
    by_cases a3 : s = 11
    · exact Or.inr (Or.inr (Or.inr (Or.inl a3)))
    by_cases a4 : s = 13
    · exact Or.inr (Or.inr (Or.inr (Or.inr (Or.inl a4))))
    by_cases a5 : s = 22
    · exact Or.inr (Or.inr (Or.inr (Or.inr (Or.inr a5))))
    have e : ∀ k : Nat, ¬ s = k → Nat.beq k s = false := fun k hk => by
      cases hb : Nat.beq k s with
      | false => rfl
      | true => exact absurd (Nat.eq_of_beq_eq_true hb).symm hk
    rw [e 0 a0, e 7 a1, e 9 a2, e 11 a3, e 13 a4, e 22 a5] at hl
    cases hl
  · cases h
theorem oh_e_obj {ad : Nat → Nat → Nat} {cA : Nat → Nat → ClassId} {μ : Mem} {s n : Nat} (h : oh_isA s = false) : oh_e ad cA μ s n = .inr (oh_ci s, (List.range (oh_nf s)).map (oh_fv ad μ s n)) := by
  rcases oh_isA_cases h with rfl | rfl | rfl | rfl | rfl | rfl <;> rfl
def oh_lenB (s : Nat) : Bool := match oh_len s with
  | some L => decide (0 < L) && (decide (L ≤ 4096) && (oh_isA s && decide (oh_ty s = .int)))
  | none => true
theorem oh_len_all : ∀ s, s < 42 → oh_lenB s = true := by decide +kernel
theorem oh_len_of {s : Nat} {L : Int} (h : oh_len s = some L) : 0 < L ∧ L ≤ 4096 ∧ oh_isA s = true ∧ oh_ty s = .int := by
  have hs : s < 42 := by
    rcases Nat.lt_or_ge s 42 with q | q
    · exact q
    · have : oh_len s = none := oh_nth_big oh_lenT s q
      rw [this] at h
      cases h
  have := oh_len_all s hs
  simp only [oh_lenB, h, Bool.and_eq_true, decide_eq_true_eq] at this
  exact this
theorem oh_e_arr {ad : Nat → Nat → Nat} {cA : Nat → Nat → ClassId} {μ : Mem} {s n : Nat} {L : Int} (h : oh_len s = some L) : oh_e ad cA μ s n = .inl (cA s n, oh_ar L.toNat (μ s n)) := by
  unfold oh_e
  rw [h]
theorem oh_ar_up {L : Nat} {μ : Mem} {s n : Nat} {i v : Int} (h0 : 0 ≤ i) : (fun j : Nat => Int32.ofInt (oh_up μ s n i v s n j)) = upd (fun j : Nat => Int32.ofInt (μ s n j)) i.toNat (Int32.ofInt v) := by
  funext j
  unfold upd
  by_cases e : j = i.toNat
  · have e2 : (j : Int) = i := by omega
    rw [if_pos e, e2, oh_up_s]
  · rw [if_neg e, oh_up_o (fun q => e (by have := q.2.2; omega))]
/-- what a field's row in a class's table must have -/
def oh_FOK (own : String) (idx s0 k : Nat) (o : Int) : Prop := o = k ∧ k < oh_nf s0 ∧ oh_isA s0 = false ∧ ∃ (C : String) (T : u_T) (ty0 : Nat → FieldType), vwCl[oh_ci s0]? = some (C, T, oh_nf s0) ∧ (∀ w ∈ u_ws C T (oh_nf s0), w ∈ oh_tbl) ∧
  (∀ k, k < oh_nf s0 → parseFieldDescriptor (T k).2.2.1 = some (ty0 k)) ∧ (∀ a, a < oh_nf s0 → ∀ b, b < oh_nf s0 → a ≠ b → (T a).2.1 ≠ (T b).2.1) ∧ Cond.fieldLink own idx (T k).1 (T k).2.1 (T k).2.2.1 ∈ oh_tbl ∧
  ((oh_ft s0 k).1 = 0 → ty0 k = .int ∧ (T k).2.2.2 = false) ∧ ((oh_ft s0 k).1 = 1 → ty0 k = .boolean ∧ (T k).2.2.2 = false)
theorem oh_ft_all : ∀ s ∈ [0, 7, 9, 11, 13, 22], ∀ k, k < oh_nf s → ((oh_ft s k).1 = 2 → oh_cnt s ≤ oh_cnt (oh_ft s k).2.1) ∧ ((oh_ft s k).1 = 3 → (oh_ft s k).2.2 < oh_cnt (oh_ft s k).2.1) := by decide +kernel
theorem oh_nar_z {v : Int} (h0 : 0 ≤ v) (h1 : v ≤ 1) : narrow .boolean (.int (Int32.ofInt v)) = .int (Int32.ofInt v) ∧ fits .boolean (.int (Int32.ofInt v)) = true ∧ vp_nar .boolean (Int32.ofInt v) = Int32.ofInt v := by
  have : v = 0 ∨ v = 1 := by omega
  rcases this with rfl | rfl <;> decide
section OhG3
variable {p : Program} {l : Launch} {e : Env} {R : Room} {s : State} {m : MethodId} {args : Array Value} {below : List Frame} {meth : Method} {c : Code} {cells slots : Nat} {Q : State → Prop}
variable {D : va_G} {ad : Nat → Nat → Nat} {tc : Nat → Nat} {cA : Nat → Nat → ClassId} {A : Nat → Prop} {nL : Nat} {cc : ByteArray} {own : String} {K : Kt} {pc nx : Nat} {ls : LV} {st : List AV} {μ : Mem} {kc : Nat → Int × (Int → Int)}
theorem g_getfield (hx : p.tables.exec = Jvm.exec) (hb : c.code = cc) (hown : s.vm.findClass own = some m.cls) (hts : ∀ w ∈ oh_tbl, w.before args s = true) (hKn : va_K D vwCl (oh_tys cA) s) (hK : ∀ pc ls st μ, K pc ls st μ → oh_G p l e R s m args below meth c cells slots Q D ad tc cA A nL pc ls st μ) {idx s0 k : Nat} {o : Int} (hd : decode cc pc = .ok (.getfield idx, 3)) (hn : nx = pc + 3) (hF : oh_FOK own idx s0 k o) (h : oh_get s0 k o st μ (fun st1 => K nx ls st1 μ)) : oh_G p l e R s m args below meth c cells slots Q D ad tc cA A nL pc ls st μ := by
  subst hn
  obtain ⟨rfl, hk, hA, C, T, ty0, hcl, hin, hty, hnm, hlink, -, -⟩ := hF
  unfold oh_get at h
  split at h
  · rename_i s9 n st1
    split at h
    · rename_i hs
      have hs := Nat.eq_of_beq_eq_true hs
      subst hs
      intro h0 h1 h2 h3 H locs lr hP hD hS hL
      obtain ⟨hw, h2⟩ := List.forall_mem_cons.mp h2
      have hw : n < oh_cnt s9 := hw
      obtain ⟨q0, hq0⟩ := oh_place hw
      have he := oh_w_at (ad := ad) (cA := cA) (μ := μ) hq0
      rw [oh_e_obj hA] at he
      have hv : ((List.range (oh_nf s9)).map (oh_fv ad μ s9 n))[k]? = some (oh_fv ad μ s9 n k) := by
        rw [List.getElem?_map, List.getElem?_range hk]
        rfl
      have hfa := oh_ft_all s9 (by rcases oh_isA_cases hA with rfl | rfl | rfl | rfl | rfl | rfl <;> decide) k hk
      refine va_get (D := D) hx hb hts hin hown hKn hP q0 he hcl k hk (hts _ hlink) (fun _ h9 => h9) hv hd ?_
      unfold oh_fv
      split at h
      · rename_i e
        rw [e]
        exact hK _ _ _ _ h h0 h1 (List.forall_mem_cons.mpr ⟨h3 _ _ _, h2⟩) h3 H locs lr hP hD hS hL
      · rename_i e
        rw [e]
        exact hK _ _ _ _ h h0 h1 (List.forall_mem_cons.mpr ⟨h3 _ _ _, h2⟩) h3 H locs lr hP hD hS hL
      · rename_i e
        rw [e]
        exact hK _ _ _ _ h h0 h1 (List.forall_mem_cons.mpr ⟨h3 _ _ _, h2⟩) h3 H locs lr hP hD hS hL
      · rename_i e
        rw [e]
        exact hK _ _ _ _ h h0 h1 (List.forall_mem_cons.mpr ⟨h3 _ _ _, h2⟩) h3 H locs lr hP hD hS hL
      · rename_i t _ e
        rw [e] at hfa
        rw [e]
        exact hK _ _ _ _ h h0 h1 (List.forall_mem_cons.mpr ⟨Nat.lt_of_lt_of_le hw (hfa.1 rfl), h2⟩) h3 H locs lr hP hD hS hL
      · rename_i t c9 e
        rw [e] at hfa
        rw [e]
        exact hK _ _ _ _ h h0 h1 (List.forall_mem_cons.mpr ⟨hfa.2 rfl, h2⟩) h3 H locs lr hP hD hS hL
      · exact h.elim
    · exact h.elim
  · exact h.elim
theorem oh_fs_set {s0 n k : Nat} {v : Int} (hf : (oh_ft s0 k).1 = 0 ∨ (oh_ft s0 k).1 = 1) : ((List.range (oh_nf s0)).map (oh_fv ad μ s0 n)).set k (.int (Int32.ofInt v)) = (List.range (oh_nf s0)).map (oh_fv ad (oh_up μ s0 n k v) s0 n) := by
  apply List.ext_getElem?
  intro i
  simp only [List.getElem?_set, List.getElem?_map, List.length_map, List.length_range]
  by_cases e : k = i
  · subst e
    rw [if_pos rfl]
    by_cases hk : k < oh_nf s0
    · rw [if_pos hk, List.getElem?_range hk]
      show _ = some (oh_fv ad (oh_up μ s0 n k v) s0 n k)
      unfold oh_fv
      rw [oh_up_s]
      rcases hft : oh_ft s0 k with ⟨a, b, d⟩
      rw [hft] at hf
      rcases hf with hf | hf <;> (have hf : a = _ := hf; subst hf; rfl)
    · rw [if_neg hk, List.getElem?_eq_none (by simpa using hk)]
      rfl
  · rw [if_neg e]
    by_cases hi : i < oh_nf s0
    · rw [List.getElem?_range hi]
      show some (oh_fv ad μ s0 n i) = some (oh_fv ad (oh_up μ s0 n k v) s0 n i)
      unfold oh_fv
      rw [oh_up_o (fun q => e (by have := q.2.2; omega))]
    · rw [List.getElem?_eq_none (by simpa using hi)]
      rfl
theorem g_putfield (hx : p.tables.exec = Jvm.exec) (hb : c.code = cc) (hown : s.vm.findClass own = some m.cls) (hts : ∀ w ∈ oh_tbl, w.before args s = true) (hKn : va_K D vwCl (oh_tys cA) s) (hK : ∀ pc ls st μ, K pc ls st μ → oh_G p l e R s m args below meth c cells slots Q D ad tc cA A nL pc ls st μ) {idx s0 k : Nat} {o : Int} (hd : decode cc pc = .ok (.putfield idx, 3)) (hn : nx = pc + 3) (hF : oh_FOK own idx s0 k o) (h : oh_set s0 k o st μ (fun st1 μ1 => K nx ls st1 μ1)) : oh_G p l e R s m args below meth c cells slots Q D ad tc cA A nL pc ls st μ := by
  subst hn
  obtain ⟨rfl, hk, hA, C, T, ty0, hcl, hin, hty, hnm, hlink, hi0, hi1⟩ := hF
  unfold oh_set at h
  split at h
  · rename_i v s9 n st1
    split at h
    · rename_i hs
      have hs := Nat.eq_of_beq_eq_true hs
      subst hs
      intro h0 h1 h2 h3 H locs lr hP hD hS hL
      obtain ⟨hv, h2⟩ := List.forall_mem_cons.mp h2
      obtain ⟨hw, h2⟩ := List.forall_mem_cons.mp h2
      have hw : n < oh_cnt s9 := hw
      have hv : oh_rgI v := hv
      obtain ⟨q0, hq0⟩ := oh_place hw
      have he := oh_w_at (ad := ad) (cA := cA) (μ := μ) hq0
      rw [oh_e_obj hA] at he
      have key : ∀ (hf : (oh_ft s9 k).1 = 0 ∨ (oh_ft s9 k).1 = 1) (hn1 : narrow (ty0 k) (.int (Int32.ofInt v)) = .int (Int32.ofInt v)) (hn2 : fits (ty0 k) (.int (Int32.ofInt v)) = true) (hfin : (T k).2.2.2 = false) (h : K (pc + 3) ls st1 (oh_up μ s9 n k v)),
          W p l e R s m args below meth c H locs cells slots Q (F0 m pc lr (List.map (oh_re ad tc) (oI v :: Sum.inr (Sum.inr (Sum.inl (s9, n))) :: st1))) := by
        intro hf hn1 hn2 hfin h
        refine va_put (D := D) hx hb hts hin ty0 hty hnm hown hKn hP hD hS q0 he hcl k hk (hts _ hlink) (fun _ h9 => h9) hfin (hty k hk) hn1 hn2 (by simpa using hk) hd (fun H1 locs1 hP1 hD1 hS1 => ?_)
        have ew : (oh_w ad cA μ).set q0 (ad s9 n, .inr (oh_ci s9, ((List.range (oh_nf s9)).map (oh_fv ad μ s9 n)).set k (oh_re ad tc (oI v)))) = oh_w ad cA (oh_up μ s9 n k v) :=
          oh_w_set hq0 (by rw [oh_e_obj hA, ← oh_fs_set hf]; rfl) oh_e_up
        rw [ew] at hP1 hD1
        exact hK _ _ _ _ h h0 h1 h2 (oh_up_wf h3 hv) H1 locs1 lr hP1 hD1 hS1 hL
      split at h
      · rename_i e
        have h9 := hi0 (by rw [e])
        exact key (Or.inl (by rw [e])) (by rw [h9.1]; exact vp_nar_int _) (by rw [h9.1]; rfl) h9.2 h
      · rename_i e
        have h9 := hi1 (by rw [e])
        obtain ⟨z1, z2, -⟩ := oh_nar_z h.1.1 h.1.2
        exact key (Or.inr (by rw [e])) (by rw [h9.1]; exact z1) (by rw [h9.1]; exact z2) h9.2 h.2
      · exact h.elim
    · exact h.elim
  · exact h.elim
def oh_Con (kc : Nat → Int × (Int → Int)) (tc : Nat → Nat) (A : Nat → Prop) (U : State) (H : Heap) (k : Nat) : Prop := ∃ N : Nat, (kc k).1 = N ∧ N ≤ 2147483647 ∧ va_T .int (tc k) N (fun j => .int (Int32.ofInt ((kc k).2 j))) A U H ∧ ∀ j, oh_rgI ((kc k).2 j)
theorem g_iaload (hx : p.tables.exec = Jvm.exec) (hb : c.code = cc) (hKn : va_K D vwCl (oh_tys cA) s) (hC : ∀ k, oh_Con kc tc A s s.heap k) (hK : ∀ pc ls st μ, K pc ls st μ → oh_G p l e R s m args below meth c cells slots Q D ad tc cA A nL pc ls st μ) (hd : decode cc pc = .ok (.iaload, 1)) (hn : nx = pc + 1) (h : oh_ald kc st μ (fun st1 => K nx ls st1 μ)) : oh_G p l e R s m args below meth c cells slots Q D ad tc cA A nL pc ls st μ := by
  subst hn
  unfold oh_ald at h
  split at h
  · rename_i i s9 n st1
    split at h
    · rename_i L hL9
      obtain ⟨⟨hi0, hi1⟩, h⟩ := h
      obtain ⟨l1, l2, l3, l4⟩ := oh_len_of hL9
      intro h0 h1 h2 h3 H locs lr hP hD hS hL
      obtain ⟨hi, h2⟩ := List.forall_mem_cons.mp h2
      obtain ⟨hw, h2⟩ := List.forall_mem_cons.mp h2
      have hw : n < oh_cnt s9 := hw
      obtain ⟨q0, hq0⟩ := oh_place hw
      obtain ⟨t0, ht0⟩ := oh_tys_at (cA := cA) hw l3
      rw [l4] at ht0
      have he := oh_w_at (ad := ad) (cA := cA) (μ := μ) hq0
      rw [oh_e_arr hL9] at he
      obtain ⟨v1, v2⟩ := oh_in (L := L.toNat) hi0 (by omega) (by omega)
      refine va_iald (D := D) hx hb hKn hP q0 t0 he ht0 v1 hd ?_
      rw [v2]
      have e1 : ((i.toNat : Nat) : Int) = i := by omega
      have w := hK _ _ _ _ h h0 h1 (List.forall_mem_cons.mpr ⟨h3 _ _ _, h2⟩) h3 H locs lr hP hD hS hL
      rw [e1]
      exact w
    · exact h.elim
  · rename_i i c9 st1
    split at h
    rename_i L f hkc
    obtain ⟨⟨hi0, hi1⟩, h⟩ := h
    obtain ⟨N, hN, hN2, hT, hrg⟩ := hC c9
    rw [hkc] at hN hT hrg
    have hN : L = N := hN
    subst hN
    intro h0 h1 h2 h3 H locs lr hP hD hS hL
    obtain ⟨hi, h2⟩ := List.forall_mem_cons.mp h2
    obtain ⟨hw, h2⟩ := List.forall_mem_cons.mp h2
    obtain ⟨v1, v2⟩ := oh_in (L := N) hi0 hi1 hN2
    have e1 : ((i.toNat : Nat) : Int) = i := by omega
    have w := hK _ _ _ _ h h0 h1 (List.forall_mem_cons.mpr ⟨hrg i, h2⟩) h3 H locs lr hP hD hS hL
    refine va_ti hx hb hT hS v1 (v := .int (Int32.ofInt (f i))) ?_ hd w
    show Value.int (Int32.ofInt (f ((Int32.ofInt i).toNatClampNeg : Nat))) = _
    rw [v2, e1]
  · exact h.elim
theorem g_iastore (hx : p.tables.exec = Jvm.exec) (hb : c.code = cc) (hKn : va_K D vwCl (oh_tys cA) s) (hK : ∀ pc ls st μ, K pc ls st μ → oh_G p l e R s m args below meth c cells slots Q D ad tc cA A nL pc ls st μ) (hd : decode cc pc = .ok (.iastore, 1)) (hn : nx = pc + 1) (h : oh_ast st μ (fun st1 μ1 => K nx ls st1 μ1)) : oh_G p l e R s m args below meth c cells slots Q D ad tc cA A nL pc ls st μ := by
  subst hn
  unfold oh_ast at h
  split at h
  · rename_i v i s9 n st1
    split at h
    · rename_i L hL9
      obtain ⟨⟨hi0, hi1⟩, h⟩ := h
      obtain ⟨l1, l2, l3, l4⟩ := oh_len_of hL9
      intro h0 h1 h2 h3 H locs lr hP hD hS hL
      obtain ⟨hv, h2⟩ := List.forall_mem_cons.mp h2
      obtain ⟨hi, h2⟩ := List.forall_mem_cons.mp h2
      obtain ⟨hw, h2⟩ := List.forall_mem_cons.mp h2
      have hw : n < oh_cnt s9 := hw
      obtain ⟨q0, hq0⟩ := oh_place hw
      obtain ⟨t0, ht0⟩ := oh_tys_at (cA := cA) hw l3
      rw [l4] at ht0
      have he := oh_w_at (ad := ad) (cA := cA) (μ := μ) hq0
      rw [oh_e_arr hL9] at he
      obtain ⟨v1, v2⟩ := oh_in (L := L.toNat) hi0 (by omega) (by omega)
      refine va_iast (D := D) hx hb hKn hP hD hS q0 t0 he ht0 v1 hd (fun H1 locs1 hP1 hD1 hS1 => ?_)
      rw [v2] at hP1 hD1
      have ew : (oh_w ad cA μ).set q0 (ad s9 n, .inl (cA s9 n, L.toNat, .inl (upd (fun j : Nat => Int32.ofInt (μ s9 n j)) i.toNat (Int32.ofInt v)))) = oh_w ad cA (oh_up μ s9 n i v) :=
        oh_w_set hq0 (by rw [oh_e_arr hL9, ← oh_ar_up (L := L.toNat) hi0]; rfl) oh_e_up
      rw [ew] at hP1 hD1
      exact hK _ _ _ _ h h0 h1 h2 (oh_up_wf h3 hv) H1 locs1 lr hP1 hD1 hS1 hL
    · exact h.elim
  · exact h.elim
theorem g_baload (hx : p.tables.exec = Jvm.exec) (hb : c.code = cc) (hKn : va_K D vwCl (oh_tys cA) s) (hK : ∀ pc ls st μ, K pc ls st μ → oh_G p l e R s m args below meth c cells slots Q D ad tc cA A nL pc ls st μ) (hd : decode cc pc = .ok (.baload, 1)) (hn : nx = pc + 1) (h : oh_zld st μ (fun st1 => K nx ls st1 μ)) : oh_G p l e R s m args below meth c cells slots Q D ad tc cA A nL pc ls st μ := by
  subst hn
  unfold oh_zld at h
  split at h
  · rename_i i s9 n st1
    split at h
    · rename_i hs
      have hs := Nat.eq_of_beq_eq_true hs
      subst hs
      obtain ⟨⟨hi0, hi1⟩, h⟩ := h
      intro h0 h1 h2 h3 H locs lr hP hD hS hL
      obtain ⟨hi, h2⟩ := List.forall_mem_cons.mp h2
      obtain ⟨hw, h2⟩ := List.forall_mem_cons.mp h2
      have hw : n < oh_cnt 35 := hw
      obtain ⟨q0, hq0⟩ := oh_place hw
      obtain ⟨t0, ht0⟩ := oh_tys_at (cA := cA) hw rfl
      have he : (oh_w ad cA μ)[q0]? = some (ad 35 n, .inl (cA 35 n, 20, .inl (fun j : Nat => Int32.ofInt (μ 35 n j)))) := oh_w_at (ad := ad) (cA := cA) (μ := μ) hq0
      obtain ⟨v1, v2⟩ := oh_in (L := 20) hi0 (by omega) (by omega)
      refine va_zald (D := D) hx hb hKn hP q0 t0 he ht0 v1 hd ?_
      rw [v2]
      have e1 : ((i.toNat : Nat) : Int) = i := by omega
      have w := hK _ _ _ _ h h0 h1 (List.forall_mem_cons.mpr ⟨h3 _ _ _, h2⟩) h3 H locs lr hP hD hS hL
      rw [e1]
      exact w
    · exact h.elim
  · exact h.elim
theorem g_bastore (hx : p.tables.exec = Jvm.exec) (hb : c.code = cc) (hKn : va_K D vwCl (oh_tys cA) s) (hK : ∀ pc ls st μ, K pc ls st μ → oh_G p l e R s m args below meth c cells slots Q D ad tc cA A nL pc ls st μ) (hd : decode cc pc = .ok (.bastore, 1)) (hn : nx = pc + 1) (h : oh_zst st μ (fun st1 μ1 => K nx ls st1 μ1)) : oh_G p l e R s m args below meth c cells slots Q D ad tc cA A nL pc ls st μ := by
  subst hn
  unfold oh_zst at h
  split at h
  · rename_i v i s9 n st1
    split at h
    · rename_i hs
      have hs := Nat.eq_of_beq_eq_true hs
      subst hs
      obtain ⟨⟨hi0, hi1⟩, ⟨hz0, hz1⟩, h⟩ := h
      intro h0 h1 h2 h3 H locs lr hP hD hS hL
      obtain ⟨hv, h2⟩ := List.forall_mem_cons.mp h2
      obtain ⟨hi, h2⟩ := List.forall_mem_cons.mp h2
      obtain ⟨hw, h2⟩ := List.forall_mem_cons.mp h2
      have hw : n < oh_cnt 35 := hw
      obtain ⟨q0, hq0⟩ := oh_place hw
      obtain ⟨t0, ht0⟩ := oh_tys_at (cA := cA) hw rfl
      have he : (oh_w ad cA μ)[q0]? = some (ad 35 n, .inl (cA 35 n, 20, .inl (fun j : Nat => Int32.ofInt (μ 35 n j)))) := oh_w_at (ad := ad) (cA := cA) (μ := μ) hq0
      obtain ⟨v1, v2⟩ := oh_in (L := 20) hi0 (by omega) (by omega)
      refine va_zast (D := D) hx hb hKn hP hD hS q0 t0 he ht0 v1 hd (fun H1 locs1 hP1 hD1 hS1 => ?_)
      rw [v2, (oh_nar_z hz0 hz1).2.2] at hP1 hD1
      have ew : (oh_w ad cA μ).set q0 (ad 35 n, .inl (cA 35 n, 20, .inl (upd (fun j : Nat => Int32.ofInt (μ 35 n j)) i.toNat (Int32.ofInt v)))) = oh_w ad cA (oh_up μ 35 n i v) :=
        oh_w_set hq0 (by rw [← oh_ar_up (L := 20) hi0]; rfl) oh_e_up
      rw [ew] at hP1 hD1
      exact hK _ _ _ _ h h0 h1 h2 (oh_up_wf h3 hv) H1 locs1 lr hP1 hD1 hS1 hL
    · exact h.elim
  · exact h.elim
theorem g_aaload (hx : p.tables.exec = Jvm.exec) (hb : c.code = cc) (hKn : va_K D vwCl (oh_tys cA) s) (hK : ∀ pc ls st μ, K pc ls st μ → oh_G p l e R s m args below meth c cells slots Q D ad tc cA A nL pc ls st μ) (hd : decode cc pc = .ok (.aaload, 1)) (hn : nx = pc + 1) (h : oh_rld st (fun st1 => K nx ls st1 μ)) : oh_G p l e R s m args below meth c cells slots Q D ad tc cA A nL pc ls st μ := by
  subst hn
  unfold oh_rld at h
  split at h
  · rename_i i s9 n st1
    split at h
    · rename_i hs
      have hs := Nat.eq_of_beq_eq_true hs
      subst hs
      obtain ⟨⟨hi0, hi1⟩, h⟩ := h
      intro h0 h1 h2 h3 H locs lr hP hD hS hL
      obtain ⟨hi, h2⟩ := List.forall_mem_cons.mp h2
      obtain ⟨hw, h2⟩ := List.forall_mem_cons.mp h2
      have hw : n < oh_cnt 14 := hw
      obtain ⟨q0, hq0⟩ := oh_place hw
      obtain ⟨t0, ht0⟩ := oh_tys_at (cA := cA) hw rfl
      have he : (oh_w ad cA μ)[q0]? = some (ad 14 n, .inl (cA 14 n, 3, .inr (.inr (.inr (.inr (fun j => some (ad 0 j))))))) := oh_w_at (ad := ad) (cA := cA) (μ := μ) hq0
      obtain ⟨v1, v2⟩ := oh_in (L := 3) hi0 (by omega) (by omega)
      refine va_aldq (D := D) hx hb hKn hP q0 t0 he ht0 v1 hd ?_
      rw [v2]
      exact hK _ _ _ _ h h0 h1 (List.forall_mem_cons.mpr ⟨show i.toNat < 3 by omega, h2⟩) h3 H locs lr hP hD hS hL
    · split at h
      · rename_i hs
        have hs := Nat.eq_of_beq_eq_true hs
        subst hs
        obtain ⟨⟨hi0, hi1⟩, h⟩ := h
        intro h0 h1 h2 h3 H locs lr hP hD hS hL
        obtain ⟨hi, h2⟩ := List.forall_mem_cons.mp h2
        obtain ⟨hw, h2⟩ := List.forall_mem_cons.mp h2
        have hw : n < oh_cnt 21 := hw
        obtain ⟨q0, hq0⟩ := oh_place hw
        obtain ⟨t0, ht0⟩ := oh_tys_at (cA := cA) hw rfl
        have he : (oh_w ad cA μ)[q0]? = some (ad 21 n, .inl (cA 21 n, 4, .inr (.inr (.inr (.inr (fun j => some (ad 9 j))))))) := oh_w_at (ad := ad) (cA := cA) (μ := μ) hq0
        obtain ⟨v1, v2⟩ := oh_in (L := 4) hi0 (by omega) (by omega)
        refine va_aldq (D := D) hx hb hKn hP q0 t0 he ht0 v1 hd ?_
        rw [v2]
        exact hK _ _ _ _ h h0 h1 (List.forall_mem_cons.mpr ⟨show i.toNat < 4 by omega, h2⟩) h3 H locs lr hP hD hS hL
      · exact h.elim
  · exact h.elim
theorem g_alen (hx : p.tables.exec = Jvm.exec) (hb : c.code = cc) (hKn : va_K D vwCl (oh_tys cA) s) (hC : ∀ k, oh_Con kc tc A s s.heap k) (hK : ∀ pc ls st μ, K pc ls st μ → oh_G p l e R s m args below meth c cells slots Q D ad tc cA A nL pc ls st μ) (hd : decode cc pc = .ok (.arraylength, 1)) (hn : nx = pc + 1) (h : oh_aln kc st (fun st1 => K nx ls st1 μ)) : oh_G p l e R s m args below meth c cells slots Q D ad tc cA A nL pc ls st μ := by
  subst hn
  unfold oh_aln at h
  split at h
  · rename_i s9 n st1
    split at h
    · rename_i L hL9
      obtain ⟨l1, l2, l3, l4⟩ := oh_len_of hL9
      intro h0 h1 h2 h3 H locs lr hP hD hS hL
      obtain ⟨hw, h2⟩ := List.forall_mem_cons.mp h2
      have hw : n < oh_cnt s9 := hw
      obtain ⟨q0, hq0⟩ := oh_place hw
      obtain ⟨t0, ht0⟩ := oh_tys_at (cA := cA) hw l3
      rw [l4] at ht0
      have he := oh_w_at (ad := ad) (cA := cA) (μ := μ) hq0
      rw [oh_e_arr hL9] at he
      refine va_alen (D := D) hx hb hKn hP q0 t0 he ht0 (v := Int32.ofInt L) ?_ hd (hK _ _ _ _ h h0 h1 (List.forall_mem_cons.mpr ⟨⟨by omega, by omega⟩, h2⟩) h3 H locs lr hP hD hS hL)
      show Int32.ofNat L.toNat = Int32.ofInt L
      have e1 : ((L.toNat : Nat) : Int) = L := by omega
      rw [← e1]
      rfl
    · exact h.elim
  · rename_i c9 st1
    split at h
    rename_i L f hkc
    obtain ⟨N, hN, hN2, hT, hrg⟩ := hC c9
    rw [hkc] at hN hT hrg
    have hN : L = N := hN
    subst hN
    intro h0 h1 h2 h3 H locs lr hP hD hS hL
    obtain ⟨hw, h2⟩ := List.forall_mem_cons.mp h2
    exact va_tlen hx hb hT hS (v := Int32.ofInt N) rfl hd (hK _ _ _ _ h h0 h1 (List.forall_mem_cons.mpr ⟨⟨by omega, by omega⟩, h2⟩) h3 H locs lr hP hD hS hL)
  · exact h.elim
/-- what a static array's row in a class's table must have, at a start -/
def oh_SOK (own : String) (tc : Nat → Nat) (A : Nat → Prop) (s : State) (idx k : Nat) : Prop := ∃ n : String, va_Z "OthersHours" n "[I" (.ref (tc k)) A s s.heap ∧ (Cond.fieldLink own idx "OthersHours" n "[I" ∈ oh_tbl ∨ Cond.fieldLinkNest own idx "OthersHours" n "[I" "OthersHours" ∈ oh_nest)
theorem g_getstatic (hx : p.tables.exec = Jvm.exec) (hb : c.code = cc) (hown : s.vm.findClass own = some m.cls) (hts : ∀ w ∈ oh_tbl, w.before args s = true) (hNs : ∀ w ∈ oh_nest, va_Nw w s) (hK : ∀ pc ls st μ, K pc ls st μ → oh_G p l e R s m args below meth c cells slots Q D ad tc cA A nL pc ls st μ) {idx k : Nat} (hd : decode cc pc = .ok (.getstatic idx, 3)) (hn : nx = pc + 3) (hF : oh_SOK own tc A s idx k) (h : K nx ls (oK k :: st) μ) : oh_G p l e R s m args below meth c cells slots Q D ad tc cA A nL pc ls st μ := by
  subst hn
  obtain ⟨n, hZ, hl⟩ := hF
  intro h0 h1 h2 h3 H locs lr hP hD hS hL
  have w := hK _ _ _ _ h h0 h1 (List.forall_mem_cons.mpr ⟨trivial, h2⟩) h3 H locs lr hP hD hS hL
  rcases hl with hl | hl
  · exact va_gets hx hb hZ hS hown (hts _ hl) (fun _ h9 => h9) hd w
  · exact va_getsN hx hb hZ hS hown (va_Nw.use rfl (hNs _ hl)) (fun _ h9 => h9) hd w
end OhG3
