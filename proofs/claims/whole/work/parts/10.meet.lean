/-! A METHOD'S CONTRACT over the machine out of its keeping it over the small one -/
/-- System.arraycopy of ints -/
def oh_cp (μ : Mem) (s n : Nat) (i : Int) (t k : Nat) (j c : Int) : Mem := fun s' n' j' => if s' = t ∧ n' = k ∧ j ≤ j' ∧ j' < j + c then μ s n (i + (j' - j)) else μ s' n' j'
def T_cp : Tr := fun as μ Post => ∃ (s n : Nat) (i : Int) (t k : Nat) (j c L1 L2 : Int), as = [oR s n, oI i, oR t k, oI j, oI c] ∧ oh_len s = some L1 ∧ oh_len t = some L2 ∧ 0 ≤ i ∧ 0 ≤ j ∧ 0 ≤ c ∧ i + c ≤ L1 ∧ j + c ≤ L2 ∧ Post none (oh_cp μ s n i t k j c)
/-- what stands behind a call of a method's table: a contract, and its words -/
def oh_CF (l : Launch) (own : String) (h key na : Nat) (T : Tr) : Prop :=
  (∃ (h' : Nat) (y : MethodName) (bytes : ByteArray) (maxL : Nat) (ret : Option FieldType), key < 100000 ∧ h' < h ∧ maxL ≤ 80 ∧ oh_MC l h' y bytes maxL ret T ∧ Cond.code y bytes maxL ret ∈ oh_tbl ∧ Cond.initialized y.cls ∈ oh_tbl ∧ (Cond.methodLink own key y ∈ oh_tbl ∨ ∃ host, Cond.methodLinkNest own key y host ∈ oh_nest) ∧ Cond.static y ∈ oh_tbl ∧
    y.cls ≠ "java/lang/invoke/MethodHandle" ∧ y.cls ≠ "java/lang/invoke/VarHandle" ∧ (parseMethodDescriptor y.desc).map (fun d => d.parameters.length) = some na) ∨
  (∃ (h' : Nat) (y : MethodName) (bytes : ByteArray) (maxL : Nat) (ret : Option FieldType) (idx s0 n : Nat), key = idx + 100000 ∧ na = n + 1 ∧ h' < h ∧ maxL ≤ 80 ∧ oh_MC l h' y bytes maxL ret T ∧ (∀ as μ Post, T as μ Post → ∃ n r, as = oR s0 n :: r) ∧ oh_isA s0 = false ∧ (∃ q, vwCl[oh_ci s0]? = some q ∧ q.1 = y.cls) ∧
    Cond.code y bytes maxL ret ∈ oh_tbl ∧ Cond.initialized y.cls ∈ oh_tbl ∧ Cond.methodLink own idx y ∈ oh_tbl ∧ Cond.instanceMethod y ∈ oh_tbl ∧ Cond.selects y.cls y y ∈ oh_tbl ∧ y.cls ≠ "java/lang/invoke/MethodHandle" ∧ y.cls ≠ "java/lang/invoke/VarHandle" ∧ (parseMethodDescriptor y.desc).map (fun d => d.parameters.length) = some n) ∨
  (key < 100000 ∧ 0 < h ∧ T = T_cp ∧ na = 5 ∧ Cond.methodLink own key arraycopyName ∈ oh_tbl ∧ Cond.native arraycopyName ∈ oh_tbl ∧ Cond.static arraycopyName ∈ oh_tbl ∧ Cond.initialized "java/lang/System" ∈ oh_tbl) ∨
  (key < 100000 ∧ 0 < h ∧ na = 2 ∧ (∀ as μ Post, T as μ Post → ∃ a b : Int, as = [oI a, oI b] ∧ Post (some (oI (max a b))) μ) ∧ Cond.methodLink own key Lib.Math.max.name ∈ oh_tbl ∧ Cond.static Lib.Math.max.name ∈ oh_tbl ∧ Cond.initialized "java/lang/Math" ∈ oh_tbl ∧ Cond.code Lib.Math.max.name Lib.Math.max.code 2 (some .int) ∈ oh_tbl) ∨
  (key < 100000 ∧ 0 < h ∧ na = 2 ∧ (∀ as μ Post, T as μ Post → ∃ a b : Int, as = [oI a, oI b] ∧ Post (some (oI (min a b))) μ) ∧ Cond.methodLink own key Lib.Math.min.name ∈ oh_tbl ∧ Cond.static Lib.Math.min.name ∈ oh_tbl ∧ Cond.initialized "java/lang/Math" ∈ oh_tbl ∧ Cond.code Lib.Math.min.name Lib.Math.min.code 2 (some .int) ∈ oh_tbl)
/-- what a class's tables must have -/
def oh_KF (own : String) (fl : List (Nat × Nat × Nat × Int)) (cs : List (Nat × Int)) (ks : List (Nat × Nat)) : Prop :=
  (∀ idx s0 k o, oh_look fl idx = some (s0, k, o) → oh_FOK own idx s0 k o) ∧
  (∀ k v, k < 100000 → oh_look cs k = some v → oh_rgI v ∧ Cond.constant own k (Int32.ofInt v) ∈ oh_tbl) ∧ (∀ k v, oh_look cs (k + 100000) = some v → oh_rgL v ∧ Cond.constantLong own k (Int64.ofInt v) ∈ oh_tbl) ∧
  (∀ idx k, oh_look ks idx = some k → (k = 0 ∧ (Cond.fieldLink own idx "OthersHours" "TOIL" "[I" ∈ oh_tbl ∨ Cond.fieldLinkNest own idx "OthersHours" "TOIL" "[I" "OthersHours" ∈ oh_nest)) ∨ (k = 1 ∧ (Cond.fieldLink own idx "OthersHours" "DIGEST_HOURS" "[I" ∈ oh_tbl ∨ Cond.fieldLinkNest own idx "OthersHours" "DIGEST_HOURS" "[I" "OthersHours" ∈ oh_nest)))
theorem oh_cp_wf {μ : Mem} {s n : Nat} {i : Int} {t k : Nat} {j c : Int} (h : oh_wfM μ) : oh_wfM (oh_cp μ s n i t k j c) := by
  intro s' n' j'
  unfold oh_cp
  split
  · exact h _ _ _
  · exact h _ _ _
theorem oh_cp_ar {μ : Mem} {s n : Nat} {i : Int} {t k : Nat} {j c : Int} (h1 : 0 ≤ i) (h2 : 0 ≤ j) (h3 : 0 ≤ c) : (fun x : Nat => Int32.ofInt (oh_cp μ s n i t k j c t k x)) = va_cpy (fun x : Nat => Int32.ofInt (μ s n x)) (fun x : Nat => Int32.ofInt (μ t k x)) i.toNat j.toNat c.toNat := by
  funext x
  unfold va_cpy oh_cp
  by_cases e : j.toNat ≤ x ∧ x < j.toNat + c.toNat
  · rw [if_pos e, if_pos ⟨rfl, rfl, by omega, by omega⟩]
    have : i + ((x : Int) - j) = ((i.toNat + (x - j.toNat) : Nat) : Int) := by omega
    rw [this]
  · rw [if_neg e, if_neg (fun q => e (by omega))]
section OhM
variable {p : Program} {l : Launch} {e : Env} {R : Room} {s : State} {m : MethodId} {args : Array Value} {below : List Frame} {meth : Method} {c : Code} {cells slots : Nat} {Q : State → Prop}
variable {D : va_G} {ad : Nat → Nat → Nat} {tc : Nat → Nat} {cA : Nat → Nat → ClassId} {nL : Nat} {cc : ByteArray} {own : String} {t0 t1 : Nat}
theorem oh_cC (hx : p.tables.exec = Jvm.exec) (hb : c.code = cc) (hml : c.maxLocals = nL) (hown : s.vm.findClass own = some m.cls) (hts : ∀ w ∈ oh_tbl, w.before args s = true) (hKn : va_K D vwCl (oh_tys cA) s)
    {idx : Nat} (w1 : Cond.methodLink own idx arraycopyName ∈ oh_tbl) (w2 : Cond.native arraycopyName ∈ oh_tbl) (w3 : Cond.static arraycopyName ∈ oh_tbl) (w4 : Cond.initialized "java/lang/System" ∈ oh_tbl) (hR : 1 ≤ R.frames ∧ 128 ≤ R.locals) {A : Nat → Prop} :
    oh_COK p l e R s m args below meth c cells slots Q D ad tc cA A nL cc (.invokestatic idx) 5 T_cp := by
  intro pc as st1 μ Post H locs lr hdg hn hwf hcat hwM hT hP hD hS hlr kk
  obtain ⟨s1, n1, i, s2, n2, j, k, L1, L2, rfl, hl1, hl2, hi, hj, hk, hb1, hb2, hpo⟩ := hT
  obtain ⟨a1, a2, a3, a4⟩ := oh_len_of hl1
  obtain ⟨b1, b2, b3, b4⟩ := oh_len_of hl2
  have hw1 : n1 < oh_cnt s1 := (hwf (oR s1 n1) (by simp)).1
  have hw2 : n2 < oh_cnt s2 := (hwf (oR s2 n2) (by simp)).1
  obtain ⟨q0, hq0⟩ := oh_place hw1
  obtain ⟨q1, hq1⟩ := oh_place hw2
  obtain ⟨u0, hu0⟩ := oh_tys_at (cA := cA) hw1 a3
  obtain ⟨u1, hu1⟩ := oh_tys_at (cA := cA) hw2 b3
  rw [a4] at hu0
  rw [b4] at hu1
  have he0 := oh_w_at (ad := ad) (cA := cA) (μ := μ) hq0
  have he1 := oh_w_at (ad := ad) (cA := cA) (μ := μ) hq1
  rw [oh_e_arr hl1] at he0
  rw [oh_e_arr hl2] at he1
  have ei : (Int32.ofInt i).toNatClampNeg = i.toNat := by
    show (Int32.ofInt i).toInt.toNat = _
    rw [oh_toInt ⟨by omega, by omega⟩]
  have ej : (Int32.ofInt j).toNatClampNeg = j.toNat := by
    show (Int32.ofInt j).toInt.toNat = _
    rw [oh_toInt ⟨by omega, by omega⟩]
  have ek : (Int32.ofInt k).toNatClampNeg = k.toNat := by
    show (Int32.ofInt k).toInt.toNat = _
    rw [oh_toInt ⟨by omega, by omega⟩]
  have h0 : ∀ x : Int, 0 ≤ x → x ≤ 4096 → ¬ Int32.ofInt x < 0 := fun x h1 h2 q => by
    have := (oh_lt32 (x := x) (y := 0) ⟨by omega, by omega⟩ ⟨by omega, by omega⟩).mp q
    omega
  refine va_copyi (D := D) (sp := Int32.ofInt i) (dp := Int32.ofInt j) (n := Int32.ofInt k) hx hb (by rw [hml, hlr]) hown (hts _ w1) (hts _ w2) (hts _ w3) (hts _ w4) hKn hP hD hS q0 q1 u0 u1 he0 he1 hu0 hu1 rfl (h0 _ hi (by omega)) (h0 _ hj (by omega)) (h0 _ hk (by omega)) (by rw [ei, ek]; omega) (by rw [ej, ek]; omega) (fun _ _ => rfl) hR.1 ?_ hdg (fun H1 locs1 hP1 hD1 hS1 => ?_)
  · rw [oh_re_cat]
    have : nativeFrameWords "java/lang/System" "arraycopy" 5 + 11 ≤ 120 := by decide
    have e9 : oh_cat (List.append [] st1) = oh_cat st1 := rfl
    omega
  · rw [ei, ej, ek] at hP1 hD1
    have ew : (oh_w ad cA μ).set q1 (ad s2 n2, .inl (cA s2 n2, L2.toNat, .inl (va_cpy (fun x : Nat => Int32.ofInt (μ s1 n1 x)) (fun x : Nat => Int32.ofInt (μ s2 n2 x)) i.toNat j.toNat k.toNat))) = oh_w ad cA (oh_cp μ s1 n1 i s2 n2 j k) := by
      refine oh_w_set hq1 ?_ (fun s' n' h => oh_e_off (fun j' => ?_))
      · rw [oh_e_arr hl2, ← oh_cp_ar hi hj hk]
        rfl
      · unfold oh_cp
        rw [if_neg (fun q => h ⟨q.1, q.2.1⟩)]
    rw [ew] at hP1 hD1
    exact kk none _ H1 locs1 hpo (fun v hv => by cases hv) (oh_cp_wf hwM) hP1 hD1 hS1
theorem oh_cMax (hx : p.tables.exec = Jvm.exec) (hb : c.code = cc) (hml : c.maxLocals = nL) (hown : s.vm.findClass own = some m.cls) (hts : ∀ w ∈ oh_tbl, w.before args s = true) {T : Tr}
    (hT : ∀ as μ Post, T as μ Post → ∃ a b : Int, as = [oI a, oI b] ∧ Post (some (oI (max a b))) μ) {idx : Nat} (w1 : Cond.methodLink own idx Lib.Math.max.name ∈ oh_tbl) (w2 : Cond.static Lib.Math.max.name ∈ oh_tbl) (w3 : Cond.initialized "java/lang/Math" ∈ oh_tbl) (w4 : Cond.code Lib.Math.max.name Lib.Math.max.code 2 (some .int) ∈ oh_tbl) (hR : 1 ≤ R.frames ∧ 128 ≤ R.locals) (hcs : cells ≤ R.cells ∧ slots ≤ R.slots) {A : Nat → Prop} :
    oh_COK p l e R s m args below meth c cells slots Q D ad tc cA A nL cc (.invokestatic idx) 2 T := by
  intro pc as st1 μ Post H locs lr hdg hn hwf hcat hwM hT1 hP hD hS hlr kk
  obtain ⟨a, b, rfl, hpo⟩ := hT _ _ _ hT1
  have ha : oh_rgI a := (hwf (oI a) (by simp)).1
  have hb1 : oh_rgI b := (hwf (oI b) (by simp)).1
  have e1 : (if Int32.ofInt a < Int32.ofInt b then Int32.ofInt b else Int32.ofInt a) = Int32.ofInt (max a b) := by
    by_cases q : Int32.ofInt a < Int32.ofInt b
    · rw [if_pos q]
      have := (oh_lt32 ha hb1).mp q
      congr 1
      omega
    · rw [if_neg q]
      have : ¬ a < b := fun z => q ((oh_lt32 ha hb1).mpr z)
      congr 1
      omega
  have k := kk (some (oI (max a b))) μ H locs hpo (fun v hv => by
    cases hv
    show oh_rgI (max a b)
    unfold oh_rgI at ha hb1 ⊢
    omega) hwM hP hD hS
  refine va_mmax (x := Int32.ofInt a) (y := Int32.ofInt b) (rest := st1.map (oh_re ad tc)) hx hb (by rw [hml, hlr]) hown (hts _ w1) (hts _ w2) (hts _ w3) (hts _ w4) hR.1 ?_ hcs.1 hcs.2 hdg ?_
  · rw [oh_re_cat]
    omega
  · rw [e1]
    exact k
theorem oh_cMin (hx : p.tables.exec = Jvm.exec) (hb : c.code = cc) (hml : c.maxLocals = nL) (hown : s.vm.findClass own = some m.cls) (hts : ∀ w ∈ oh_tbl, w.before args s = true) {T : Tr}
    (hT : ∀ as μ Post, T as μ Post → ∃ a b : Int, as = [oI a, oI b] ∧ Post (some (oI (min a b))) μ) {idx : Nat} (w1 : Cond.methodLink own idx Lib.Math.min.name ∈ oh_tbl) (w2 : Cond.static Lib.Math.min.name ∈ oh_tbl) (w3 : Cond.initialized "java/lang/Math" ∈ oh_tbl) (w4 : Cond.code Lib.Math.min.name Lib.Math.min.code 2 (some .int) ∈ oh_tbl) (hR : 1 ≤ R.frames ∧ 128 ≤ R.locals) (hcs : cells ≤ R.cells ∧ slots ≤ R.slots) {A : Nat → Prop} :
    oh_COK p l e R s m args below meth c cells slots Q D ad tc cA A nL cc (.invokestatic idx) 2 T := by
  intro pc as st1 μ Post H locs lr hdg hn hwf hcat hwM hT1 hP hD hS hlr kk
  obtain ⟨a, b, rfl, hpo⟩ := hT _ _ _ hT1
  have ha : oh_rgI a := (hwf (oI a) (by simp)).1
  have hb1 : oh_rgI b := (hwf (oI b) (by simp)).1
  have e1 : (if Int32.ofInt b < Int32.ofInt a then Int32.ofInt b else Int32.ofInt a) = Int32.ofInt (min a b) := by
    by_cases q : Int32.ofInt b < Int32.ofInt a
    · rw [if_pos q]
      have := (oh_lt32 hb1 ha).mp q
      congr 1
      omega
    · rw [if_neg q]
      have : ¬ b < a := fun z => q ((oh_lt32 hb1 ha).mpr z)
      congr 1
      omega
  have k := kk (some (oI (min a b))) μ H locs hpo (fun v hv => by
    cases hv
    show oh_rgI (min a b)
    unfold oh_rgI at ha hb1 ⊢
    omega) hwM hP hD hS
  refine va_mmin (x := Int32.ofInt a) (y := Int32.ofInt b) (rest := st1.map (oh_re ad tc)) hx hb (by rw [hml, hlr]) hown (hts _ w1) (hts _ w2) (hts _ w3) (hts _ w4) hR.1 ?_ hcs.1 hcs.2 hdg ?_
  · rw [oh_re_cat]
    omega
  · rw [e1]
    exact k
theorem oh_calls (hx : p.tables.exec = Jvm.exec) (hb : c.code = cc) (hml : c.maxLocals = nL) (hown : s.vm.findClass own = some m.cls) (hts : ∀ w ∈ oh_tbl, w.before args s = true) (hKn : va_K D vwCl (oh_tys cA) s) (hSt : oh_Sta t0 t1 (oh_A ad s.heap.size) s s.heap) (hNs : ∀ w ∈ oh_nest, va_Nw w s) {h : Nat} (hRf : h ≤ R.frames) (hRl : 128 * h ≤ R.locals) (hcs : cells ≤ R.cells ∧ slots ≤ R.slots)
    {ca : List (Nat × Nat × Tr)} (hca : ∀ key na T, oh_look ca key = some (na, T) → oh_CF l own h key na T) :
    (∀ idx na T, idx < 100000 → oh_look ca idx = some (na, T) → oh_COK p l e R s m args below meth c cells slots Q D ad tc cA (oh_A ad s.heap.size) nL cc (.invokestatic idx) na T) ∧
    (∀ idx na T, oh_look ca (idx + 100000) = some (na, T) → oh_COK p l e R s m args below meth c cells slots Q D ad tc cA (oh_A ad s.heap.size) nL cc (.invokevirtual idx) na T) := by
  refine ⟨fun idx na T hi hl => ?_, fun idx na T hl => ?_⟩
  · rcases hca _ _ _ hl with ⟨h', y, bytes, maxL, ret, hk, hh, hm, hM, w1, w2, w3, w4, d1, d2, d3⟩ | ⟨h', y, bytes, maxL, ret, i, s0, n, hk, -⟩ | ⟨hk, hh, rfl, rfl, w1, w2, w3, w4⟩ | ⟨hk, hh, rfl, hT, w1, w2, w3, w4⟩ | ⟨hk, hh, rfl, hT, w1, w2, w3, w4⟩
    · rcases w3 with w3 | ⟨host, w3⟩
      · exact oh_cS (t0 := t0) (t1 := t1) hx hb hml hown hts hKn hSt hNs hM w1 w2 w3 w4 ⟨d1, d2, d3⟩ ⟨by omega, by omega⟩ hcs
      · exact oh_cSN (t0 := t0) (t1 := t1) hx hb hml hown hts hKn hSt hNs hM w1 w2 w3 w4 ⟨d1, d2, d3⟩ ⟨by omega, by omega⟩ hcs
    · omega
    · exact oh_cC hx hb hml hown hts hKn w1 w2 w3 w4 ⟨by omega, by omega⟩
    · exact oh_cMax hx hb hml hown hts hT w1 w2 w3 w4 ⟨by omega, by omega⟩ hcs
    · exact oh_cMin hx hb hml hown hts hT w1 w2 w3 w4 ⟨by omega, by omega⟩ hcs
  · rcases hca _ _ _ hl with ⟨h', y, bytes, maxL, ret, hk, -⟩ | ⟨h', y, bytes, maxL, ret, i, s0, n, hk, rfl, hh, hm, hM, hrec, hA0, hcl, w1, w2, w3, w4, w5, d1, d2, d3⟩ | ⟨hk, -⟩ | ⟨hk, -⟩ | ⟨hk, -⟩
    · omega
    · have hk : i = idx := by omega
      subst hk
      exact oh_cV (t0 := t0) (t1 := t1) hx hb hml hown hts hKn hSt hNs hM hrec hA0 hcl w1 w2 w3 w4 w5 ⟨d1, d2, d3⟩ ⟨by omega, by omega⟩ hcs
    · omega
    · omega
    · omega
end OhM
theorem oh_pad_of : ∀ (n : Nat) (k : LV → Prop), oh_pad n k → k (List.replicate n none)
  | 0, _, h => h
  | n + 1, k, h => oh_pad_of n (fun l => k (none :: l)) h
theorem oh_rep_nth : ∀ (n i : Nat) (v : AV), ¬ oh_nth (List.replicate n (none : Option AV)) i none = some v
  | 0, _, _, h => by simp [oh_nth] at h
  | n + 1, 0, _, h => by simp [oh_nth, List.replicate] at h
  | n + 1, i + 1, v, h => oh_rep_nth n i v h
theorem oh_ent_of {ad : Nat → Nat → Nat} {tc : Nat → Nat} : ∀ (as : List AV) (n : Nat) (k : LV → Prop), oh_ent as n k → ∃ ls, k ls ∧ ls.length = n ∧ (lg_sl (as.map (oh_re ad tc))).length ≤ n ∧ (∀ v, some v ∈ ls → v ∈ as) ∧ ∀ b i v, oh_nth ls i none = some v → (b + i, oh_re ad tc v) ∈ lv_args b (as.map (oh_re ad tc))
  | [], n, k, h => ⟨_, oh_pad_of n k h, by simp, by simp [lg_sl], fun v hv => absurd (List.eq_of_mem_replicate hv) (by simp), fun b i v hv => absurd hv (oh_rep_nth n i v)⟩
  | Sum.inl x :: as, 0, k, h => h.elim
  | Sum.inl x :: as, n + 1, k, h => by
    obtain ⟨ls, h1, h2, h3, h4, h5⟩ := oh_ent_of (ad := ad) (tc := tc) as n _ h
    refine ⟨some (oI x) :: ls, h1, by simp [h2], ?_, ?_, ?_⟩
    · simp only [List.map_cons, lg_sl, List.flatMap_cons, List.length_append] at h3 ⊢
      have : (if (oh_re ad tc (Sum.inl x)).category = 2 then [Slot.val (oh_re ad tc (Sum.inl x)), Slot.second] else [Slot.val (oh_re ad tc (Sum.inl x))]).length = 1 := rfl
      omega
    · intro v hv
      rcases List.mem_cons.mp hv with hv | hv
      · cases hv
        exact List.mem_cons_self
      · exact List.mem_cons_of_mem _ (h4 v hv)
    · intro b i v hv
      cases i with
      | zero =>
        cases hv
        exact List.mem_cons_self
      | succ i =>
        have := h5 (b + 1) i v hv
        refine List.mem_cons_of_mem _ ?_
        have e : b + (i + 1) = b + 1 + i := by omega
        rw [e]
        exact this
  | Sum.inr (Sum.inr x) :: as, 0, k, h => by rcases x with x | x <;> exact h.elim
  | Sum.inr (Sum.inr x) :: as, n + 1, k, h => by
    obtain ⟨ls, h1, h2, h3, h4, h5⟩ := oh_ent_of (ad := ad) (tc := tc) as n _ h
    have hc : (oh_re ad tc (Sum.inr (Sum.inr x))).category = 1 := by rcases x with x | x <;> rfl
    refine ⟨some (Sum.inr (Sum.inr x)) :: ls, h1, by simp [h2], ?_, ?_, ?_⟩
    · simp only [List.map_cons, lg_sl, List.flatMap_cons, List.length_append] at h3 ⊢
      have e1 : (if (oh_re ad tc (Sum.inr (Sum.inr x))).category = 2 then [Slot.val (oh_re ad tc (Sum.inr (Sum.inr x))), Slot.second] else [Slot.val (oh_re ad tc (Sum.inr (Sum.inr x)))]).length = 1 := by
        rw [hc]
        rfl
      omega
    · intro v hv
      rcases List.mem_cons.mp hv with hv | hv
      · cases hv
        exact List.mem_cons_self
      · exact List.mem_cons_of_mem _ (h4 v hv)
    · intro b i v hv
      simp only [List.map_cons, lv_args, hc]
      cases i with
      | zero =>
        cases hv
        exact List.mem_cons_self
      | succ i =>
        have := h5 (b + 1) i v hv
        refine List.mem_cons_of_mem _ ?_
        have e : b + (i + 1) = b + 1 + i := by omega
        rw [e]
        exact this
  | Sum.inr (Sum.inl x) :: as, 0, k, h => h.elim
  | Sum.inr (Sum.inl x) :: as, 1, k, h => h.elim
  | Sum.inr (Sum.inl x) :: as, n + 2, k, h => by
    obtain ⟨ls, h1, h2, h3, h4, h5⟩ := oh_ent_of (ad := ad) (tc := tc) as n _ h
    have hc : (oh_re ad tc (Sum.inr (Sum.inl x))).category = 2 := rfl
    refine ⟨some (oL x) :: none :: ls, h1, by simp [h2], ?_, ?_, ?_⟩
    · simp only [List.map_cons, lg_sl, List.flatMap_cons, List.length_append] at h3 ⊢
      have e1 : (if (oh_re ad tc (Sum.inr (Sum.inl x))).category = 2 then [Slot.val (oh_re ad tc (Sum.inr (Sum.inl x))), Slot.second] else [Slot.val (oh_re ad tc (Sum.inr (Sum.inl x)))]).length = 2 := by
        rw [hc]
        rfl
      omega
    · intro v hv
      rcases List.mem_cons.mp hv with hv | hv
      · cases hv
        exact List.mem_cons_self
      · rcases List.mem_cons.mp hv with hv | hv
        · cases hv
        · exact List.mem_cons_of_mem _ (h4 v hv)
    · intro b i v hv
      simp only [List.map_cons, lv_args, hc]
      match i, hv with
      | 0, hv =>
        cases hv
        exact List.mem_cons_self
      | 1, hv => cases hv
      | i + 2, hv =>
        have := h5 (b + 2) i v hv
        refine List.mem_cons_of_mem _ ?_
        have e : b + (i + 2) = b + 2 + i := by omega
        rw [e]
        exact this
/-- how the answer's type goes with a table's mark -/
def oh_rok (ret : Option FieldType) (rb : Bool) : Prop := (ret = some .int ∧ rb = false) ∨ (ret = some .boolean ∧ rb = true) ∨ (ret = some .long ∧ rb = false) ∨ (∃ C, ret = some (.object C) ∧ rb = false) ∨ (ret = none ∧ rb = false)
/-- which instructions end the method -/
def oh_rtB (ret : Option FieldType) (r : IR) : Bool := match r with
  | (_, .ireturn, _) => decide (ret = some .int) || decide (ret = some .boolean)
  | (_, .lreturn, _) => decide (ret = some .long)
  | (_, .areturn, _) => match ret with
    | some (.object _) => true
    | _ => false
  | (_, .return_, _) => decide (ret = none)
  | _ => true
theorem oh_kc_sta {t0 t1 : Nat} {A : Nat → Prop} {U : State} {H : Heap} (h : oh_Sta t0 t1 A U H) : ∀ k, oh_Con oh_kc (oh_tc t0 t1) A U H k := h.2.2
set_option maxHeartbeats 4000000 in
/-- a method that keeps a contract over the small machine keeps it over the machine -/
theorem oh_mc (l : Launch) (h : Nat) {y : MethodName} {bytes : ByteArray} {maxL : Nat} {ret : Option FieldType} {P : PG} {T : Tr} (hy : plainName y.cls = true) (hOk : oh_Ok P maxL T) (hTab : P.1.all (oh_rowB bytes) = true) (hRt : P.1.all (oh_rtB ret) = true) (hrk : oh_rok ret P.2.2.2.2.2.1) (hkc : P.2.2.2.2.2.2 = oh_kc)
    (hKF : oh_KF y.cls P.2.1 P.2.2.1 P.2.2.2.1) (hca : ∀ key na T, oh_look P.2.2.2.2.1 key = some (na, T) → oh_CF l y.cls h key na T) : oh_MC l h y bytes maxL ret T := by
  intro D ad cA t0 t1 sz as μ Post hT hwf hwM
  refine Met.ofW (cc := bytes) (maxL := maxL) (ret := ret) hy rfl ?_
  intro p e s m args below meth c s₁ B hml hv
  obtain ⟨rfl, hsz, hP, hK, hD, hSt, hNs⟩ := hv
  subst hsz
  have hx := B.exec
  have hb := B.bytes
  have hr := B.returns
  have hts0 := atoms_spec (ws := .code y bytes maxL ret :: oh_tbl) B.pre
  have hts : ∀ w ∈ oh_tbl, w.before (as.map (oh_re ad (oh_tc t0 t1))).toArray s = true := fun w hw => hts0 w (List.mem_cons_of_mem _ hw)
  have hown : s.vm.findClass y.cls = some m.cls := findClass_of_methodNamed B.named
  have hlocks := B.notSynchronized
  obtain ⟨hF1, hF2, hF3, hF4⟩ := hKF
  obtain ⟨hcS, hcV⟩ := oh_calls (p := p) (e := e) (R := (headSpec (.code y bytes maxL ret :: oh_tbl) (oh_rm h)).room) (below := below) (meth := meth) (cells := 0) (slots := 0) (Q := MQ below (oh_Qc D ad cA (oh_tc t0 t1) s.heap.size Post) (as.map (oh_re ad (oh_tc t0 t1))).toArray s 0 0 (oh_A ad s.heap.size)) (tc := oh_tc t0 t1) hx hb hml hown hts hK hSt hNs (h := h) (Nat.le_refl _) (Nat.le_refl _) ⟨Nat.zero_le _, Nat.zero_le _⟩ hca
  have hcl := oh_cl (P := P) (Post := Post) (nL := maxL) hx hb hown hts hNs hK (by rw [hkc]; exact oh_kc_sta hSt) hTab hF1 hF2 hF3 (fun idx k hk => by
      rcases hF4 idx k hk with ⟨rfl, hl⟩ | ⟨rfl, hl⟩
      · exact ⟨_, hSt.1, hl⟩
      · exact ⟨_, hSt.2.1, hl⟩) hcS hcV ?_
  · have hent := hOk as μ Post _ hcl (fun v hv => (hwf v hv).1) hwM hT
    obtain ⟨ls, hG, hlen, hfit, hmem, hnth⟩ := oh_ent_of (ad := ad) (tc := oh_tc t0 t1) as maxL _ hent
    have hl := lv_entry (as.map (oh_re ad (oh_tc t0 t1))) (n := maxL) hfit
    rw [lg_entry_eq]
    exact hG hlen (fun v hv => (hwf v (hmem v hv)).1) (fun v hv => by cases hv) hwM s.heap [] _ hP hD va_S.rf (oh_L_of hl (fun i v hi => by
      have := hnth 0 i v hi
      rw [Nat.zero_add] at this
      exact this))
  · intro i pc r μ1 H locs lr hmm hd hk hpo hwr hwm hP1 hD1 hS1
    have hq : (∀ v, r = some v → oh_nK v) → ∀ t : State, t.heap = H → s.WarmedH t.vm → oh_Qc D ad cA (oh_tc t0 t1) s.heap.size Post (as.map (oh_re ad (oh_tc t0 t1))).toArray s (.returned (r.map (oh_re ad (oh_tc t0 t1)))) t := by
      intro hnk t ht hW
      exact ⟨⟨r, μ1, rfl, hpo, fun v hv => ⟨hwr v hv, hnk v hv⟩, hwm, by rw [ht]; exact hP1, hD1⟩, hS1.F ht⟩
    obtain ⟨len, nx, tg, hmm⟩ := hmm
    have hrt := List.all_eq_true.mp hRt _ hmm
    rcases hk with ⟨rfl, x, rfl, hz⟩ | ⟨rfl, x, rfl⟩ | ⟨rfl, s0, n0, rfl⟩ | ⟨rfl, rfl⟩
    · have hq := hq (fun v hv => by cases hv; trivial)
      simp only [oh_rtB, Bool.or_eq_true, decide_eq_true_eq] at hrt
      rcases hrt with e1 | e1
      · exact W.iret (v := Int32.ofInt x) hx hb (hr.trans e1) hq hS1.2.2 hd
      · have e2 : P.2.2.2.2.2.1 = true := by
          rcases hrk with ⟨e3, e2⟩ | ⟨e3, e2⟩ | ⟨e3, e2⟩ | ⟨C, e3, e2⟩ | ⟨e3, e2⟩
          · rw [e1] at e3
            cases e3
          · exact e2
          · rw [e1] at e3
            cases e3
          · rw [e1] at e3
            cases e3
          · rw [e1] at e3
            cases e3
        exact W.zret (v := Int32.ofInt x) hx hb (hr.trans e1) (oh_nar_z (hz e2).1 (hz e2).2).1 hq hS1.2.2 hd
    · have hq := hq (fun v hv => by cases hv; trivial)
      simp only [oh_rtB, decide_eq_true_eq] at hrt
      exact W.lret (v := Int64.ofInt x) hx hb (hr.trans hrt) hq hS1.2.2 hd
    · have hq := hq (fun v hv => by cases hv; trivial)
      unfold oh_rtB at hrt
      split at hrt
      · rename_i e1
        cases e1
      · rename_i e1
        cases e1
      · split at hrt
        · exact W.aret (v := .ref (ad s0 n0)) hx hb hr (Or.inl ⟨_, rfl⟩) (Or.inr ⟨_, rfl⟩) hq hS1.2.2 hd
        · cases hrt
      · rename_i e1
        cases e1
      · rename_i e1 _
        exact absurd rfl (e1 _ _)
    · have hq := hq (fun v hv => by cases hv)
      simp only [oh_rtB, decide_eq_true_eq] at hrt
      exact W.vret hx hb (hr.trans hrt) hq hS1.2.2 hd
