/-! SHAPES OF CONTRACTS: by the kinds of the arguments; at a call they unfold by themselves -/
def tS1 (F : Int → Mem → Po → Prop) : Tr := fun as μ Post => match as with
  | [Sum.inl a] => F a μ Post
  | _ => False
theorem tS1_ok {P : PG} {nL : Nat} {F : Int → Mem → Po → Prop} (h : ∀ (a : Int) (μ : Mem) (Post : Po) (G : Kt), oh_Cl P Post G → oh_rgI a → oh_wfM μ → F a μ Post → oh_ent [oI a] nL (fun ls => G 0 ls [] μ)) : oh_Ok P nL (tS1 F) := by
  intro as μ Post G hG hw hM hT
  unfold tS1 at hT
  split at hT
  · exact h _ _ _ _ hG (hw (Sum.inl _) (by simp)) hM hT
  · exact hT.elim
def tS2 (F : Int → Int → Mem → Po → Prop) : Tr := fun as μ Post => match as with
  | [Sum.inl a, Sum.inl b] => F a b μ Post
  | _ => False
theorem tS2_ok {P : PG} {nL : Nat} {F : Int → Int → Mem → Po → Prop} (h : ∀ (a : Int) (b : Int) (μ : Mem) (Post : Po) (G : Kt), oh_Cl P Post G → oh_rgI a → oh_rgI b → oh_wfM μ → F a b μ Post → oh_ent [oI a, oI b] nL (fun ls => G 0 ls [] μ)) : oh_Ok P nL (tS2 F) := by
  intro as μ Post G hG hw hM hT
  unfold tS2 at hT
  split at hT
  · exact h _ _ _ _ _ hG (hw (Sum.inl _) (by simp)) (hw (Sum.inl _) (by simp)) hM hT
  · exact hT.elim
def tS3 (F : Int → Int → Int → Mem → Po → Prop) : Tr := fun as μ Post => match as with
  | [Sum.inl a, Sum.inl b, Sum.inl c] => F a b c μ Post
  | _ => False
theorem tS3_ok {P : PG} {nL : Nat} {F : Int → Int → Int → Mem → Po → Prop} (h : ∀ (a : Int) (b : Int) (c : Int) (μ : Mem) (Post : Po) (G : Kt), oh_Cl P Post G → oh_rgI a → oh_rgI b → oh_rgI c → oh_wfM μ → F a b c μ Post → oh_ent [oI a, oI b, oI c] nL (fun ls => G 0 ls [] μ)) : oh_Ok P nL (tS3 F) := by
  intro as μ Post G hG hw hM hT
  unfold tS3 at hT
  split at hT
  · exact h _ _ _ _ _ _ hG (hw (Sum.inl _) (by simp)) (hw (Sum.inl _) (by simp)) (hw (Sum.inl _) (by simp)) hM hT
  · exact hT.elim
def tS4 (F : Int → Int → Int → Int → Mem → Po → Prop) : Tr := fun as μ Post => match as with
  | [Sum.inl a, Sum.inl b, Sum.inl c, Sum.inl d] => F a b c d μ Post
  | _ => False
theorem tS4_ok {P : PG} {nL : Nat} {F : Int → Int → Int → Int → Mem → Po → Prop} (h : ∀ (a : Int) (b : Int) (c : Int) (d : Int) (μ : Mem) (Post : Po) (G : Kt), oh_Cl P Post G → oh_rgI a → oh_rgI b → oh_rgI c → oh_rgI d → oh_wfM μ → F a b c d μ Post → oh_ent [oI a, oI b, oI c, oI d] nL (fun ls => G 0 ls [] μ)) : oh_Ok P nL (tS4 F) := by
  intro as μ Post G hG hw hM hT
  unfold tS4 at hT
  split at hT
  · exact h _ _ _ _ _ _ _ hG (hw (Sum.inl _) (by simp)) (hw (Sum.inl _) (by simp)) (hw (Sum.inl _) (by simp)) (hw (Sum.inl _) (by simp)) hM hT
  · exact hT.elim
def tL2 (F : Int → Int → Mem → Po → Prop) : Tr := fun as μ Post => match as with
  | [Sum.inr (Sum.inl a), Sum.inr (Sum.inl b)] => F a b μ Post
  | _ => False
theorem tL2_ok {P : PG} {nL : Nat} {F : Int → Int → Mem → Po → Prop} (h : ∀ (a : Int) (b : Int) (μ : Mem) (Post : Po) (G : Kt), oh_Cl P Post G → oh_rgL a → oh_rgL b → oh_wfM μ → F a b μ Post → oh_ent [oL a, oL b] nL (fun ls => G 0 ls [] μ)) : oh_Ok P nL (tL2 F) := by
  intro as μ Post G hG hw hM hT
  unfold tL2 at hT
  split at hT
  · exact h _ _ _ _ _ hG (hw (Sum.inr (Sum.inl _)) (by simp)) (hw (Sum.inr (Sum.inl _)) (by simp)) hM hT
  · exact hT.elim
def tL3 (F : Int → Int → Int → Mem → Po → Prop) : Tr := fun as μ Post => match as with
  | [Sum.inr (Sum.inl a), Sum.inr (Sum.inl b), Sum.inr (Sum.inl c)] => F a b c μ Post
  | _ => False
theorem tL3_ok {P : PG} {nL : Nat} {F : Int → Int → Int → Mem → Po → Prop} (h : ∀ (a : Int) (b : Int) (c : Int) (μ : Mem) (Post : Po) (G : Kt), oh_Cl P Post G → oh_rgL a → oh_rgL b → oh_rgL c → oh_wfM μ → F a b c μ Post → oh_ent [oL a, oL b, oL c] nL (fun ls => G 0 ls [] μ)) : oh_Ok P nL (tL3 F) := by
  intro as μ Post G hG hw hM hT
  unfold tL3 at hT
  split at hT
  · exact h _ _ _ _ _ _ hG (hw (Sum.inr (Sum.inl _)) (by simp)) (hw (Sum.inr (Sum.inl _)) (by simp)) (hw (Sum.inr (Sum.inl _)) (by simp)) hM hT
  · exact hT.elim
def tO0 (s0 : Nat) (F : Nat → Mem → Po → Prop) : Tr := fun as μ Post => match as with
  | [Sum.inr (Sum.inr (Sum.inl (s, n)))] => match Nat.beq s s0 with
    | true => F n μ Post
    | false => False
  | _ => False
theorem tO0_ok {P : PG} {nL s0 : Nat} {F : Nat → Mem → Po → Prop} (h : ∀ (n : Nat) (μ : Mem) (Post : Po) (G : Kt), oh_Cl P Post G → n < oh_cnt s0 → oh_wfM μ → F n μ Post → oh_ent [oR s0 n] nL (fun ls => G 0 ls [] μ)) : oh_Ok P nL (tO0 s0 F) := by
  intro as μ Post G hG hw hM hT
  unfold tO0 at hT
  split at hT
  · split at hT
    · rename_i hs
      have hs := Nat.eq_of_beq_eq_true hs
      subst hs
      exact h _ _ _ _ hG (hw (Sum.inr (Sum.inr (Sum.inl (_, _)))) List.mem_cons_self) hM hT
    · exact hT.elim
  · exact hT.elim
theorem tO0_rec {s0 : Nat} {F : Nat → Mem → Po → Prop} : ∀ as μ Post, tO0 s0 F as μ Post → ∃ n r, as = oR s0 n :: r := by
  intro as μ Post hT
  unfold tO0 at hT
  split at hT
  · split at hT
    · rename_i hs
      have hs := Nat.eq_of_beq_eq_true hs
      subst hs
      exact ⟨_, _, rfl⟩
    · exact hT.elim
  · exact hT.elim
def tO1 (s0 : Nat) (F : Nat → Int → Mem → Po → Prop) : Tr := fun as μ Post => match as with
  | [Sum.inr (Sum.inr (Sum.inl (s, n))), Sum.inl a] => match Nat.beq s s0 with
    | true => F n a μ Post
    | false => False
  | _ => False
theorem tO1_ok {P : PG} {nL s0 : Nat} {F : Nat → Int → Mem → Po → Prop} (h : ∀ (n : Nat) (a : Int) (μ : Mem) (Post : Po) (G : Kt), oh_Cl P Post G → n < oh_cnt s0 → oh_rgI a → oh_wfM μ → F n a μ Post → oh_ent [oR s0 n, oI a] nL (fun ls => G 0 ls [] μ)) : oh_Ok P nL (tO1 s0 F) := by
  intro as μ Post G hG hw hM hT
  unfold tO1 at hT
  split at hT
  · split at hT
    · rename_i hs
      have hs := Nat.eq_of_beq_eq_true hs
      subst hs
      exact h _ _ _ _ _ hG (hw (Sum.inr (Sum.inr (Sum.inl (_, _)))) List.mem_cons_self) (hw (Sum.inl _) (by simp)) hM hT
    · exact hT.elim
  · exact hT.elim
theorem tO1_rec {s0 : Nat} {F : Nat → Int → Mem → Po → Prop} : ∀ as μ Post, tO1 s0 F as μ Post → ∃ n r, as = oR s0 n :: r := by
  intro as μ Post hT
  unfold tO1 at hT
  split at hT
  · split at hT
    · rename_i hs
      have hs := Nat.eq_of_beq_eq_true hs
      subst hs
      exact ⟨_, _, rfl⟩
    · exact hT.elim
  · exact hT.elim
def tO2 (s0 : Nat) (F : Nat → Int → Int → Mem → Po → Prop) : Tr := fun as μ Post => match as with
  | [Sum.inr (Sum.inr (Sum.inl (s, n))), Sum.inl a, Sum.inl b] => match Nat.beq s s0 with
    | true => F n a b μ Post
    | false => False
  | _ => False
theorem tO2_ok {P : PG} {nL s0 : Nat} {F : Nat → Int → Int → Mem → Po → Prop} (h : ∀ (n : Nat) (a : Int) (b : Int) (μ : Mem) (Post : Po) (G : Kt), oh_Cl P Post G → n < oh_cnt s0 → oh_rgI a → oh_rgI b → oh_wfM μ → F n a b μ Post → oh_ent [oR s0 n, oI a, oI b] nL (fun ls => G 0 ls [] μ)) : oh_Ok P nL (tO2 s0 F) := by
  intro as μ Post G hG hw hM hT
  unfold tO2 at hT
  split at hT
  · split at hT
    · rename_i hs
      have hs := Nat.eq_of_beq_eq_true hs
      subst hs
      exact h _ _ _ _ _ _ hG (hw (Sum.inr (Sum.inr (Sum.inl (_, _)))) List.mem_cons_self) (hw (Sum.inl _) (by simp)) (hw (Sum.inl _) (by simp)) hM hT
    · exact hT.elim
  · exact hT.elim
theorem tO2_rec {s0 : Nat} {F : Nat → Int → Int → Mem → Po → Prop} : ∀ as μ Post, tO2 s0 F as μ Post → ∃ n r, as = oR s0 n :: r := by
  intro as μ Post hT
  unfold tO2 at hT
  split at hT
  · split at hT
    · rename_i hs
      have hs := Nat.eq_of_beq_eq_true hs
      subst hs
      exact ⟨_, _, rfl⟩
    · exact hT.elim
  · exact hT.elim
def tO3 (s0 : Nat) (F : Nat → Int → Int → Int → Mem → Po → Prop) : Tr := fun as μ Post => match as with
  | [Sum.inr (Sum.inr (Sum.inl (s, n))), Sum.inl a, Sum.inl b, Sum.inl c] => match Nat.beq s s0 with
    | true => F n a b c μ Post
    | false => False
  | _ => False
theorem tO3_ok {P : PG} {nL s0 : Nat} {F : Nat → Int → Int → Int → Mem → Po → Prop} (h : ∀ (n : Nat) (a : Int) (b : Int) (c : Int) (μ : Mem) (Post : Po) (G : Kt), oh_Cl P Post G → n < oh_cnt s0 → oh_rgI a → oh_rgI b → oh_rgI c → oh_wfM μ → F n a b c μ Post → oh_ent [oR s0 n, oI a, oI b, oI c] nL (fun ls => G 0 ls [] μ)) : oh_Ok P nL (tO3 s0 F) := by
  intro as μ Post G hG hw hM hT
  unfold tO3 at hT
  split at hT
  · split at hT
    · rename_i hs
      have hs := Nat.eq_of_beq_eq_true hs
      subst hs
      exact h _ _ _ _ _ _ _ hG (hw (Sum.inr (Sum.inr (Sum.inl (_, _)))) List.mem_cons_self) (hw (Sum.inl _) (by simp)) (hw (Sum.inl _) (by simp)) (hw (Sum.inl _) (by simp)) hM hT
    · exact hT.elim
  · exact hT.elim
theorem tO3_rec {s0 : Nat} {F : Nat → Int → Int → Int → Mem → Po → Prop} : ∀ as μ Post, tO3 s0 F as μ Post → ∃ n r, as = oR s0 n :: r := by
  intro as μ Post hT
  unfold tO3 at hT
  split at hT
  · split at hT
    · rename_i hs
      have hs := Nat.eq_of_beq_eq_true hs
      subst hs
      exact ⟨_, _, rfl⟩
    · exact hT.elim
  · exact hT.elim
def tO4 (s0 : Nat) (F : Nat → Int → Int → Int → Int → Mem → Po → Prop) : Tr := fun as μ Post => match as with
  | [Sum.inr (Sum.inr (Sum.inl (s, n))), Sum.inl a, Sum.inl b, Sum.inl c, Sum.inl d] => match Nat.beq s s0 with
    | true => F n a b c d μ Post
    | false => False
  | _ => False
theorem tO4_ok {P : PG} {nL s0 : Nat} {F : Nat → Int → Int → Int → Int → Mem → Po → Prop} (h : ∀ (n : Nat) (a : Int) (b : Int) (c : Int) (d : Int) (μ : Mem) (Post : Po) (G : Kt), oh_Cl P Post G → n < oh_cnt s0 → oh_rgI a → oh_rgI b → oh_rgI c → oh_rgI d → oh_wfM μ → F n a b c d μ Post → oh_ent [oR s0 n, oI a, oI b, oI c, oI d] nL (fun ls => G 0 ls [] μ)) : oh_Ok P nL (tO4 s0 F) := by
  intro as μ Post G hG hw hM hT
  unfold tO4 at hT
  split at hT
  · split at hT
    · rename_i hs
      have hs := Nat.eq_of_beq_eq_true hs
      subst hs
      exact h _ _ _ _ _ _ _ _ hG (hw (Sum.inr (Sum.inr (Sum.inl (_, _)))) List.mem_cons_self) (hw (Sum.inl _) (by simp)) (hw (Sum.inl _) (by simp)) (hw (Sum.inl _) (by simp)) (hw (Sum.inl _) (by simp)) hM hT
    · exact hT.elim
  · exact hT.elim
theorem tO4_rec {s0 : Nat} {F : Nat → Int → Int → Int → Int → Mem → Po → Prop} : ∀ as μ Post, tO4 s0 F as μ Post → ∃ n r, as = oR s0 n :: r := by
  intro as μ Post hT
  unfold tO4 at hT
  split at hT
  · split at hT
    · rename_i hs
      have hs := Nat.eq_of_beq_eq_true hs
      subst hs
      exact ⟨_, _, rfl⟩
    · exact hT.elim
  · exact hT.elim
def tO5 (s0 : Nat) (F : Nat → Int → Int → Int → Int → Int → Mem → Po → Prop) : Tr := fun as μ Post => match as with
  | [Sum.inr (Sum.inr (Sum.inl (s, n))), Sum.inl a, Sum.inl b, Sum.inl c, Sum.inl d, Sum.inl e] => match Nat.beq s s0 with
    | true => F n a b c d e μ Post
    | false => False
  | _ => False
theorem tO5_ok {P : PG} {nL s0 : Nat} {F : Nat → Int → Int → Int → Int → Int → Mem → Po → Prop} (h : ∀ (n : Nat) (a : Int) (b : Int) (c : Int) (d : Int) (e : Int) (μ : Mem) (Post : Po) (G : Kt), oh_Cl P Post G → n < oh_cnt s0 → oh_rgI a → oh_rgI b → oh_rgI c → oh_rgI d → oh_rgI e → oh_wfM μ → F n a b c d e μ Post → oh_ent [oR s0 n, oI a, oI b, oI c, oI d, oI e] nL (fun ls => G 0 ls [] μ)) : oh_Ok P nL (tO5 s0 F) := by
  intro as μ Post G hG hw hM hT
  unfold tO5 at hT
  split at hT
  · split at hT
    · rename_i hs
      have hs := Nat.eq_of_beq_eq_true hs
      subst hs
      exact h _ _ _ _ _ _ _ _ _ hG (hw (Sum.inr (Sum.inr (Sum.inl (_, _)))) List.mem_cons_self) (hw (Sum.inl _) (by simp)) (hw (Sum.inl _) (by simp)) (hw (Sum.inl _) (by simp)) (hw (Sum.inl _) (by simp)) (hw (Sum.inl _) (by simp)) hM hT
    · exact hT.elim
  · exact hT.elim
theorem tO5_rec {s0 : Nat} {F : Nat → Int → Int → Int → Int → Int → Mem → Po → Prop} : ∀ as μ Post, tO5 s0 F as μ Post → ∃ n r, as = oR s0 n :: r := by
  intro as μ Post hT
  unfold tO5 at hT
  split at hT
  · split at hT
    · rename_i hs
      have hs := Nat.eq_of_beq_eq_true hs
      subst hs
      exact ⟨_, _, rfl⟩
    · exact hT.elim
  · exact hT.elim
def tOJ1 (s0 : Nat) (F : Nat → Int → Int → Mem → Po → Prop) : Tr := fun as μ Post => match as with
  | [Sum.inr (Sum.inr (Sum.inl (s, n))), Sum.inr (Sum.inl a), Sum.inl b] => match Nat.beq s s0 with
    | true => F n a b μ Post
    | false => False
  | _ => False
theorem tOJ1_ok {P : PG} {nL s0 : Nat} {F : Nat → Int → Int → Mem → Po → Prop} (h : ∀ (n : Nat) (a : Int) (b : Int) (μ : Mem) (Post : Po) (G : Kt), oh_Cl P Post G → n < oh_cnt s0 → oh_rgL a → oh_rgI b → oh_wfM μ → F n a b μ Post → oh_ent [oR s0 n, oL a, oI b] nL (fun ls => G 0 ls [] μ)) : oh_Ok P nL (tOJ1 s0 F) := by
  intro as μ Post G hG hw hM hT
  unfold tOJ1 at hT
  split at hT
  · split at hT
    · rename_i hs
      have hs := Nat.eq_of_beq_eq_true hs
      subst hs
      exact h _ _ _ _ _ _ hG (hw (Sum.inr (Sum.inr (Sum.inl (_, _)))) List.mem_cons_self) (hw (Sum.inr (Sum.inl _)) (by simp)) (hw (Sum.inl _) (by simp)) hM hT
    · exact hT.elim
  · exact hT.elim
theorem tOJ1_rec {s0 : Nat} {F : Nat → Int → Int → Mem → Po → Prop} : ∀ as μ Post, tOJ1 s0 F as μ Post → ∃ n r, as = oR s0 n :: r := by
  intro as μ Post hT
  unfold tOJ1 at hT
  split at hT
  · split at hT
    · rename_i hs
      have hs := Nat.eq_of_beq_eq_true hs
      subst hs
      exact ⟨_, _, rfl⟩
    · exact hT.elim
  · exact hT.elim
def tOJ2 (s0 : Nat) (F : Nat → Int → Int → Int → Mem → Po → Prop) : Tr := fun as μ Post => match as with
  | [Sum.inr (Sum.inr (Sum.inl (s, n))), Sum.inr (Sum.inl a), Sum.inl b, Sum.inl c] => match Nat.beq s s0 with
    | true => F n a b c μ Post
    | false => False
  | _ => False
theorem tOJ2_ok {P : PG} {nL s0 : Nat} {F : Nat → Int → Int → Int → Mem → Po → Prop} (h : ∀ (n : Nat) (a : Int) (b : Int) (c : Int) (μ : Mem) (Post : Po) (G : Kt), oh_Cl P Post G → n < oh_cnt s0 → oh_rgL a → oh_rgI b → oh_rgI c → oh_wfM μ → F n a b c μ Post → oh_ent [oR s0 n, oL a, oI b, oI c] nL (fun ls => G 0 ls [] μ)) : oh_Ok P nL (tOJ2 s0 F) := by
  intro as μ Post G hG hw hM hT
  unfold tOJ2 at hT
  split at hT
  · split at hT
    · rename_i hs
      have hs := Nat.eq_of_beq_eq_true hs
      subst hs
      exact h _ _ _ _ _ _ _ hG (hw (Sum.inr (Sum.inr (Sum.inl (_, _)))) List.mem_cons_self) (hw (Sum.inr (Sum.inl _)) (by simp)) (hw (Sum.inl _) (by simp)) (hw (Sum.inl _) (by simp)) hM hT
    · exact hT.elim
  · exact hT.elim
theorem tOJ2_rec {s0 : Nat} {F : Nat → Int → Int → Int → Mem → Po → Prop} : ∀ as μ Post, tOJ2 s0 F as μ Post → ∃ n r, as = oR s0 n :: r := by
  intro as μ Post hT
  unfold tOJ2 at hT
  split at hT
  · split at hT
    · rename_i hs
      have hs := Nat.eq_of_beq_eq_true hs
      subst hs
      exact ⟨_, _, rfl⟩
    · exact hT.elim
  · exact hT.elim
def tP0 (s0 s1 : Nat) (F : Nat → Nat → Mem → Po → Prop) : Tr := fun as μ Post => match as with
  | [Sum.inr (Sum.inr (Sum.inl (s, n))), Sum.inr (Sum.inr (Sum.inl (t, m)))] => match Nat.beq s s0 with
    | true => match Nat.beq t s1 with
      | true => F n m μ Post
      | false => False
    | false => False
  | _ => False
theorem tP0_ok {P : PG} {nL s0 s1 : Nat} {F : Nat → Nat → Mem → Po → Prop} (h : ∀ (n m : Nat) (μ : Mem) (Post : Po) (G : Kt), oh_Cl P Post G → n < oh_cnt s0 → m < oh_cnt s1 → oh_wfM μ → F n m μ Post → oh_ent [oR s0 n, oR s1 m] nL (fun ls => G 0 ls [] μ)) : oh_Ok P nL (tP0 s0 s1 F) := by
  intro as μ Post G hG hw hM hT
  unfold tP0 at hT
  split at hT
  · split at hT
    · rename_i hs
      have hs := Nat.eq_of_beq_eq_true hs
      subst hs
      split at hT
      · rename_i hs
        have hs := Nat.eq_of_beq_eq_true hs
        subst hs
        exact h _ _ _ _ _ hG (hw (Sum.inr (Sum.inr (Sum.inl (_, _)))) List.mem_cons_self) (hw (Sum.inr (Sum.inr (Sum.inl (_, _)))) (List.mem_cons_of_mem _ List.mem_cons_self)) hM hT
      · exact hT.elim
    · exact hT.elim
  · exact hT.elim
theorem tP0_rec {s0 s1 : Nat} {F : Nat → Nat → Mem → Po → Prop} : ∀ as μ Post, tP0 s0 s1 F as μ Post → ∃ n r, as = oR s0 n :: r := by
  intro as μ Post hT
  unfold tP0 at hT
  split at hT
  · split at hT
    · rename_i hs
      have hs := Nat.eq_of_beq_eq_true hs
      subst hs
      exact ⟨_, _, rfl⟩
    · exact hT.elim
  · exact hT.elim
def tP2 (s0 s1 : Nat) (F : Nat → Nat → Int → Int → Mem → Po → Prop) : Tr := fun as μ Post => match as with
  | [Sum.inr (Sum.inr (Sum.inl (s, n))), Sum.inr (Sum.inr (Sum.inl (t, m))), Sum.inl a, Sum.inl b] => match Nat.beq s s0 with
    | true => match Nat.beq t s1 with
      | true => F n m a b μ Post
      | false => False
    | false => False
  | _ => False
theorem tP2_ok {P : PG} {nL s0 s1 : Nat} {F : Nat → Nat → Int → Int → Mem → Po → Prop} (h : ∀ (n m : Nat) (a : Int) (b : Int) (μ : Mem) (Post : Po) (G : Kt), oh_Cl P Post G → n < oh_cnt s0 → m < oh_cnt s1 → oh_rgI a → oh_rgI b → oh_wfM μ → F n m a b μ Post → oh_ent [oR s0 n, oR s1 m, oI a, oI b] nL (fun ls => G 0 ls [] μ)) : oh_Ok P nL (tP2 s0 s1 F) := by
  intro as μ Post G hG hw hM hT
  unfold tP2 at hT
  split at hT
  · split at hT
    · rename_i hs
      have hs := Nat.eq_of_beq_eq_true hs
      subst hs
      split at hT
      · rename_i hs
        have hs := Nat.eq_of_beq_eq_true hs
        subst hs
        exact h _ _ _ _ _ _ _ hG (hw (Sum.inr (Sum.inr (Sum.inl (_, _)))) List.mem_cons_self) (hw (Sum.inr (Sum.inr (Sum.inl (_, _)))) (List.mem_cons_of_mem _ List.mem_cons_self)) (hw (Sum.inl _) (by simp)) (hw (Sum.inl _) (by simp)) hM hT
      · exact hT.elim
    · exact hT.elim
  · exact hT.elim
theorem tP2_rec {s0 s1 : Nat} {F : Nat → Nat → Int → Int → Mem → Po → Prop} : ∀ as μ Post, tP2 s0 s1 F as μ Post → ∃ n r, as = oR s0 n :: r := by
  intro as μ Post hT
  unfold tP2 at hT
  split at hT
  · split at hT
    · rename_i hs
      have hs := Nat.eq_of_beq_eq_true hs
      subst hs
      exact ⟨_, _, rfl⟩
    · exact hT.elim
  · exact hT.elim
def tA1 (F : Nat → Nat → Int → Mem → Po → Prop) : Tr := fun as μ Post => match as with
  | [Sum.inr (Sum.inr (Sum.inl (s, n))), Sum.inl a] => F s n a μ Post
  | _ => False
theorem tA1_ok {P : PG} {nL : Nat} {F : Nat → Nat → Int → Mem → Po → Prop} (h : ∀ (s n : Nat) (a : Int) (μ : Mem) (Post : Po) (G : Kt), oh_Cl P Post G → n < oh_cnt s → oh_rgI a → oh_wfM μ → F s n a μ Post → oh_ent [oR s n, oI a] nL (fun ls => G 0 ls [] μ)) : oh_Ok P nL (tA1 F) := by
  intro as μ Post G hG hw hM hT
  unfold tA1 at hT
  split at hT
  · exact h _ _ _ _ _ _ hG (hw (Sum.inr (Sum.inr (Sum.inl (_, _)))) List.mem_cons_self) (hw (Sum.inl _) (by simp)) hM hT
  · exact hT.elim
def tA2 (F : Nat → Nat → Int → Int → Mem → Po → Prop) : Tr := fun as μ Post => match as with
  | [Sum.inr (Sum.inr (Sum.inl (s, n))), Sum.inl a, Sum.inl b] => F s n a b μ Post
  | _ => False
theorem tA2_ok {P : PG} {nL : Nat} {F : Nat → Nat → Int → Int → Mem → Po → Prop} (h : ∀ (s n : Nat) (a : Int) (b : Int) (μ : Mem) (Post : Po) (G : Kt), oh_Cl P Post G → n < oh_cnt s → oh_rgI a → oh_rgI b → oh_wfM μ → F s n a b μ Post → oh_ent [oR s n, oI a, oI b] nL (fun ls => G 0 ls [] μ)) : oh_Ok P nL (tA2 F) := by
  intro as μ Post G hG hw hM hT
  unfold tA2 at hT
  split at hT
  · exact h _ _ _ _ _ _ _ hG (hw (Sum.inr (Sum.inr (Sum.inl (_, _)))) List.mem_cons_self) (hw (Sum.inl _) (by simp)) (hw (Sum.inl _) (by simp)) hM hT
  · exact hT.elim
def tA3 (F : Nat → Nat → Int → Int → Int → Mem → Po → Prop) : Tr := fun as μ Post => match as with
  | [Sum.inr (Sum.inr (Sum.inl (s, n))), Sum.inl a, Sum.inl b, Sum.inl c] => F s n a b c μ Post
  | _ => False
theorem tA3_ok {P : PG} {nL : Nat} {F : Nat → Nat → Int → Int → Int → Mem → Po → Prop} (h : ∀ (s n : Nat) (a : Int) (b : Int) (c : Int) (μ : Mem) (Post : Po) (G : Kt), oh_Cl P Post G → n < oh_cnt s → oh_rgI a → oh_rgI b → oh_rgI c → oh_wfM μ → F s n a b c μ Post → oh_ent [oR s n, oI a, oI b, oI c] nL (fun ls => G 0 ls [] μ)) : oh_Ok P nL (tA3 F) := by
  intro as μ Post G hG hw hM hT
  unfold tA3 at hT
  split at hT
  · exact h _ _ _ _ _ _ _ _ hG (hw (Sum.inr (Sum.inr (Sum.inl (_, _)))) List.mem_cons_self) (hw (Sum.inl _) (by simp)) (hw (Sum.inl _) (by simp)) (hw (Sum.inl _) (by simp)) hM hT
  · exact hT.elim
