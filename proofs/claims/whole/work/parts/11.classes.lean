/-! WHAT THE CLASSES' TABLES HAVE, by program: places of the tables' words -/
theorem oh_at {w : Cond} (i : Nat) (h : lw_tbl[i]? = some w) (hg : goodWord w = true) : w ∈ oh_tbl := List.mem_filter.mpr ⟨List.mem_of_getElem? h, hg⟩
theorem oh_uws {C : String} {T : u_T} {N : Nat} (ix : List Nat) (h : ∀ k, k < N → lw_tbl[oh_nth ix k 0]? = some (u_lay C T k) ∧ goodWord (u_lay C T k) = true) : ∀ w ∈ u_ws C T N, w ∈ oh_tbl := by
  intro w hw
  obtain ⟨k, hk, rfl⟩ := List.mem_map.mp hw
  obtain ⟨h1, h2⟩ := h k (List.mem_range.mp hk)
  exact oh_at _ h1 h2
theorem oh_fl_of {own : String} {fl : List (Nat × Nat × Nat × Int)} (h : ∀ q ∈ fl, oh_FOK own q.1 q.2.1 q.2.2.1 q.2.2.2) : ∀ idx s0 k o, oh_look fl idx = some (s0, k, o) → oh_FOK own idx s0 k o := fun _ _ _ _ hl => h _ (oh_look_mem hl)
theorem u_X0 : ∀ w ∈ u_ws RX0 TX0 9, w ∈ oh_tbl := oh_uws [141, 143, 145, 147, 149, 151, 153, 155, 157] (by decide +kernel)
theorem tz_X0 : ∀ k, k < 9 → ((oh_ft 0 k).1 = 0 → tyX0 k = .int ∧ (TX0 k).2.2.2 = false) ∧ ((oh_ft 0 k).1 = 1 → tyX0 k = .boolean ∧ (TX0 k).2.2.2 = false) := by decide +kernel
theorem fok_X0 {own : String} {idx k : Nat} {o : Int} (h1 : o = (k : Int)) (h2 : k < 9) (hl : Cond.fieldLink own idx (TX0 k).1 (TX0 k).2.1 (TX0 k).2.2.1 ∈ oh_tbl) : oh_FOK own idx 0 k o := ⟨h1, h2, rfl, RX0, TX0, tyX0, rfl, u_X0, tyX0_ok, nmX0, hl, (tz_X0 k h2).1, (tz_X0 k h2).2⟩
theorem u_X1 : ∀ w ∈ u_ws RX1 TX1 1, w ∈ oh_tbl := oh_uws [116] (by decide +kernel)
theorem tz_X1 : ∀ k, k < 1 → ((oh_ft 7 k).1 = 0 → tyX1 k = .int ∧ (TX1 k).2.2.2 = false) ∧ ((oh_ft 7 k).1 = 1 → tyX1 k = .boolean ∧ (TX1 k).2.2.2 = false) := by decide +kernel
theorem fok_X1 {own : String} {idx k : Nat} {o : Int} (h1 : o = (k : Int)) (h2 : k < 1) (hl : Cond.fieldLink own idx (TX1 k).1 (TX1 k).2.1 (TX1 k).2.2.1 ∈ oh_tbl) : oh_FOK own idx 7 k o := ⟨h1, h2, rfl, RX1, TX1, tyX1, rfl, u_X1, tyX1_ok, nmX1, hl, (tz_X1 k h2).1, (tz_X1 k h2).2⟩
theorem u_X2 : ∀ w ∈ u_ws RX2 TX2 3, w ∈ oh_tbl := oh_uws [173, 175, 177] (by decide +kernel)
theorem tz_X2 : ∀ k, k < 3 → ((oh_ft 9 k).1 = 0 → tyX2 k = .int ∧ (TX2 k).2.2.2 = false) ∧ ((oh_ft 9 k).1 = 1 → tyX2 k = .boolean ∧ (TX2 k).2.2.2 = false) := by decide +kernel
theorem fok_X2 {own : String} {idx k : Nat} {o : Int} (h1 : o = (k : Int)) (h2 : k < 3) (hl : Cond.fieldLink own idx (TX2 k).1 (TX2 k).2.1 (TX2 k).2.2.1 ∈ oh_tbl) : oh_FOK own idx 9 k o := ⟨h1, h2, rfl, RX2, TX2, tyX2, rfl, u_X2, tyX2_ok, nmX2, hl, (tz_X2 k h2).1, (tz_X2 k h2).2⟩
theorem u_X3 : ∀ w ∈ u_ws RX3 TX3 7, w ∈ oh_tbl := oh_uws [93, 95, 97, 99, 101, 103, 105] (by decide +kernel)
theorem tz_X3 : ∀ k, k < 7 → ((oh_ft 11 k).1 = 0 → tyX3 k = .int ∧ (TX3 k).2.2.2 = false) ∧ ((oh_ft 11 k).1 = 1 → tyX3 k = .boolean ∧ (TX3 k).2.2.2 = false) := by decide +kernel
theorem fok_X3 {own : String} {idx k : Nat} {o : Int} (h1 : o = (k : Int)) (h2 : k < 7) (hl : Cond.fieldLink own idx (TX3 k).1 (TX3 k).2.1 (TX3 k).2.2.1 ∈ oh_tbl) : oh_FOK own idx 11 k o := ⟨h1, h2, rfl, RX3, TX3, tyX3, rfl, u_X3, tyX3_ok, nmX3, hl, (tz_X3 k h2).1, (tz_X3 k h2).2⟩
theorem u_X4 : ∀ w ∈ u_ws RX4 TX4 15, w ∈ oh_tbl := oh_uws [195, 197, 199, 201, 203, 205, 207, 209, 211, 213, 215, 217, 219, 221, 223] (by decide +kernel)
theorem tz_X4 : ∀ k, k < 15 → ((oh_ft 13 k).1 = 0 → tyX4 k = .int ∧ (TX4 k).2.2.2 = false) ∧ ((oh_ft 13 k).1 = 1 → tyX4 k = .boolean ∧ (TX4 k).2.2.2 = false) := by decide +kernel
theorem fok_X4 {own : String} {idx k : Nat} {o : Int} (h1 : o = (k : Int)) (h2 : k < 15) (hl : Cond.fieldLink own idx (TX4 k).1 (TX4 k).2.1 (TX4 k).2.2.1 ∈ oh_tbl) : oh_FOK own idx 13 k o := ⟨h1, h2, rfl, RX4, TX4, tyX4, rfl, u_X4, tyX4_ok, nmX4, hl, (tz_X4 k h2).1, (tz_X4 k h2).2⟩
theorem u_X5 : ∀ w ∈ u_ws RX5 TX5 25, w ∈ oh_tbl := oh_uws [714, 716, 718, 720, 722, 724, 726, 728, 730, 732, 734, 736, 738, 740, 742, 744, 746, 748, 750, 752, 754, 756, 758, 760, 762] (by decide +kernel)
theorem tz_X5 : ∀ k, k < 25 → ((oh_ft 22 k).1 = 0 → tyX5 k = .int ∧ (TX5 k).2.2.2 = false) ∧ ((oh_ft 22 k).1 = 1 → tyX5 k = .boolean ∧ (TX5 k).2.2.2 = false) := by decide +kernel
theorem fok_X5 {own : String} {idx k : Nat} {o : Int} (h1 : o = (k : Int)) (h2 : k < 25) (hl : Cond.fieldLink own idx (TX5 k).1 (TX5 k).2.1 (TX5 k).2.2.1 ∈ oh_tbl) : oh_FOK own idx 22 k o := ⟨h1, h2, rfl, RX5, TX5, tyX5, rfl, u_X5, tyX5_ok, nmX5, hl, (tz_X5 k h2).1, (tz_X5 k h2).2⟩
theorem fk_X0 : ∀ q ∈ fl_X0, oh_FOK RX0 q.1 q.2.1 q.2.2.1 q.2.2.2 := List.forall_mem_cons.mpr ⟨fok_X0 (k := 0) rfl (by decide) (oh_at 126 (by decide +kernel) rfl), List.forall_mem_cons.mpr ⟨fok_X0 (k := 1) rfl (by decide) (oh_at 127 (by decide +kernel) rfl), List.forall_mem_cons.mpr ⟨fok_X0 (k := 2) rfl (by decide) (oh_at 129 (by decide +kernel) rfl), List.forall_mem_cons.mpr ⟨fok_X0 (k := 3) rfl (by decide) (oh_at 131 (by decide +kernel) rfl), List.forall_mem_cons.mpr ⟨fok_X0 (k := 4) rfl (by decide) (oh_at 133 (by decide +kernel) rfl), List.forall_mem_cons.mpr ⟨fok_X0 (k := 5) rfl (by decide) (oh_at 135 (by decide +kernel) rfl), List.forall_mem_cons.mpr ⟨fok_X0 (k := 6) rfl (by decide) (oh_at 136 (by decide +kernel) rfl), List.forall_mem_cons.mpr ⟨fok_X0 (k := 8) rfl (by decide) (oh_at 139 (by decide +kernel) rfl), List.forall_mem_cons.mpr ⟨fok_X0 (k := 7) rfl (by decide) (oh_at 137 (by decide +kernel) rfl), (fun _ h => nomatch h)⟩⟩⟩⟩⟩⟩⟩⟩⟩
theorem fk_X1 : ∀ q ∈ fl_X1, oh_FOK RX1 q.1 q.2.1 q.2.2.1 q.2.2.2 := List.forall_mem_cons.mpr ⟨fok_X1 (k := 0) rfl (by decide) (oh_at 115 (by decide +kernel) rfl), (fun _ h => nomatch h)⟩
theorem fk_X2 : ∀ q ∈ fl_X2, oh_FOK RX2 q.1 q.2.1 q.2.2.1 q.2.2.2 := List.forall_mem_cons.mpr ⟨fok_X2 (k := 0) rfl (by decide) (oh_at 167 (by decide +kernel) rfl), List.forall_mem_cons.mpr ⟨fok_X2 (k := 2) rfl (by decide) (oh_at 171 (by decide +kernel) rfl), List.forall_mem_cons.mpr ⟨fok_X2 (k := 1) rfl (by decide) (oh_at 169 (by decide +kernel) rfl), (fun _ h => nomatch h)⟩⟩⟩
theorem fk_X3 : ∀ q ∈ fl_X3, oh_FOK RX3 q.1 q.2.1 q.2.2.1 q.2.2.2 := List.forall_mem_cons.mpr ⟨fok_X3 (k := 0) rfl (by decide) (oh_at 85 (by decide +kernel) rfl), List.forall_mem_cons.mpr ⟨fok_X3 (k := 1) rfl (by decide) (oh_at 86 (by decide +kernel) rfl), List.forall_mem_cons.mpr ⟨fok_X3 (k := 2) rfl (by decide) (oh_at 87 (by decide +kernel) rfl), List.forall_mem_cons.mpr ⟨fok_X3 (k := 3) rfl (by decide) (oh_at 88 (by decide +kernel) rfl), List.forall_mem_cons.mpr ⟨fok_X3 (k := 4) rfl (by decide) (oh_at 89 (by decide +kernel) rfl), List.forall_mem_cons.mpr ⟨fok_X3 (k := 6) rfl (by decide) (oh_at 92 (by decide +kernel) rfl), List.forall_mem_cons.mpr ⟨fok_X3 (k := 5) rfl (by decide) (oh_at 90 (by decide +kernel) rfl), (fun _ h => nomatch h)⟩⟩⟩⟩⟩⟩⟩
theorem fk_X4 : ∀ q ∈ fl_X4, oh_FOK RX4 q.1 q.2.1 q.2.2.1 q.2.2.2 := List.forall_mem_cons.mpr ⟨fok_X4 (k := 0) rfl (by decide) (oh_at 180 (by decide +kernel) rfl), List.forall_mem_cons.mpr ⟨fok_X4 (k := 1) rfl (by decide) (oh_at 181 (by decide +kernel) rfl), List.forall_mem_cons.mpr ⟨fok_X4 (k := 2) rfl (by decide) (oh_at 182 (by decide +kernel) rfl), List.forall_mem_cons.mpr ⟨fok_X4 (k := 3) rfl (by decide) (oh_at 183 (by decide +kernel) rfl), List.forall_mem_cons.mpr ⟨fok_X4 (k := 4) rfl (by decide) (oh_at 184 (by decide +kernel) rfl), List.forall_mem_cons.mpr ⟨fok_X4 (k := 5) rfl (by decide) (oh_at 185 (by decide +kernel) rfl), List.forall_mem_cons.mpr ⟨fok_X4 (k := 6) rfl (by decide) (oh_at 186 (by decide +kernel) rfl), List.forall_mem_cons.mpr ⟨fok_X4 (k := 7) rfl (by decide) (oh_at 187 (by decide +kernel) rfl), List.forall_mem_cons.mpr ⟨fok_X4 (k := 8) rfl (by decide) (oh_at 188 (by decide +kernel) rfl), List.forall_mem_cons.mpr ⟨fok_X4 (k := 9) rfl (by decide) (oh_at 189 (by decide +kernel) rfl), List.forall_mem_cons.mpr ⟨fok_X4 (k := 10) rfl (by decide) (oh_at 190 (by decide +kernel) rfl), List.forall_mem_cons.mpr ⟨fok_X4 (k := 11) rfl (by decide) (oh_at 191 (by decide +kernel) rfl), List.forall_mem_cons.mpr ⟨fok_X3 (k := 5) rfl (by decide) (oh_at 91 (by decide +kernel) rfl), List.forall_mem_cons.mpr ⟨fok_X4 (k := 13) rfl (by decide) (oh_at 193 (by decide +kernel) rfl), List.forall_mem_cons.mpr ⟨fok_X2 (k := 2) rfl (by decide) (oh_at 172 (by decide +kernel) rfl), List.forall_mem_cons.mpr ⟨fok_X2 (k := 0) rfl (by decide) (oh_at 168 (by decide +kernel) rfl), List.forall_mem_cons.mpr ⟨fok_X0 (k := 1) rfl (by decide) (oh_at 128 (by decide +kernel) rfl), List.forall_mem_cons.mpr ⟨fok_X0 (k := 2) rfl (by decide) (oh_at 130 (by decide +kernel) rfl), List.forall_mem_cons.mpr ⟨fok_X0 (k := 3) rfl (by decide) (oh_at 132 (by decide +kernel) rfl), List.forall_mem_cons.mpr ⟨fok_X0 (k := 4) rfl (by decide) (oh_at 134 (by decide +kernel) rfl), List.forall_mem_cons.mpr ⟨fok_X4 (k := 12) rfl (by decide) (oh_at 192 (by decide +kernel) rfl), List.forall_mem_cons.mpr ⟨fok_X4 (k := 14) rfl (by decide) (oh_at 194 (by decide +kernel) rfl), List.forall_mem_cons.mpr ⟨fok_X2 (k := 1) rfl (by decide) (oh_at 170 (by decide +kernel) rfl), List.forall_mem_cons.mpr ⟨fok_X0 (k := 7) rfl (by decide) (oh_at 138 (by decide +kernel) rfl), List.forall_mem_cons.mpr ⟨fok_X0 (k := 8) rfl (by decide) (oh_at 140 (by decide +kernel) rfl), (fun _ h => nomatch h)⟩⟩⟩⟩⟩⟩⟩⟩⟩⟩⟩⟩⟩⟩⟩⟩⟩⟩⟩⟩⟩⟩⟩⟩⟩
theorem fk_X5 : ∀ q ∈ fl_X5, oh_FOK RX5 q.1 q.2.1 q.2.2.1 q.2.2.2 := List.forall_mem_cons.mpr ⟨fok_X5 (k := 0) rfl (by decide) (oh_at 689 (by decide +kernel) rfl), List.forall_mem_cons.mpr ⟨fok_X5 (k := 1) rfl (by decide) (oh_at 690 (by decide +kernel) rfl), List.forall_mem_cons.mpr ⟨fok_X5 (k := 2) rfl (by decide) (oh_at 691 (by decide +kernel) rfl), List.forall_mem_cons.mpr ⟨fok_X5 (k := 3) rfl (by decide) (oh_at 692 (by decide +kernel) rfl), List.forall_mem_cons.mpr ⟨fok_X5 (k := 5) rfl (by decide) (oh_at 694 (by decide +kernel) rfl), List.forall_mem_cons.mpr ⟨fok_X5 (k := 6) rfl (by decide) (oh_at 695 (by decide +kernel) rfl), List.forall_mem_cons.mpr ⟨fok_X5 (k := 9) rfl (by decide) (oh_at 698 (by decide +kernel) rfl), List.forall_mem_cons.mpr ⟨fok_X5 (k := 10) rfl (by decide) (oh_at 699 (by decide +kernel) rfl), List.forall_mem_cons.mpr ⟨fok_X5 (k := 12) rfl (by decide) (oh_at 701 (by decide +kernel) rfl), List.forall_mem_cons.mpr ⟨fok_X5 (k := 14) rfl (by decide) (oh_at 703 (by decide +kernel) rfl), List.forall_mem_cons.mpr ⟨fok_X5 (k := 15) rfl (by decide) (oh_at 704 (by decide +kernel) rfl), List.forall_mem_cons.mpr ⟨fok_X5 (k := 16) rfl (by decide) (oh_at 705 (by decide +kernel) rfl), List.forall_mem_cons.mpr ⟨fok_X5 (k := 17) rfl (by decide) (oh_at 706 (by decide +kernel) rfl), List.forall_mem_cons.mpr ⟨fok_X5 (k := 18) rfl (by decide) (oh_at 707 (by decide +kernel) rfl), List.forall_mem_cons.mpr ⟨fok_X5 (k := 19) rfl (by decide) (oh_at 708 (by decide +kernel) rfl), List.forall_mem_cons.mpr ⟨fok_X5 (k := 20) rfl (by decide) (oh_at 709 (by decide +kernel) rfl), List.forall_mem_cons.mpr ⟨fok_X5 (k := 21) rfl (by decide) (oh_at 710 (by decide +kernel) rfl), List.forall_mem_cons.mpr ⟨fok_X5 (k := 22) rfl (by decide) (oh_at 711 (by decide +kernel) rfl), List.forall_mem_cons.mpr ⟨fok_X5 (k := 24) rfl (by decide) (oh_at 713 (by decide +kernel) rfl), List.forall_mem_cons.mpr ⟨fok_X5 (k := 4) rfl (by decide) (oh_at 693 (by decide +kernel) rfl), List.forall_mem_cons.mpr ⟨fok_X5 (k := 7) rfl (by decide) (oh_at 696 (by decide +kernel) rfl), List.forall_mem_cons.mpr ⟨fok_X5 (k := 8) rfl (by decide) (oh_at 697 (by decide +kernel) rfl), List.forall_mem_cons.mpr ⟨fok_X5 (k := 11) rfl (by decide) (oh_at 700 (by decide +kernel) rfl), List.forall_mem_cons.mpr ⟨fok_X5 (k := 13) rfl (by decide) (oh_at 702 (by decide +kernel) rfl), List.forall_mem_cons.mpr ⟨fok_X5 (k := 23) rfl (by decide) (oh_at 712 (by decide +kernel) rfl), (fun _ h => nomatch h)⟩⟩⟩⟩⟩⟩⟩⟩⟩⟩⟩⟩⟩⟩⟩⟩⟩⟩⟩⟩⟩⟩⟩⟩⟩
theorem ci_X0 : ∀ q ∈ cs_X0, q.1 < 100000 → oh_rgI q.2 ∧ Cond.constant RX0 q.1 (Int32.ofInt q.2) ∈ oh_tbl := by
  intro q hq hk
  simp only [cs_X0, List.mem_cons, List.not_mem_nil, or_false] at hq
  

theorem cl_X0 : ∀ q ∈ cs_X0, ∀ k, q.1 = k + 100000 → oh_rgL q.2 ∧ Cond.constantLong RX0 k (Int64.ofInt q.2) ∈ oh_tbl := by
  intro q hq k hk
  simp only [cs_X0, List.mem_cons, List.not_mem_nil, or_false] at hq
  

theorem ci_X1 : ∀ q ∈ cs_X1, q.1 < 100000 → oh_rgI q.2 ∧ Cond.constant RX1 q.1 (Int32.ofInt q.2) ∈ oh_tbl := by
  intro q hq hk
  simp only [cs_X1, List.mem_cons, List.not_mem_nil, or_false] at hq
  

theorem cl_X1 : ∀ q ∈ cs_X1, ∀ k, q.1 = k + 100000 → oh_rgL q.2 ∧ Cond.constantLong RX1 k (Int64.ofInt q.2) ∈ oh_tbl := by
  intro q hq k hk
  simp only [cs_X1, List.mem_cons, List.not_mem_nil, or_false] at hq
  

theorem ci_X2 : ∀ q ∈ cs_X2, q.1 < 100000 → oh_rgI q.2 ∧ Cond.constant RX2 q.1 (Int32.ofInt q.2) ∈ oh_tbl := by
  intro q hq hk
  simp only [cs_X2, List.mem_cons, List.not_mem_nil, or_false] at hq
  

theorem cl_X2 : ∀ q ∈ cs_X2, ∀ k, q.1 = k + 100000 → oh_rgL q.2 ∧ Cond.constantLong RX2 k (Int64.ofInt q.2) ∈ oh_tbl := by
  intro q hq k hk
  simp only [cs_X2, List.mem_cons, List.not_mem_nil, or_false] at hq
  

theorem ci_X3 : ∀ q ∈ cs_X3, q.1 < 100000 → oh_rgI q.2 ∧ Cond.constant RX3 q.1 (Int32.ofInt q.2) ∈ oh_tbl := by
  intro q hq hk
  simp only [cs_X3, List.mem_cons, List.not_mem_nil, or_false] at hq
  

theorem cl_X3 : ∀ q ∈ cs_X3, ∀ k, q.1 = k + 100000 → oh_rgL q.2 ∧ Cond.constantLong RX3 k (Int64.ofInt q.2) ∈ oh_tbl := by
  intro q hq k hk
  simp only [cs_X3, List.mem_cons, List.not_mem_nil, or_false] at hq
  

theorem ci_X4 : ∀ q ∈ cs_X4, q.1 < 100000 → oh_rgI q.2 ∧ Cond.constant RX4 q.1 (Int32.ofInt q.2) ∈ oh_tbl := by
  intro q hq hk
  simp only [cs_X4, List.mem_cons, List.not_mem_nil, or_false] at hq
  rcases hq with rfl | rfl | rfl
  · exact ⟨⟨by decide, by decide⟩, oh_at 624 (by decide +kernel) rfl⟩
  · exact absurd hk (by decide)
  · exact absurd hk (by decide)

theorem cl_X4 : ∀ q ∈ cs_X4, ∀ k, q.1 = k + 100000 → oh_rgL q.2 ∧ Cond.constantLong RX4 k (Int64.ofInt q.2) ∈ oh_tbl := by
  intro q hq k hk
  simp only [cs_X4, List.mem_cons, List.not_mem_nil, or_false] at hq
  rcases hq with rfl | rfl | rfl
  · exact absurd hk (by show ¬ 228 = k + 100000; omega)
  · have e : k = 250 := by have hk : 100250 = k + 100000 := hk; omega
    subst e
    exact ⟨⟨by decide, by decide⟩, oh_at 651 (by decide +kernel) rfl⟩
  · have e : k = 293 := by have hk : 100293 = k + 100000 := hk; omega
    subst e
    exact ⟨⟨by decide, by decide⟩, oh_at 656 (by decide +kernel) rfl⟩

theorem ci_X5 : ∀ q ∈ cs_X5, q.1 < 100000 → oh_rgI q.2 ∧ Cond.constant RX5 q.1 (Int32.ofInt q.2) ∈ oh_tbl := by
  intro q hq hk
  simp only [cs_X5, List.mem_cons, List.not_mem_nil, or_false] at hq
  rcases hq with rfl | rfl | rfl | rfl | rfl | rfl | rfl | rfl | rfl | rfl | rfl
  · exact absurd hk (by decide)
  · exact absurd hk (by decide)
  · exact ⟨⟨by decide, by decide⟩, oh_at 801 (by decide +kernel) rfl⟩
  · exact absurd hk (by decide)
  · exact absurd hk (by decide)
  · exact absurd hk (by decide)
  · exact absurd hk (by decide)
  · exact absurd hk (by decide)
  · exact absurd hk (by decide)
  · exact absurd hk (by decide)
  · exact absurd hk (by decide)

theorem cl_X5 : ∀ q ∈ cs_X5, ∀ k, q.1 = k + 100000 → oh_rgL q.2 ∧ Cond.constantLong RX5 k (Int64.ofInt q.2) ∈ oh_tbl := by
  intro q hq k hk
  simp only [cs_X5, List.mem_cons, List.not_mem_nil, or_false] at hq
  rcases hq with rfl | rfl | rfl | rfl | rfl | rfl | rfl | rfl | rfl | rfl | rfl
  · have e : k = 76 := by have hk : 100076 = k + 100000 := hk; omega
    subst e
    exact ⟨⟨by decide, by decide⟩, oh_at 773 (by decide +kernel) rfl⟩
  · have e : k = 82 := by have hk : 100082 = k + 100000 := hk; omega
    subst e
    exact ⟨⟨by decide, by decide⟩, oh_at 777 (by decide +kernel) rfl⟩
  · exact absurd hk (by show ¬ 96 = k + 100000; omega)
  · have e : k = 100 := by have hk : 100100 = k + 100000 := hk; omega
    subst e
    exact ⟨⟨by decide, by decide⟩, oh_at 813 (by decide +kernel) rfl⟩
  · have e : k = 141 := by have hk : 100141 = k + 100000 := hk; omega
    subst e
    exact ⟨⟨by decide, by decide⟩, oh_at 873 (by decide +kernel) rfl⟩
  · have e : k = 143 := by have hk : 100143 = k + 100000 := hk; omega
    subst e
    exact ⟨⟨by decide, by decide⟩, oh_at 882 (by decide +kernel) rfl⟩
  · have e : k = 151 := by have hk : 100151 = k + 100000 := hk; omega
    subst e
    exact ⟨⟨by decide, by decide⟩, oh_at 874 (by decide +kernel) rfl⟩
  · have e : k = 214 := by have hk : 100214 = k + 100000 := hk; omega
    subst e
    exact ⟨⟨by decide, by decide⟩, oh_at 1001 (by decide +kernel) rfl⟩
  · have e : k = 258 := by have hk : 100258 = k + 100000 := hk; omega
    subst e
    exact ⟨⟨by decide, by decide⟩, oh_at 1092 (by decide +kernel) rfl⟩
  · have e : k = 269 := by have hk : 100269 = k + 100000 := hk; omega
    subst e
    exact ⟨⟨by decide, by decide⟩, oh_at 1126 (by decide +kernel) rfl⟩
  · have e : k = 271 := by have hk : 100271 = k + 100000 := hk; omega
    subst e
    exact ⟨⟨by decide, by decide⟩, oh_at 1125 (by decide +kernel) rfl⟩

theorem ci_J6 : ∀ q ∈ cs_J6, q.1 < 100000 → oh_rgI q.2 ∧ Cond.constant RJ6 q.1 (Int32.ofInt q.2) ∈ oh_tbl := by
  intro q hq hk
  simp only [cs_J6, List.mem_cons, List.not_mem_nil, or_false] at hq
  rcases hq with rfl | rfl | rfl
  · exact ⟨⟨by decide, by decide⟩, oh_at 493 (by decide +kernel) rfl⟩
  · exact ⟨⟨by decide, by decide⟩, oh_at 494 (by decide +kernel) rfl⟩
  · exact ⟨⟨by decide, by decide⟩, oh_at 495 (by decide +kernel) rfl⟩

theorem cl_J6 : ∀ q ∈ cs_J6, ∀ k, q.1 = k + 100000 → oh_rgL q.2 ∧ Cond.constantLong RJ6 k (Int64.ofInt q.2) ∈ oh_tbl := by
  intro q hq k hk
  simp only [cs_J6, List.mem_cons, List.not_mem_nil, or_false] at hq
  rcases hq with rfl | rfl | rfl
  · exact absurd hk (by show ¬ 265 = k + 100000; omega)
  · exact absurd hk (by show ¬ 266 = k + 100000; omega)
  · exact absurd hk (by show ¬ 267 = k + 100000; omega)

theorem kf_X0 : oh_KF RX0 fl_X0 cs_X0 ks_X0 := ⟨oh_fl_of fk_X0, fun k v hk h => ci_X0 _ (oh_look_mem h) hk, fun k v h => cl_X0 _ (oh_look_mem h) k rfl, fun idx k h => by
    have h := oh_look_mem h
    simp only [ks_X0, List.mem_cons, List.not_mem_nil, or_false] at h
    rcases h with h
    cases h
    exact Or.inl ⟨rfl, Or.inr (by decide +kernel)⟩
⟩
theorem kf_X1 : oh_KF RX1 fl_X1 cs_X1 ks_X1 := ⟨oh_fl_of fk_X1, fun k v hk h => ci_X1 _ (oh_look_mem h) hk, fun k v h => cl_X1 _ (oh_look_mem h) k rfl, fun idx k h => (nomatch (oh_look_mem h))⟩
theorem kf_X2 : oh_KF RX2 fl_X2 cs_X2 ks_X2 := ⟨oh_fl_of fk_X2, fun k v hk h => ci_X2 _ (oh_look_mem h) hk, fun k v h => cl_X2 _ (oh_look_mem h) k rfl, fun idx k h => (nomatch (oh_look_mem h))⟩
theorem kf_X3 : oh_KF RX3 fl_X3 cs_X3 ks_X3 := ⟨oh_fl_of fk_X3, fun k v hk h => ci_X3 _ (oh_look_mem h) hk, fun k v h => cl_X3 _ (oh_look_mem h) k rfl, fun idx k h => (nomatch (oh_look_mem h))⟩
theorem kf_X4 : oh_KF RX4 fl_X4 cs_X4 ks_X4 := ⟨oh_fl_of fk_X4, fun k v hk h => ci_X4 _ (oh_look_mem h) hk, fun k v h => cl_X4 _ (oh_look_mem h) k rfl, fun idx k h => by
    have h := oh_look_mem h
    simp only [ks_X4, List.mem_cons, List.not_mem_nil, or_false] at h
    rcases h with h
    cases h
    exact Or.inr ⟨rfl, Or.inl (oh_at 665 (by decide +kernel) rfl)⟩
⟩
theorem kf_X5 : oh_KF RX5 fl_X5 cs_X5 ks_X5 := ⟨oh_fl_of fk_X5, fun k v hk h => ci_X5 _ (oh_look_mem h) hk, fun k v h => cl_X5 _ (oh_look_mem h) k rfl, fun idx k h => (nomatch (oh_look_mem h))⟩
theorem kf_J6 : oh_KF RJ6 [] cs_J6 [] := ⟨fun _ _ _ _ h => (nomatch (oh_look_mem h)), fun k v hk h => ci_J6 _ (oh_look_mem h) hk, fun k v h => cl_J6 _ (oh_look_mem h) k rfl, fun _ _ h => (nomatch (oh_look_mem h))⟩
theorem kf_0 (own : String) : oh_KF own [] [] [] := ⟨fun _ _ _ _ h => (nomatch (oh_look_mem h)), fun _ _ _ h => (nomatch (oh_look_mem h)), fun _ _ h => (nomatch (oh_look_mem h)), fun _ _ h => (nomatch (oh_look_mem h))⟩
