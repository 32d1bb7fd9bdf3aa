/-! THE CONSTRUCTORS: walks written by program -/
def zA (N : Nat) : vp_A := oh_ar N (fun _ => 0)
def dfX0 : List Value := [.int 0, .null, .null, .null, .null, .null, .null, .int 0, .int 0]
theorem dfX0_ok : ∀ j, j < 9 → defaultValue (tyX0 j) = vp_V dfX0 j
  | 0, _ => rfl
  | 1, _ => rfl
  | 2, _ => rfl
  | 3, _ => rfl
  | 4, _ => rfl
  | 5, _ => rfl
  | 6, _ => rfl
  | 7, _ => rfl
  | 8, _ => rfl
  | _ + 9, h => absurd h (by omega)
def dfX1 : List Value := [.null]
theorem dfX1_ok : ∀ j, j < 1 → defaultValue (tyX1 j) = vp_V dfX1 j
  | 0, _ => rfl
  | _ + 1, h => absurd h (by omega)
def dfX2 : List Value := [.null, .int 0, .int 0]
theorem dfX2_ok : ∀ j, j < 3 → defaultValue (tyX2 j) = vp_V dfX2 j
  | 0, _ => rfl
  | 1, _ => rfl
  | 2, _ => rfl
  | _ + 3, h => absurd h (by omega)
def dfX3 : List Value := [.null, .int 0, .int 0, .int 0, .int 0, .int 0, .int 0]
theorem dfX3_ok : ∀ j, j < 7 → defaultValue (tyX3 j) = vp_V dfX3 j
  | 0, _ => rfl
  | 1, _ => rfl
  | 2, _ => rfl
  | 3, _ => rfl
  | 4, _ => rfl
  | 5, _ => rfl
  | 6, _ => rfl
  | _ + 7, h => absurd h (by omega)
def dfX4 : List Value := [.null, .null, .null, .null, .null, .null, .null, .null, .null, .null, .null, .null, .int 0, .int 0, .int 0]
theorem dfX4_ok : ∀ j, j < 15 → defaultValue (tyX4 j) = vp_V dfX4 j
  | 0, _ => rfl
  | 1, _ => rfl
  | 2, _ => rfl
  | 3, _ => rfl
  | 4, _ => rfl
  | 5, _ => rfl
  | 6, _ => rfl
  | 7, _ => rfl
  | 8, _ => rfl
  | 9, _ => rfl
  | 10, _ => rfl
  | 11, _ => rfl
  | 12, _ => rfl
  | 13, _ => rfl
  | 14, _ => rfl
  | _ + 15, h => absurd h (by omega)
def dfX5 : List Value := [.null, .null, .null, .null, .int 0, .null, .null, .int 0, .int 0, .null, .null, .int 0, .null, .int 0, .null, .null, .null, .null, .null, .null, .null, .null, .null, .int 0, .null]
theorem dfX5_ok : ∀ j, j < 25 → defaultValue (tyX5 j) = vp_V dfX5 j
  | 0, _ => rfl
  | 1, _ => rfl
  | 2, _ => rfl
  | 3, _ => rfl
  | 4, _ => rfl
  | 5, _ => rfl
  | 6, _ => rfl
  | 7, _ => rfl
  | 8, _ => rfl
  | 9, _ => rfl
  | 10, _ => rfl
  | 11, _ => rfl
  | 12, _ => rfl
  | 13, _ => rfl
  | 14, _ => rfl
  | 15, _ => rfl
  | 16, _ => rfl
  | 17, _ => rfl
  | 18, _ => rfl
  | 19, _ => rfl
  | 20, _ => rfl
  | 21, _ => rfl
  | 22, _ => rfl
  | 23, _ => rfl
  | 24, _ => rfl
  | _ + 25, h => absurd h (by omega)
theorem wq_62 : (.initialized RX3 : Cond) ∈ oh_tbl := oh_at 62 (by decide +kernel) rfl
theorem wq_63 : (.initialized RX1 : Cond) ∈ oh_tbl := oh_at 63 (by decide +kernel) rfl
theorem wq_64 : (.initialized RX0 : Cond) ∈ oh_tbl := oh_at 64 (by decide +kernel) rfl
theorem wq_65 : (.initialized RX2 : Cond) ∈ oh_tbl := oh_at 65 (by decide +kernel) rfl
theorem wq_76 : (.methodLink RX4 3 objectInit : Cond) ∈ oh_tbl := oh_at 76 (by decide +kernel) rfl
theorem wq_77 : (.instanceMethod objectInit : Cond) ∈ oh_tbl := oh_at 77 (by decide +kernel) rfl
theorem wq_78 : (.code objectInit ⟨#[0xb1]⟩ 1 none : Cond) ∈ oh_tbl := oh_at 78 (by decide +kernel) rfl
theorem wq_79 : (.classLink RX4 9 RX3 : Cond) ∈ oh_tbl := oh_at 79 (by decide +kernel) rfl
theorem wq_80 : (.instantiable RX3 7 : Cond) ∈ oh_tbl := oh_at 80 (by decide +kernel) rfl
theorem wq_81 : (.methodLink RX4 11 yX3_init : Cond) ∈ oh_tbl := oh_at 81 (by decide +kernel) rfl
theorem wq_82 : (.instanceMethod yX3_init : Cond) ∈ oh_tbl := oh_at 82 (by decide +kernel) rfl
theorem wq_84 : (.methodLink RX3 3 objectInit : Cond) ∈ oh_tbl := oh_at 84 (by decide +kernel) rfl
theorem wq_85 : (.fieldLink RX3 9 "OthersHours$Text" "bytes" "[I" : Cond) ∈ oh_tbl := oh_at 85 (by decide +kernel) rfl
theorem wq_86 : (.fieldLink RX3 15 "OthersHours$Text" "lead" "I" : Cond) ∈ oh_tbl := oh_at 86 (by decide +kernel) rfl
theorem wq_87 : (.fieldLink RX3 19 "OthersHours$Text" "step" "I" : Cond) ∈ oh_tbl := oh_at 87 (by decide +kernel) rfl
theorem wq_88 : (.fieldLink RX3 22 "OthersHours$Text" "lastEnd" "I" : Cond) ∈ oh_tbl := oh_at 88 (by decide +kernel) rfl
theorem wq_89 : (.fieldLink RX3 25 "OthersHours$Text" "once" "Z" : Cond) ∈ oh_tbl := oh_at 89 (by decide +kernel) rfl
theorem wq_92 : (.fieldLink RX3 29 "OthersHours$Text" "broken" "I" : Cond) ∈ oh_tbl := oh_at 92 (by decide +kernel) rfl
theorem wq_108 : (.arrayClass .int : Cond) ∈ oh_tbl := oh_at 108 (by decide +kernel) rfl
theorem wq_109 : (.classLink RX4 21 RX1 : Cond) ∈ oh_tbl := oh_at 109 (by decide +kernel) rfl
theorem wq_110 : (.instantiable RX1 1 : Cond) ∈ oh_tbl := oh_at 110 (by decide +kernel) rfl
theorem wq_111 : (.methodLink RX4 23 yX1_init : Cond) ∈ oh_tbl := oh_at 111 (by decide +kernel) rfl
theorem wq_112 : (.instanceMethod yX1_init : Cond) ∈ oh_tbl := oh_at 112 (by decide +kernel) rfl
theorem wq_114 : (.methodLink RX1 3 objectInit : Cond) ∈ oh_tbl := oh_at 114 (by decide +kernel) rfl
theorem wq_115 : (.fieldLink RX1 9 "OthersHours$Owners" "table" "[I" : Cond) ∈ oh_tbl := oh_at 115 (by decide +kernel) rfl
theorem wq_119 : (.classLink RX4 31 RX0 : Cond) ∈ oh_tbl := oh_at 119 (by decide +kernel) rfl
theorem wq_121 : (.instantiable RX0 9 : Cond) ∈ oh_tbl := oh_at 121 (by decide +kernel) rfl
theorem wq_122 : (.methodLink RX4 37 yX0_init : Cond) ∈ oh_tbl := oh_at 122 (by decide +kernel) rfl
theorem wq_123 : (.instanceMethod yX0_init : Cond) ∈ oh_tbl := oh_at 123 (by decide +kernel) rfl
theorem wq_125 : (.methodLink RX0 3 objectInit : Cond) ∈ oh_tbl := oh_at 125 (by decide +kernel) rfl
theorem wq_126 : (.fieldLink RX0 9 "OthersHours$Day" "law" "I" : Cond) ∈ oh_tbl := oh_at 126 (by decide +kernel) rfl
theorem wq_127 : (.fieldLink RX0 15 "OthersHours$Day" "actors" "[I" : Cond) ∈ oh_tbl := oh_at 127 (by decide +kernel) rfl
theorem wq_129 : (.fieldLink RX0 19 "OthersHours$Day" "deeds" "[I" : Cond) ∈ oh_tbl := oh_at 129 (by decide +kernel) rfl
theorem wq_131 : (.fieldLink RX0 22 "OthersHours$Day" "places" "[I" : Cond) ∈ oh_tbl := oh_at 131 (by decide +kernel) rfl
theorem wq_133 : (.fieldLink RX0 25 "OthersHours$Day" "tired" "[I" : Cond) ∈ oh_tbl := oh_at 133 (by decide +kernel) rfl
theorem wq_135 : (.fieldLink RX0 28 "OthersHours$Day" "rows" "[I" : Cond) ∈ oh_tbl := oh_at 135 (by decide +kernel) rfl
theorem wq_136 : (.fieldLink RX0 31 "OthersHours$Day" "rowsAhead" "[I" : Cond) ∈ oh_tbl := oh_at 136 (by decide +kernel) rfl
theorem wq_139 : (.fieldLink RX0 34 "OthersHours$Day" "stale" "Z" : Cond) ∈ oh_tbl := oh_at 139 (by decide +kernel) rfl
theorem wq_160 : (.classLink RX4 59 RX2 : Cond) ∈ oh_tbl := oh_at 160 (by decide +kernel) rfl
theorem wq_162 : (.instantiable RX2 3 : Cond) ∈ oh_tbl := oh_at 162 (by decide +kernel) rfl
theorem wq_163 : (.methodLink RX4 65 yX2_init : Cond) ∈ oh_tbl := oh_at 163 (by decide +kernel) rfl
theorem wq_164 : (.instanceMethod yX2_init : Cond) ∈ oh_tbl := oh_at 164 (by decide +kernel) rfl
theorem wq_166 : (.methodLink RX2 3 objectInit : Cond) ∈ oh_tbl := oh_at 166 (by decide +kernel) rfl
theorem wq_167 : (.fieldLink RX2 9 "OthersHours$Sheet" "items" "[I" : Cond) ∈ oh_tbl := oh_at 167 (by decide +kernel) rfl
theorem wq_171 : (.fieldLink RX2 15 "OthersHours$Sheet" "size" "I" : Cond) ∈ oh_tbl := oh_at 171 (by decide +kernel) rfl
theorem wq_180 : (.fieldLink RX4 14 "OthersHours" "grants" "LOthersHours$Text;" : Cond) ∈ oh_tbl := oh_at 180 (by decide +kernel) rfl
theorem wq_181 : (.fieldLink RX4 18 "OthersHours" "orders" "LOthersHours$Text;" : Cond) ∈ oh_tbl := oh_at 181 (by decide +kernel) rfl
theorem wq_182 : (.fieldLink RX4 24 "OthersHours" "owners" "LOthersHours$Owners;" : Cond) ∈ oh_tbl := oh_at 182 (by decide +kernel) rfl
theorem wq_183 : (.fieldLink RX4 28 "OthersHours" "supposed" "LOthersHours$Owners;" : Cond) ∈ oh_tbl := oh_at 183 (by decide +kernel) rfl
theorem wq_184 : (.fieldLink RX4 33 "OthersHours" "days" "[LOthersHours$Day;" : Cond) ∈ oh_tbl := oh_at 184 (by decide +kernel) rfl
theorem wq_185 : (.fieldLink RX4 40 "OthersHours" "homes" "[I" : Cond) ∈ oh_tbl := oh_at 185 (by decide +kernel) rfl
theorem wq_186 : (.fieldLink RX4 44 "OthersHours" "worths" "[I" : Cond) ∈ oh_tbl := oh_at 186 (by decide +kernel) rfl
theorem wq_187 : (.fieldLink RX4 47 "OthersHours" "spans" "[I" : Cond) ∈ oh_tbl := oh_at 187 (by decide +kernel) rfl
theorem wq_188 : (.fieldLink RX4 50 "OthersHours" "mates" "[I" : Cond) ∈ oh_tbl := oh_at 188 (by decide +kernel) rfl
theorem wq_189 : (.fieldLink RX4 53 "OthersHours" "seenCells" "[I" : Cond) ∈ oh_tbl := oh_at 189 (by decide +kernel) rfl
theorem wq_190 : (.fieldLink RX4 56 "OthersHours" "seenDeeds" "[I" : Cond) ∈ oh_tbl := oh_at 190 (by decide +kernel) rfl
theorem wq_191 : (.fieldLink RX4 61 "OthersHours" "sheets" "[LOthersHours$Sheet;" : Cond) ∈ oh_tbl := oh_at 191 (by decide +kernel) rfl
theorem wq_688 : (.methodLink RX5 1 objectInit : Cond) ∈ oh_tbl := oh_at 688 (by decide +kernel) rfl
theorem wq_689 : (.fieldLink RX5 7 "OthersHoursModel" "forms" "[I" : Cond) ∈ oh_tbl := oh_at 689 (by decide +kernel) rfl
theorem wq_690 : (.fieldLink RX5 13 "OthersHoursModel" "sizes" "[I" : Cond) ∈ oh_tbl := oh_at 690 (by decide +kernel) rfl
theorem wq_691 : (.fieldLink RX5 16 "OthersHoursModel" "items" "[I" : Cond) ∈ oh_tbl := oh_at 691 (by decide +kernel) rfl
theorem wq_692 : (.fieldLink RX5 19 "OthersHoursModel" "moved" "[I" : Cond) ∈ oh_tbl := oh_at 692 (by decide +kernel) rfl
theorem wq_694 : (.fieldLink RX5 22 "OthersHoursModel" "bytes" "[I" : Cond) ∈ oh_tbl := oh_at 694 (by decide +kernel) rfl
theorem wq_695 : (.fieldLink RX5 25 "OthersHoursModel" "typed" "[I" : Cond) ∈ oh_tbl := oh_at 695 (by decide +kernel) rfl
theorem wq_698 : (.fieldLink RX5 28 "OthersHoursModel" "grant" "[I" : Cond) ∈ oh_tbl := oh_at 698 (by decide +kernel) rfl
theorem wq_699 : (.fieldLink RX5 31 "OthersHoursModel" "owner" "[I" : Cond) ∈ oh_tbl := oh_at 699 (by decide +kernel) rfl
theorem wq_701 : (.fieldLink RX5 34 "OthersHoursModel" "order" "[I" : Cond) ∈ oh_tbl := oh_at 701 (by decide +kernel) rfl
theorem wq_703 : (.fieldLink RX5 37 "OthersHoursModel" "homes" "[I" : Cond) ∈ oh_tbl := oh_at 703 (by decide +kernel) rfl
theorem wq_704 : (.fieldLink RX5 40 "OthersHoursModel" "worths" "[I" : Cond) ∈ oh_tbl := oh_at 704 (by decide +kernel) rfl
theorem wq_705 : (.fieldLink RX5 43 "OthersHoursModel" "doneOrder" "[I" : Cond) ∈ oh_tbl := oh_at 705 (by decide +kernel) rfl
theorem wq_706 : (.fieldLink RX5 46 "OthersHoursModel" "isDone" "[Z" : Cond) ∈ oh_tbl := oh_at 706 (by decide +kernel) rfl
theorem wq_707 : (.fieldLink RX5 50 "OthersHoursModel" "deeds" "[I" : Cond) ∈ oh_tbl := oh_at 707 (by decide +kernel) rfl
theorem wq_708 : (.fieldLink RX5 53 "OthersHoursModel" "places" "[I" : Cond) ∈ oh_tbl := oh_at 708 (by decide +kernel) rfl
theorem wq_709 : (.fieldLink RX5 56 "OthersHoursModel" "tired" "[I" : Cond) ∈ oh_tbl := oh_at 709 (by decide +kernel) rfl
theorem wq_710 : (.fieldLink RX5 59 "OthersHoursModel" "goesOn" "[I" : Cond) ∈ oh_tbl := oh_at 710 (by decide +kernel) rfl
theorem wq_711 : (.fieldLink RX5 62 "OthersHoursModel" "pairs" "[I" : Cond) ∈ oh_tbl := oh_at 711 (by decide +kernel) rfl
theorem wq_713 : (.fieldLink RX5 65 "OthersHoursModel" "seen" "[I" : Cond) ∈ oh_tbl := oh_at 713 (by decide +kernel) rfl
theorem wq_765 : (.arrayClass .boolean : Cond) ∈ oh_tbl := oh_at 765 (by decide +kernel) rfl
theorem dX0_init_0 : decode cX0_init 0 = .ok (.aload_n 0, 1) := by decide +kernel
theorem dX0_init_1 : decode cX0_init 1 = .ok (.invokespecial 3, 3) := by decide +kernel
theorem dX0_init_4 : decode cX0_init 4 = .ok (.aload_n 0, 1) := by decide +kernel
theorem dX0_init_5 : decode cX0_init 5 = .ok (.iload_n 1, 1) := by decide +kernel
theorem dX0_init_6 : decode cX0_init 6 = .ok (.putfield 9, 3) := by decide +kernel
theorem dX0_init_9 : decode cX0_init 9 = .ok (.aload_n 0, 1) := by decide +kernel
theorem dX0_init_10 : decode cX0_init 10 = .ok (.sipush 144, 3) := by decide +kernel
theorem dX0_init_13 : decode cX0_init 13 = .ok (.newarray .int, 2) := by decide +kernel
theorem dX0_init_15 : decode cX0_init 15 = .ok (.putfield 15, 3) := by decide +kernel
theorem dX0_init_18 : decode cX0_init 18 = .ok (.aload_n 0, 1) := by decide +kernel
theorem dX0_init_19 : decode cX0_init 19 = .ok (.sipush 144, 3) := by decide +kernel
theorem dX0_init_22 : decode cX0_init 22 = .ok (.newarray .int, 2) := by decide +kernel
theorem dX0_init_24 : decode cX0_init 24 = .ok (.putfield 19, 3) := by decide +kernel
theorem dX0_init_27 : decode cX0_init 27 = .ok (.aload_n 0, 1) := by decide +kernel
theorem dX0_init_28 : decode cX0_init 28 = .ok (.sipush 144, 3) := by decide +kernel
theorem dX0_init_31 : decode cX0_init 31 = .ok (.newarray .int, 2) := by decide +kernel
theorem dX0_init_33 : decode cX0_init 33 = .ok (.putfield 22, 3) := by decide +kernel
theorem dX0_init_36 : decode cX0_init 36 = .ok (.aload_n 0, 1) := by decide +kernel
theorem dX0_init_37 : decode cX0_init 37 = .ok (.sipush 144, 3) := by decide +kernel
theorem dX0_init_40 : decode cX0_init 40 = .ok (.newarray .int, 2) := by decide +kernel
theorem dX0_init_42 : decode cX0_init 42 = .ok (.putfield 25, 3) := by decide +kernel
theorem dX0_init_45 : decode cX0_init 45 = .ok (.aload_n 0, 1) := by decide +kernel
theorem dX0_init_46 : decode cX0_init 46 = .ok (.bipush 6, 2) := by decide +kernel
theorem dX0_init_48 : decode cX0_init 48 = .ok (.newarray .int, 2) := by decide +kernel
theorem dX0_init_50 : decode cX0_init 50 = .ok (.putfield 28, 3) := by decide +kernel
theorem dX0_init_53 : decode cX0_init 53 = .ok (.aload_n 0, 1) := by decide +kernel
theorem dX0_init_54 : decode cX0_init 54 = .ok (.bipush 6, 2) := by decide +kernel
theorem dX0_init_56 : decode cX0_init 56 = .ok (.newarray .int, 2) := by decide +kernel
theorem dX0_init_58 : decode cX0_init 58 = .ok (.putfield 31, 3) := by decide +kernel
theorem dX0_init_61 : decode cX0_init 61 = .ok (.aload_n 0, 1) := by decide +kernel
theorem dX0_init_62 : decode cX0_init 62 = .ok (.iconst 1, 1) := by decide +kernel
theorem dX0_init_63 : decode cX0_init 63 = .ok (.putfield 34, 3) := by decide +kernel
theorem dX0_init_66 : decode cX0_init 66 = .ok (.return_, 1) := by decide +kernel
theorem dX2_init_0 : decode cX2_init 0 = .ok (.aload_n 0, 1) := by decide +kernel
theorem dX2_init_1 : decode cX2_init 1 = .ok (.invokespecial 3, 3) := by decide +kernel
theorem dX2_init_4 : decode cX2_init 4 = .ok (.aload_n 0, 1) := by decide +kernel
theorem dX2_init_5 : decode cX2_init 5 = .ok (.bipush 60, 2) := by decide +kernel
theorem dX2_init_7 : decode cX2_init 7 = .ok (.newarray .int, 2) := by decide +kernel
theorem dX2_init_9 : decode cX2_init 9 = .ok (.putfield 9, 3) := by decide +kernel
theorem dX2_init_12 : decode cX2_init 12 = .ok (.aload_n 0, 1) := by decide +kernel
theorem dX2_init_13 : decode cX2_init 13 = .ok (.iconst (-1), 1) := by decide +kernel
theorem dX2_init_14 : decode cX2_init 14 = .ok (.putfield 15, 3) := by decide +kernel
theorem dX2_init_17 : decode cX2_init 17 = .ok (.return_, 1) := by decide +kernel
theorem dX3_init_0 : decode cX3_init 0 = .ok (.aload_n 0, 1) := by decide +kernel
theorem dX3_init_1 : decode cX3_init 1 = .ok (.invokespecial 3, 3) := by decide +kernel
theorem dX3_init_4 : decode cX3_init 4 = .ok (.aload_n 0, 1) := by decide +kernel
theorem dX3_init_5 : decode cX3_init 5 = .ok (.bipush 99, 2) := by decide +kernel
theorem dX3_init_7 : decode cX3_init 7 = .ok (.newarray .int, 2) := by decide +kernel
theorem dX3_init_9 : decode cX3_init 9 = .ok (.putfield 9, 3) := by decide +kernel
theorem dX3_init_12 : decode cX3_init 12 = .ok (.aload_n 0, 1) := by decide +kernel
theorem dX3_init_13 : decode cX3_init 13 = .ok (.iload_n 1, 1) := by decide +kernel
theorem dX3_init_14 : decode cX3_init 14 = .ok (.putfield 15, 3) := by decide +kernel
theorem dX3_init_17 : decode cX3_init 17 = .ok (.aload_n 0, 1) := by decide +kernel
theorem dX3_init_18 : decode cX3_init 18 = .ok (.iload_n 1, 1) := by decide +kernel
theorem dX3_init_19 : decode cX3_init 19 = .ok (.iconst 4, 1) := by decide +kernel
theorem dX3_init_20 : decode cX3_init 20 = .ok (.iadd, 1) := by decide +kernel
theorem dX3_init_21 : decode cX3_init 21 = .ok (.putfield 19, 3) := by decide +kernel
theorem dX3_init_24 : decode cX3_init 24 = .ok (.aload_n 0, 1) := by decide +kernel
theorem dX3_init_25 : decode cX3_init 25 = .ok (.iload_n 2, 1) := by decide +kernel
theorem dX3_init_26 : decode cX3_init 26 = .ok (.putfield 22, 3) := by decide +kernel
theorem dX3_init_29 : decode cX3_init 29 = .ok (.aload_n 0, 1) := by decide +kernel
theorem dX3_init_30 : decode cX3_init 30 = .ok (.iload_n 3, 1) := by decide +kernel
theorem dX3_init_31 : decode cX3_init 31 = .ok (.putfield 25, 3) := by decide +kernel
theorem dX3_init_34 : decode cX3_init 34 = .ok (.aload_n 0, 1) := by decide +kernel
theorem dX3_init_35 : decode cX3_init 35 = .ok (.iconst (-1), 1) := by decide +kernel
theorem dX3_init_36 : decode cX3_init 36 = .ok (.putfield 29, 3) := by decide +kernel
theorem dX3_init_39 : decode cX3_init 39 = .ok (.return_, 1) := by decide +kernel
def wX0 (h0 : Nat) (u : (Nat → Nat) × (Nat → ClassId)) (law : Int32) : va_W := [(h0, .inr (0, [.int law, .ref (u.1 0), .ref (u.1 1), .ref (u.1 2), .ref (u.1 3), .ref (u.1 4), .ref (u.1 5), .int 0, .int 1])), (u.1 0, .inl (u.2 0, zA 144)), (u.1 1, .inl (u.2 1, zA 144)), (u.1 2, .inl (u.2 2, zA 144)), (u.1 3, .inl (u.2 3, zA 144)), (u.1 4, .inl (u.2 4, zA 6)), (u.1 5, .inl (u.2 5, zA 6))]
def tysX0 (k : Nat → ClassId) : List (ClassId × FieldType) := [(k 0, .int), (k 1, .int), (k 2, .int), (k 3, .int), (k 4, .int), (k 5, .int)]
set_option maxHeartbeats 4000000 in
set_option maxRecDepth 100000 in
theorem c_X0_init (l : Launch) (D : va_G) (h0 sz : Nat) (law : Int32) : Met l yX0_init (.code yX0_init cX0_init 2 none :: oh_tbl) { frames := 1, cells := 6, slots := 588, locals := 24 } (va_Pc [.ref h0, .int law] (fun U => U.heap.size = sz ∧ va_P D vwCl [(h0, .inr (0, dfX0))] U.heap ∧ va_K D vwCl [] U ∧ va_D (fun _ => True) [(h0, .inr (0, dfX0))])) (va_Qv (fun _ : (Nat → Nat) × (Nat → ClassId) => True) (fun u t => va_P D vwCl (wX0 h0 u (law)) t.heap ∧ va_K D vwCl (tysX0 u.2) t ∧ va_D (va_A [(h0, .inr (0, dfX0))] sz) (wX0 h0 u (law))) (va_A [(h0, .inr (0, dfX0))] sz)) 6 588 (va_A [(h0, .inr (0, dfX0))] sz) := by
  refine Met.ofW (cc := cX0_init) (maxL := 2) (ret := none) (by decide) rfl ?_
  intro p e s m args below meth c s₁ B hml hv
  obtain ⟨rfl, hsz, hP, hK, hD0⟩ := hv
  have hx := B.exec
  have hb := B.bytes
  have hr := B.returns
  have hts0 := atoms_spec (ws := .code yX0_init cX0_init 2 none :: oh_tbl) B.pre
  have hts : ∀ w ∈ oh_tbl, w.before _ s = true := fun w hw => hts0 w (List.mem_cons_of_mem _ hw)
  have hown : s.vm.findClass RX0 = some m.cls := findClass_of_methodNamed B.named
  have hlocks := B.notSynchronized
  have hin : meth.name = "<init>" := (name_of_methodNamed B.named B.method).1
  subst hsz
  have hD := hD0.self (sz := s.heap.size)
  generalize hAe : va_A [(h0, .inr (0, dfX0))] s.heap.size = A at hD ⊢
  have hA : ∀ q : Nat, s.heap.size ≤ q → A q := fun q h => by rw [← hAe]; exact Or.inr h
  have hS : va_S A s.heap s.heap [] := va_S.rf
  have hl := lv_entry ([.ref h0, .int law]) (n := 2) (Nat.le_of_ble_eq_true rfl)
  rw [lg_entry_eq]
  generalize (lg_sl ([.ref h0, .int law]) ++ List.replicate (2 - (lg_sl ([.ref h0, .int law])).length) Slot.unset).toArray = ls at hl ⊢
  have hl : lv_has ls 2 [(0, .ref h0), (1, .int law)] := hl
  have hP : va_P D vwCl [(h0, .inr (0, [.int 0, .null, .null, .null, .null, .null, .null, .int 0, .int 0]))] s.heap := hP
  have hD : va_D A [(h0, .inr (0, [.int 0, .null, .null, .null, .null, .null, .null, .int 0, .int 0]))] := hD
  have hK : va_K D vwCl [] s := hK
  refine lv_aload_n hx hb dX0_init_0 rfl (lv_at hl 0 rfl) ?_
  refine W.objInit hx hb hown (hts _ wq_125) (hts _ wq_77) (hts _ wq_78) rfl (by rw [hml]; exact hl.1) rfl dX0_init_1 (Nat.le_of_ble_eq_true rfl) (Nat.le_of_ble_eq_true rfl) ?_
  refine W.eq (g2 := F0 m 4 ls []) rfl ?_
  refine lv_aload_n hx hb dX0_init_4 rfl (lv_at hl 0 rfl) ?_
  refine lv_iload_n hx hb dX0_init_5 rfl (lv_at hl 1 rfl) ?_
  refine va_putF (D := D) (ci := 0) (v := .int law) (ty := tyX0 0) (C := RX0) (T := TX0) (N := 9) hx hb hts u_X0 tyX0 tyX0_ok nmX0 hown hK hP hD hS 0 rfl rfl 0 (by decide) (hts _ wq_126) (fun _ h9 => h9) rfl hin rfl (by decide +kernel) rfl rfl (Nat.le_of_ble_eq_true rfl) dX0_init_6 (fun H locs hP hD hS => ?_)
  have hP : va_P D vwCl [(h0, .inr (0, [.int law, .null, .null, .null, .null, .null, .null, .int 0, .int 0]))] H := hP
  have hD : va_D A [(h0, .inr (0, [.int law, .null, .null, .null, .null, .null, .null, .int 0, .int 0]))] := hD
  refine lv_aload_n hx hb dX0_init_9 rfl (lv_at hl 0 rfl) ?_
  refine lv_sipush (v := 144) hx hb dX0_init_10 (by decide) ?_
  refine va_newa (D := D) (atype := .int) (ty := .int) (a0 := zA 144) hx hb (hts _ wq_108) rfl hK hP hD hS hA (fun _ => rfl) (by decide) (by decide) (Nat.le_of_ble_eq_true rfl) (Nat.le_of_ble_eq_true rfl) (Nat.le_of_ble_eq_true rfl) dX0_init_13 (fun q1 k1 H hK hP hD hS => ?_)
  have hP : va_P D vwCl [(h0, .inr (0, [.int law, .null, .null, .null, .null, .null, .null, .int 0, .int 0])), (q1, .inl (k1, zA 144))] H := hP
  have hD : va_D A [(h0, .inr (0, [.int law, .null, .null, .null, .null, .null, .null, .int 0, .int 0])), (q1, .inl (k1, zA 144))] := hD
  have hK : va_K D vwCl [(k1, .int)] s := hK
  refine va_putF (D := D) (ci := 0) (v := .ref q1) (ty := tyX0 1) (C := RX0) (T := TX0) (N := 9) hx hb hts u_X0 tyX0 tyX0_ok nmX0 hown hK hP hD hS 0 rfl rfl 1 (by decide) (hts _ wq_127) (fun _ h9 => h9) rfl hin rfl (by decide +kernel) rfl rfl (Nat.le_of_ble_eq_true rfl) dX0_init_15 (fun H locs hP hD hS => ?_)
  have hP : va_P D vwCl [(h0, .inr (0, [.int law, .ref q1, .null, .null, .null, .null, .null, .int 0, .int 0])), (q1, .inl (k1, zA 144))] H := hP
  have hD : va_D A [(h0, .inr (0, [.int law, .ref q1, .null, .null, .null, .null, .null, .int 0, .int 0])), (q1, .inl (k1, zA 144))] := hD
  refine lv_aload_n hx hb dX0_init_18 rfl (lv_at hl 0 rfl) ?_
  refine lv_sipush (v := 144) hx hb dX0_init_19 (by decide) ?_
  refine va_newa (D := D) (atype := .int) (ty := .int) (a0 := zA 144) hx hb (hts _ wq_108) rfl hK hP hD hS hA (fun _ => rfl) (by decide) (by decide) (Nat.le_of_ble_eq_true rfl) (Nat.le_of_ble_eq_true rfl) (Nat.le_of_ble_eq_true rfl) dX0_init_22 (fun q2 k2 H hK hP hD hS => ?_)
  have hP : va_P D vwCl [(h0, .inr (0, [.int law, .ref q1, .null, .null, .null, .null, .null, .int 0, .int 0])), (q1, .inl (k1, zA 144)), (q2, .inl (k2, zA 144))] H := hP
  have hD : va_D A [(h0, .inr (0, [.int law, .ref q1, .null, .null, .null, .null, .null, .int 0, .int 0])), (q1, .inl (k1, zA 144)), (q2, .inl (k2, zA 144))] := hD
  have hK : va_K D vwCl [(k1, .int), (k2, .int)] s := hK
  refine va_putF (D := D) (ci := 0) (v := .ref q2) (ty := tyX0 2) (C := RX0) (T := TX0) (N := 9) hx hb hts u_X0 tyX0 tyX0_ok nmX0 hown hK hP hD hS 0 rfl rfl 2 (by decide) (hts _ wq_129) (fun _ h9 => h9) rfl hin rfl (by decide +kernel) rfl rfl (Nat.le_of_ble_eq_true rfl) dX0_init_24 (fun H locs hP hD hS => ?_)
  have hP : va_P D vwCl [(h0, .inr (0, [.int law, .ref q1, .ref q2, .null, .null, .null, .null, .int 0, .int 0])), (q1, .inl (k1, zA 144)), (q2, .inl (k2, zA 144))] H := hP
  have hD : va_D A [(h0, .inr (0, [.int law, .ref q1, .ref q2, .null, .null, .null, .null, .int 0, .int 0])), (q1, .inl (k1, zA 144)), (q2, .inl (k2, zA 144))] := hD
  refine lv_aload_n hx hb dX0_init_27 rfl (lv_at hl 0 rfl) ?_
  refine lv_sipush (v := 144) hx hb dX0_init_28 (by decide) ?_
  refine va_newa (D := D) (atype := .int) (ty := .int) (a0 := zA 144) hx hb (hts _ wq_108) rfl hK hP hD hS hA (fun _ => rfl) (by decide) (by decide) (Nat.le_of_ble_eq_true rfl) (Nat.le_of_ble_eq_true rfl) (Nat.le_of_ble_eq_true rfl) dX0_init_31 (fun q3 k3 H hK hP hD hS => ?_)
  have hP : va_P D vwCl [(h0, .inr (0, [.int law, .ref q1, .ref q2, .null, .null, .null, .null, .int 0, .int 0])), (q1, .inl (k1, zA 144)), (q2, .inl (k2, zA 144)), (q3, .inl (k3, zA 144))] H := hP
  have hD : va_D A [(h0, .inr (0, [.int law, .ref q1, .ref q2, .null, .null, .null, .null, .int 0, .int 0])), (q1, .inl (k1, zA 144)), (q2, .inl (k2, zA 144)), (q3, .inl (k3, zA 144))] := hD
  have hK : va_K D vwCl [(k1, .int), (k2, .int), (k3, .int)] s := hK
  refine va_putF (D := D) (ci := 0) (v := .ref q3) (ty := tyX0 3) (C := RX0) (T := TX0) (N := 9) hx hb hts u_X0 tyX0 tyX0_ok nmX0 hown hK hP hD hS 0 rfl rfl 3 (by decide) (hts _ wq_131) (fun _ h9 => h9) rfl hin rfl (by decide +kernel) rfl rfl (Nat.le_of_ble_eq_true rfl) dX0_init_33 (fun H locs hP hD hS => ?_)
  have hP : va_P D vwCl [(h0, .inr (0, [.int law, .ref q1, .ref q2, .ref q3, .null, .null, .null, .int 0, .int 0])), (q1, .inl (k1, zA 144)), (q2, .inl (k2, zA 144)), (q3, .inl (k3, zA 144))] H := hP
  have hD : va_D A [(h0, .inr (0, [.int law, .ref q1, .ref q2, .ref q3, .null, .null, .null, .int 0, .int 0])), (q1, .inl (k1, zA 144)), (q2, .inl (k2, zA 144)), (q3, .inl (k3, zA 144))] := hD
  refine lv_aload_n hx hb dX0_init_36 rfl (lv_at hl 0 rfl) ?_
  refine lv_sipush (v := 144) hx hb dX0_init_37 (by decide) ?_
  refine va_newa (D := D) (atype := .int) (ty := .int) (a0 := zA 144) hx hb (hts _ wq_108) rfl hK hP hD hS hA (fun _ => rfl) (by decide) (by decide) (Nat.le_of_ble_eq_true rfl) (Nat.le_of_ble_eq_true rfl) (Nat.le_of_ble_eq_true rfl) dX0_init_40 (fun q4 k4 H hK hP hD hS => ?_)
  have hP : va_P D vwCl [(h0, .inr (0, [.int law, .ref q1, .ref q2, .ref q3, .null, .null, .null, .int 0, .int 0])), (q1, .inl (k1, zA 144)), (q2, .inl (k2, zA 144)), (q3, .inl (k3, zA 144)), (q4, .inl (k4, zA 144))] H := hP
  have hD : va_D A [(h0, .inr (0, [.int law, .ref q1, .ref q2, .ref q3, .null, .null, .null, .int 0, .int 0])), (q1, .inl (k1, zA 144)), (q2, .inl (k2, zA 144)), (q3, .inl (k3, zA 144)), (q4, .inl (k4, zA 144))] := hD
  have hK : va_K D vwCl [(k1, .int), (k2, .int), (k3, .int), (k4, .int)] s := hK
  refine va_putF (D := D) (ci := 0) (v := .ref q4) (ty := tyX0 4) (C := RX0) (T := TX0) (N := 9) hx hb hts u_X0 tyX0 tyX0_ok nmX0 hown hK hP hD hS 0 rfl rfl 4 (by decide) (hts _ wq_133) (fun _ h9 => h9) rfl hin rfl (by decide +kernel) rfl rfl (Nat.le_of_ble_eq_true rfl) dX0_init_42 (fun H locs hP hD hS => ?_)
  have hP : va_P D vwCl [(h0, .inr (0, [.int law, .ref q1, .ref q2, .ref q3, .ref q4, .null, .null, .int 0, .int 0])), (q1, .inl (k1, zA 144)), (q2, .inl (k2, zA 144)), (q3, .inl (k3, zA 144)), (q4, .inl (k4, zA 144))] H := hP
  have hD : va_D A [(h0, .inr (0, [.int law, .ref q1, .ref q2, .ref q3, .ref q4, .null, .null, .int 0, .int 0])), (q1, .inl (k1, zA 144)), (q2, .inl (k2, zA 144)), (q3, .inl (k3, zA 144)), (q4, .inl (k4, zA 144))] := hD
  refine lv_aload_n hx hb dX0_init_45 rfl (lv_at hl 0 rfl) ?_
  refine lv_bipush (v := 6) hx hb dX0_init_46 (by decide) ?_
  refine va_newa (D := D) (atype := .int) (ty := .int) (a0 := zA 6) hx hb (hts _ wq_108) rfl hK hP hD hS hA (fun _ => rfl) (by decide) (by decide) (Nat.le_of_ble_eq_true rfl) (Nat.le_of_ble_eq_true rfl) (Nat.le_of_ble_eq_true rfl) dX0_init_48 (fun q5 k5 H hK hP hD hS => ?_)
  have hP : va_P D vwCl [(h0, .inr (0, [.int law, .ref q1, .ref q2, .ref q3, .ref q4, .null, .null, .int 0, .int 0])), (q1, .inl (k1, zA 144)), (q2, .inl (k2, zA 144)), (q3, .inl (k3, zA 144)), (q4, .inl (k4, zA 144)), (q5, .inl (k5, zA 6))] H := hP
  have hD : va_D A [(h0, .inr (0, [.int law, .ref q1, .ref q2, .ref q3, .ref q4, .null, .null, .int 0, .int 0])), (q1, .inl (k1, zA 144)), (q2, .inl (k2, zA 144)), (q3, .inl (k3, zA 144)), (q4, .inl (k4, zA 144)), (q5, .inl (k5, zA 6))] := hD
  have hK : va_K D vwCl [(k1, .int), (k2, .int), (k3, .int), (k4, .int), (k5, .int)] s := hK
  refine va_putF (D := D) (ci := 0) (v := .ref q5) (ty := tyX0 5) (C := RX0) (T := TX0) (N := 9) hx hb hts u_X0 tyX0 tyX0_ok nmX0 hown hK hP hD hS 0 rfl rfl 5 (by decide) (hts _ wq_135) (fun _ h9 => h9) rfl hin rfl (by decide +kernel) rfl rfl (Nat.le_of_ble_eq_true rfl) dX0_init_50 (fun H locs hP hD hS => ?_)
  have hP : va_P D vwCl [(h0, .inr (0, [.int law, .ref q1, .ref q2, .ref q3, .ref q4, .ref q5, .null, .int 0, .int 0])), (q1, .inl (k1, zA 144)), (q2, .inl (k2, zA 144)), (q3, .inl (k3, zA 144)), (q4, .inl (k4, zA 144)), (q5, .inl (k5, zA 6))] H := hP
  have hD : va_D A [(h0, .inr (0, [.int law, .ref q1, .ref q2, .ref q3, .ref q4, .ref q5, .null, .int 0, .int 0])), (q1, .inl (k1, zA 144)), (q2, .inl (k2, zA 144)), (q3, .inl (k3, zA 144)), (q4, .inl (k4, zA 144)), (q5, .inl (k5, zA 6))] := hD
  refine lv_aload_n hx hb dX0_init_53 rfl (lv_at hl 0 rfl) ?_
  refine lv_bipush (v := 6) hx hb dX0_init_54 (by decide) ?_
  refine va_newa (D := D) (atype := .int) (ty := .int) (a0 := zA 6) hx hb (hts _ wq_108) rfl hK hP hD hS hA (fun _ => rfl) (by decide) (by decide) (Nat.le_of_ble_eq_true rfl) (Nat.le_of_ble_eq_true rfl) (Nat.le_of_ble_eq_true rfl) dX0_init_56 (fun q6 k6 H hK hP hD hS => ?_)
  have hP : va_P D vwCl [(h0, .inr (0, [.int law, .ref q1, .ref q2, .ref q3, .ref q4, .ref q5, .null, .int 0, .int 0])), (q1, .inl (k1, zA 144)), (q2, .inl (k2, zA 144)), (q3, .inl (k3, zA 144)), (q4, .inl (k4, zA 144)), (q5, .inl (k5, zA 6)), (q6, .inl (k6, zA 6))] H := hP
  have hD : va_D A [(h0, .inr (0, [.int law, .ref q1, .ref q2, .ref q3, .ref q4, .ref q5, .null, .int 0, .int 0])), (q1, .inl (k1, zA 144)), (q2, .inl (k2, zA 144)), (q3, .inl (k3, zA 144)), (q4, .inl (k4, zA 144)), (q5, .inl (k5, zA 6)), (q6, .inl (k6, zA 6))] := hD
  have hK : va_K D vwCl [(k1, .int), (k2, .int), (k3, .int), (k4, .int), (k5, .int), (k6, .int)] s := hK
  refine va_putF (D := D) (ci := 0) (v := .ref q6) (ty := tyX0 6) (C := RX0) (T := TX0) (N := 9) hx hb hts u_X0 tyX0 tyX0_ok nmX0 hown hK hP hD hS 0 rfl rfl 6 (by decide) (hts _ wq_136) (fun _ h9 => h9) rfl hin rfl (by decide +kernel) rfl rfl (Nat.le_of_ble_eq_true rfl) dX0_init_58 (fun H locs hP hD hS => ?_)
  have hP : va_P D vwCl [(h0, .inr (0, [.int law, .ref q1, .ref q2, .ref q3, .ref q4, .ref q5, .ref q6, .int 0, .int 0])), (q1, .inl (k1, zA 144)), (q2, .inl (k2, zA 144)), (q3, .inl (k3, zA 144)), (q4, .inl (k4, zA 144)), (q5, .inl (k5, zA 6)), (q6, .inl (k6, zA 6))] H := hP
  have hD : va_D A [(h0, .inr (0, [.int law, .ref q1, .ref q2, .ref q3, .ref q4, .ref q5, .ref q6, .int 0, .int 0])), (q1, .inl (k1, zA 144)), (q2, .inl (k2, zA 144)), (q3, .inl (k3, zA 144)), (q4, .inl (k4, zA 144)), (q5, .inl (k5, zA 6)), (q6, .inl (k6, zA 6))] := hD
  refine lv_aload_n hx hb dX0_init_61 rfl (lv_at hl 0 rfl) ?_
  refine lv_iconst (v := 1) hx hb dX0_init_62 (by decide) ?_
  refine va_put (D := D) (ci := 0) (v := .int 1) (ty := tyX0 8) (C := RX0) (T := TX0) (N := 9) hx hb hts u_X0 tyX0 tyX0_ok nmX0 hown hK hP hD hS 0 rfl rfl 8 (by decide) (hts _ wq_139) (fun _ h9 => h9) rfl (by decide +kernel) rfl rfl (Nat.le_of_ble_eq_true rfl) dX0_init_63 (fun H locs hP hD hS => ?_)
  have hP : va_P D vwCl [(h0, .inr (0, [.int law, .ref q1, .ref q2, .ref q3, .ref q4, .ref q5, .ref q6, .int 0, .int 1])), (q1, .inl (k1, zA 144)), (q2, .inl (k2, zA 144)), (q3, .inl (k3, zA 144)), (q4, .inl (k4, zA 144)), (q5, .inl (k5, zA 6)), (q6, .inl (k6, zA 6))] H := hP
  have hD : va_D A [(h0, .inr (0, [.int law, .ref q1, .ref q2, .ref q3, .ref q4, .ref q5, .ref q6, .int 0, .int 1])), (q1, .inl (k1, zA 144)), (q2, .inl (k2, zA 144)), (q3, .inl (k3, zA 144)), (q4, .inl (k4, zA 144)), (q5, .inl (k5, zA 6)), (q6, .inl (k6, zA 6))] := hD
  exact W.vret hx hb hr (fun t ht hW => ⟨⟨(fun i => oh_nth [q1, q2, q3, q4, q5, q6] i 0, fun i => oh_nth [k1, k2, k3, k4, k5, k6] i (k1)), rfl, trivial, by rw [ht]; exact hP, va_K.moved hW.alike hK, hD⟩, hS.F ht⟩) hS.2.2 dX0_init_66
def wX2 (h0 : Nat) (u : (Nat → Nat) × (Nat → ClassId)) : va_W := [(h0, .inr (2, [.ref (u.1 0), .int 0, .int (-1)])), (u.1 0, .inl (u.2 0, zA 60))]
def tysX2 (k : Nat → ClassId) : List (ClassId × FieldType) := [(k 0, .int)]
set_option maxHeartbeats 4000000 in
set_option maxRecDepth 100000 in
theorem c_X2_init (l : Launch) (D : va_G) (h0 sz : Nat) : Met l yX2_init (.code yX2_init cX2_init 1 none :: oh_tbl) { frames := 1, cells := 1, slots := 60, locals := 24 } (va_Pc [.ref h0] (fun U => U.heap.size = sz ∧ va_P D vwCl [(h0, .inr (2, dfX2))] U.heap ∧ va_K D vwCl [] U ∧ va_D (fun _ => True) [(h0, .inr (2, dfX2))])) (va_Qv (fun _ : (Nat → Nat) × (Nat → ClassId) => True) (fun u t => va_P D vwCl (wX2 h0 u) t.heap ∧ va_K D vwCl (tysX2 u.2) t ∧ va_D (va_A [(h0, .inr (2, dfX2))] sz) (wX2 h0 u)) (va_A [(h0, .inr (2, dfX2))] sz)) 1 60 (va_A [(h0, .inr (2, dfX2))] sz) := by
  refine Met.ofW (cc := cX2_init) (maxL := 1) (ret := none) (by decide) rfl ?_
  intro p e s m args below meth c s₁ B hml hv
  obtain ⟨rfl, hsz, hP, hK, hD0⟩ := hv
  have hx := B.exec
  have hb := B.bytes
  have hr := B.returns
  have hts0 := atoms_spec (ws := .code yX2_init cX2_init 1 none :: oh_tbl) B.pre
  have hts : ∀ w ∈ oh_tbl, w.before _ s = true := fun w hw => hts0 w (List.mem_cons_of_mem _ hw)
  have hown : s.vm.findClass RX2 = some m.cls := findClass_of_methodNamed B.named
  have hlocks := B.notSynchronized
  have hin : meth.name = "<init>" := (name_of_methodNamed B.named B.method).1
  subst hsz
  have hD := hD0.self (sz := s.heap.size)
  generalize hAe : va_A [(h0, .inr (2, dfX2))] s.heap.size = A at hD ⊢
  have hA : ∀ q : Nat, s.heap.size ≤ q → A q := fun q h => by rw [← hAe]; exact Or.inr h
  have hS : va_S A s.heap s.heap [] := va_S.rf
  have hl := lv_entry ([.ref h0]) (n := 1) (Nat.le_of_ble_eq_true rfl)
  rw [lg_entry_eq]
  generalize (lg_sl ([.ref h0]) ++ List.replicate (1 - (lg_sl ([.ref h0])).length) Slot.unset).toArray = ls at hl ⊢
  have hl : lv_has ls 1 [(0, .ref h0)] := hl
  have hP : va_P D vwCl [(h0, .inr (2, [.null, .int 0, .int 0]))] s.heap := hP
  have hD : va_D A [(h0, .inr (2, [.null, .int 0, .int 0]))] := hD
  have hK : va_K D vwCl [] s := hK
  refine lv_aload_n hx hb dX2_init_0 rfl (lv_at hl 0 rfl) ?_
  refine W.objInit hx hb hown (hts _ wq_166) (hts _ wq_77) (hts _ wq_78) rfl (by rw [hml]; exact hl.1) rfl dX2_init_1 (Nat.le_of_ble_eq_true rfl) (Nat.le_of_ble_eq_true rfl) ?_
  refine W.eq (g2 := F0 m 4 ls []) rfl ?_
  refine lv_aload_n hx hb dX2_init_4 rfl (lv_at hl 0 rfl) ?_
  refine lv_bipush (v := 60) hx hb dX2_init_5 (by decide) ?_
  refine va_newa (D := D) (atype := .int) (ty := .int) (a0 := zA 60) hx hb (hts _ wq_108) rfl hK hP hD hS hA (fun _ => rfl) (by decide) (by decide) (Nat.le_of_ble_eq_true rfl) (Nat.le_of_ble_eq_true rfl) (Nat.le_of_ble_eq_true rfl) dX2_init_7 (fun q1 k1 H hK hP hD hS => ?_)
  have hP : va_P D vwCl [(h0, .inr (2, [.null, .int 0, .int 0])), (q1, .inl (k1, zA 60))] H := hP
  have hD : va_D A [(h0, .inr (2, [.null, .int 0, .int 0])), (q1, .inl (k1, zA 60))] := hD
  have hK : va_K D vwCl [(k1, .int)] s := hK
  refine va_putF (D := D) (ci := 2) (v := .ref q1) (ty := tyX2 0) (C := RX2) (T := TX2) (N := 3) hx hb hts u_X2 tyX2 tyX2_ok nmX2 hown hK hP hD hS 0 rfl rfl 0 (by decide) (hts _ wq_167) (fun _ h9 => h9) rfl hin rfl (by decide +kernel) rfl rfl (Nat.le_of_ble_eq_true rfl) dX2_init_9 (fun H locs hP hD hS => ?_)
  have hP : va_P D vwCl [(h0, .inr (2, [.ref q1, .int 0, .int 0])), (q1, .inl (k1, zA 60))] H := hP
  have hD : va_D A [(h0, .inr (2, [.ref q1, .int 0, .int 0])), (q1, .inl (k1, zA 60))] := hD
  refine lv_aload_n hx hb dX2_init_12 rfl (lv_at hl 0 rfl) ?_
  refine lv_iconst (v := -1) hx hb dX2_init_13 (by decide) ?_
  refine va_put (D := D) (ci := 2) (v := .int (-1)) (ty := tyX2 2) (C := RX2) (T := TX2) (N := 3) hx hb hts u_X2 tyX2 tyX2_ok nmX2 hown hK hP hD hS 0 rfl rfl 2 (by decide) (hts _ wq_171) (fun _ h9 => h9) rfl (by decide +kernel) rfl rfl (Nat.le_of_ble_eq_true rfl) dX2_init_14 (fun H locs hP hD hS => ?_)
  have hP : va_P D vwCl [(h0, .inr (2, [.ref q1, .int 0, .int (-1)])), (q1, .inl (k1, zA 60))] H := hP
  have hD : va_D A [(h0, .inr (2, [.ref q1, .int 0, .int (-1)])), (q1, .inl (k1, zA 60))] := hD
  exact W.vret hx hb hr (fun t ht hW => ⟨⟨(fun i => oh_nth [q1] i 0, fun i => oh_nth [k1] i (k1)), rfl, trivial, by rw [ht]; exact hP, va_K.moved hW.alike hK, hD⟩, hS.F ht⟩) hS.2.2 dX2_init_17
def wX3 (h0 : Nat) (u : (Nat → Nat) × (Nat → ClassId)) (x : Int32) (y : Int32) (o : Int32) : va_W := [(h0, .inr (3, [.ref (u.1 0), .int x, .int (x + 4), .int y, .int o, .int 0, .int (-1)])), (u.1 0, .inl (u.2 0, zA 99))]
def tysX3 (k : Nat → ClassId) : List (ClassId × FieldType) := [(k 0, .int)]
set_option maxHeartbeats 4000000 in
set_option maxRecDepth 100000 in
theorem c_X3_init (l : Launch) (D : va_G) (h0 sz : Nat) (x y o : Int32) (hz : narrow .boolean (.int o) = .int o) (hz2 : fits .boolean (.int o) = true) : Met l yX3_init (.code yX3_init cX3_init 4 none :: oh_tbl) { frames := 1, cells := 1, slots := 99, locals := 24 } (va_Pc [.ref h0, .int x, .int y, .int o] (fun U => U.heap.size = sz ∧ va_P D vwCl [(h0, .inr (3, dfX3))] U.heap ∧ va_K D vwCl [] U ∧ va_D (fun _ => True) [(h0, .inr (3, dfX3))])) (va_Qv (fun _ : (Nat → Nat) × (Nat → ClassId) => True) (fun u t => va_P D vwCl (wX3 h0 u (x) (y) (o)) t.heap ∧ va_K D vwCl (tysX3 u.2) t ∧ va_D (va_A [(h0, .inr (3, dfX3))] sz) (wX3 h0 u (x) (y) (o))) (va_A [(h0, .inr (3, dfX3))] sz)) 1 99 (va_A [(h0, .inr (3, dfX3))] sz) := by
  refine Met.ofW (cc := cX3_init) (maxL := 4) (ret := none) (by decide) rfl ?_
  intro p e s m args below meth c s₁ B hml hv
  obtain ⟨rfl, hsz, hP, hK, hD0⟩ := hv
  have hx := B.exec
  have hb := B.bytes
  have hr := B.returns
  have hts0 := atoms_spec (ws := .code yX3_init cX3_init 4 none :: oh_tbl) B.pre
  have hts : ∀ w ∈ oh_tbl, w.before _ s = true := fun w hw => hts0 w (List.mem_cons_of_mem _ hw)
  have hown : s.vm.findClass RX3 = some m.cls := findClass_of_methodNamed B.named
  have hlocks := B.notSynchronized
  have hin : meth.name = "<init>" := (name_of_methodNamed B.named B.method).1
  subst hsz
  have hD := hD0.self (sz := s.heap.size)
  generalize hAe : va_A [(h0, .inr (3, dfX3))] s.heap.size = A at hD ⊢
  have hA : ∀ q : Nat, s.heap.size ≤ q → A q := fun q h => by rw [← hAe]; exact Or.inr h
  have hS : va_S A s.heap s.heap [] := va_S.rf
  have hl := lv_entry ([.ref h0, .int x, .int y, .int o]) (n := 4) (Nat.le_of_ble_eq_true rfl)
  rw [lg_entry_eq]
  generalize (lg_sl ([.ref h0, .int x, .int y, .int o]) ++ List.replicate (4 - (lg_sl ([.ref h0, .int x, .int y, .int o])).length) Slot.unset).toArray = ls at hl ⊢
  have hl : lv_has ls 4 [(0, .ref h0), (1, .int x), (2, .int y), (3, .int o)] := hl
  have hP : va_P D vwCl [(h0, .inr (3, [.null, .int 0, .int 0, .int 0, .int 0, .int 0, .int 0]))] s.heap := hP
  have hD : va_D A [(h0, .inr (3, [.null, .int 0, .int 0, .int 0, .int 0, .int 0, .int 0]))] := hD
  have hK : va_K D vwCl [] s := hK
  refine lv_aload_n hx hb dX3_init_0 rfl (lv_at hl 0 rfl) ?_
  refine W.objInit hx hb hown (hts _ wq_84) (hts _ wq_77) (hts _ wq_78) rfl (by rw [hml]; exact hl.1) rfl dX3_init_1 (Nat.le_of_ble_eq_true rfl) (Nat.le_of_ble_eq_true rfl) ?_
  refine W.eq (g2 := F0 m 4 ls []) rfl ?_
  refine lv_aload_n hx hb dX3_init_4 rfl (lv_at hl 0 rfl) ?_
  refine lv_bipush (v := 99) hx hb dX3_init_5 (by decide) ?_
  refine va_newa (D := D) (atype := .int) (ty := .int) (a0 := zA 99) hx hb (hts _ wq_108) rfl hK hP hD hS hA (fun _ => rfl) (by decide) (by decide) (Nat.le_of_ble_eq_true rfl) (Nat.le_of_ble_eq_true rfl) (Nat.le_of_ble_eq_true rfl) dX3_init_7 (fun q1 k1 H hK hP hD hS => ?_)
  have hP : va_P D vwCl [(h0, .inr (3, [.null, .int 0, .int 0, .int 0, .int 0, .int 0, .int 0])), (q1, .inl (k1, zA 99))] H := hP
  have hD : va_D A [(h0, .inr (3, [.null, .int 0, .int 0, .int 0, .int 0, .int 0, .int 0])), (q1, .inl (k1, zA 99))] := hD
  have hK : va_K D vwCl [(k1, .int)] s := hK
  refine va_putF (D := D) (ci := 3) (v := .ref q1) (ty := tyX3 0) (C := RX3) (T := TX3) (N := 7) hx hb hts u_X3 tyX3 tyX3_ok nmX3 hown hK hP hD hS 0 rfl rfl 0 (by decide) (hts _ wq_85) (fun _ h9 => h9) rfl hin rfl (by decide +kernel) rfl rfl (Nat.le_of_ble_eq_true rfl) dX3_init_9 (fun H locs hP hD hS => ?_)
  have hP : va_P D vwCl [(h0, .inr (3, [.ref q1, .int 0, .int 0, .int 0, .int 0, .int 0, .int 0])), (q1, .inl (k1, zA 99))] H := hP
  have hD : va_D A [(h0, .inr (3, [.ref q1, .int 0, .int 0, .int 0, .int 0, .int 0, .int 0])), (q1, .inl (k1, zA 99))] := hD
  refine lv_aload_n hx hb dX3_init_12 rfl (lv_at hl 0 rfl) ?_
  refine lv_iload_n hx hb dX3_init_13 rfl (lv_at hl 1 rfl) ?_
  refine va_putF (D := D) (ci := 3) (v := .int x) (ty := tyX3 1) (C := RX3) (T := TX3) (N := 7) hx hb hts u_X3 tyX3 tyX3_ok nmX3 hown hK hP hD hS 0 rfl rfl 1 (by decide) (hts _ wq_86) (fun _ h9 => h9) rfl hin rfl (by decide +kernel) rfl rfl (Nat.le_of_ble_eq_true rfl) dX3_init_14 (fun H locs hP hD hS => ?_)
  have hP : va_P D vwCl [(h0, .inr (3, [.ref q1, .int x, .int 0, .int 0, .int 0, .int 0, .int 0])), (q1, .inl (k1, zA 99))] H := hP
  have hD : va_D A [(h0, .inr (3, [.ref q1, .int x, .int 0, .int 0, .int 0, .int 0, .int 0])), (q1, .inl (k1, zA 99))] := hD
  refine lv_aload_n hx hb dX3_init_17 rfl (lv_at hl 0 rfl) ?_
  refine lv_iload_n hx hb dX3_init_18 rfl (lv_at hl 1 rfl) ?_
  refine lv_iconst (v := 4) hx hb dX3_init_19 (by decide) ?_
  refine lv_iadd hx hb dX3_init_20 ?_
  refine va_putF (D := D) (ci := 3) (v := .int (x + 4)) (ty := tyX3 2) (C := RX3) (T := TX3) (N := 7) hx hb hts u_X3 tyX3 tyX3_ok nmX3 hown hK hP hD hS 0 rfl rfl 2 (by decide) (hts _ wq_87) (fun _ h9 => h9) rfl hin rfl (by decide +kernel) rfl rfl (Nat.le_of_ble_eq_true rfl) dX3_init_21 (fun H locs hP hD hS => ?_)
  have hP : va_P D vwCl [(h0, .inr (3, [.ref q1, .int x, .int (x + 4), .int 0, .int 0, .int 0, .int 0])), (q1, .inl (k1, zA 99))] H := hP
  have hD : va_D A [(h0, .inr (3, [.ref q1, .int x, .int (x + 4), .int 0, .int 0, .int 0, .int 0])), (q1, .inl (k1, zA 99))] := hD
  refine lv_aload_n hx hb dX3_init_24 rfl (lv_at hl 0 rfl) ?_
  refine lv_iload_n hx hb dX3_init_25 rfl (lv_at hl 2 rfl) ?_
  refine va_putF (D := D) (ci := 3) (v := .int y) (ty := tyX3 3) (C := RX3) (T := TX3) (N := 7) hx hb hts u_X3 tyX3 tyX3_ok nmX3 hown hK hP hD hS 0 rfl rfl 3 (by decide) (hts _ wq_88) (fun _ h9 => h9) rfl hin rfl (by decide +kernel) rfl rfl (Nat.le_of_ble_eq_true rfl) dX3_init_26 (fun H locs hP hD hS => ?_)
  have hP : va_P D vwCl [(h0, .inr (3, [.ref q1, .int x, .int (x + 4), .int y, .int 0, .int 0, .int 0])), (q1, .inl (k1, zA 99))] H := hP
  have hD : va_D A [(h0, .inr (3, [.ref q1, .int x, .int (x + 4), .int y, .int 0, .int 0, .int 0])), (q1, .inl (k1, zA 99))] := hD
  refine lv_aload_n hx hb dX3_init_29 rfl (lv_at hl 0 rfl) ?_
  refine lv_iload_n hx hb dX3_init_30 rfl (lv_at hl 3 rfl) ?_
  refine va_putF (D := D) (ci := 3) (v := .int o) (ty := tyX3 4) (C := RX3) (T := TX3) (N := 7) hx hb hts u_X3 tyX3 tyX3_ok nmX3 hown hK hP hD hS 0 rfl rfl 4 (by decide) (hts _ wq_89) (fun _ h9 => h9) rfl hin rfl (by decide +kernel) hz hz2 (Nat.le_of_ble_eq_true rfl) dX3_init_31 (fun H locs hP hD hS => ?_)
  have hP : va_P D vwCl [(h0, .inr (3, [.ref q1, .int x, .int (x + 4), .int y, .int o, .int 0, .int 0])), (q1, .inl (k1, zA 99))] H := hP
  have hD : va_D A [(h0, .inr (3, [.ref q1, .int x, .int (x + 4), .int y, .int o, .int 0, .int 0])), (q1, .inl (k1, zA 99))] := hD
  refine lv_aload_n hx hb dX3_init_34 rfl (lv_at hl 0 rfl) ?_
  refine lv_iconst (v := -1) hx hb dX3_init_35 (by decide) ?_
  refine va_put (D := D) (ci := 3) (v := .int (-1)) (ty := tyX3 6) (C := RX3) (T := TX3) (N := 7) hx hb hts u_X3 tyX3 tyX3_ok nmX3 hown hK hP hD hS 0 rfl rfl 6 (by decide) (hts _ wq_92) (fun _ h9 => h9) rfl (by decide +kernel) rfl rfl (Nat.le_of_ble_eq_true rfl) dX3_init_36 (fun H locs hP hD hS => ?_)
  have hP : va_P D vwCl [(h0, .inr (3, [.ref q1, .int x, .int (x + 4), .int y, .int o, .int 0, .int (-1)])), (q1, .inl (k1, zA 99))] H := hP
  have hD : va_D A [(h0, .inr (3, [.ref q1, .int x, .int (x + 4), .int y, .int o, .int 0, .int (-1)])), (q1, .inl (k1, zA 99))] := hD
  exact W.vret hx hb hr (fun t ht hW => ⟨⟨(fun i => oh_nth [q1] i 0, fun i => oh_nth [k1] i (k1)), rfl, trivial, by rw [ht]; exact hP, va_K.moved hW.alike hK, hD⟩, hS.F ht⟩) hS.2.2 dX3_init_39
