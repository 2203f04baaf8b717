/-! ===== the texts ===== -/
theorem ti_1000 : ti 1000 = [109, 111, 114, 101, 32, 116, 104, 97, 110, 32, 54, 53, 53, 51, 54, 32, 98, 121, 116, 101, 115] := by decide +kernel
theorem ti_1001 : ti 1001 = [110, 111, 116, 32, 115, 111, 32, 109, 97, 110, 121, 32, 98, 121, 116, 101, 115] := by decide +kernel
theorem ti_1002 : ti 1002 = [60, 63, 120, 109, 108] := by decide +kernel
theorem ti_1003 : ti 1003 = [118, 101, 114, 115, 105, 111, 110] := by decide +kernel
theorem ti_1004 : ti 1004 = [49, 46] := by decide +kernel
theorem ti_1005 : ti 1005 = [101, 110, 99, 111, 100, 105, 110, 103] := by decide +kernel
theorem ti_1006 : ti 1006 = [115, 116, 97, 110, 100, 97, 108, 111, 110, 101] := by decide +kernel
theorem ti_1007 : ti 1007 = [121, 101, 115] := by decide +kernel
theorem ti_1008 : ti 1008 = [110, 111] := by decide +kernel
theorem ti_1009 : ti 1009 = [63, 62] := by decide +kernel
theorem ti_1010 : ti 1010 = [117, 116, 102, 45, 49, 54] := by decide +kernel
theorem ti_1011 : ti 1011 = [117, 116, 102, 45, 56] := by decide +kernel
theorem ti_1012 : ti 1012 = [61] := by decide +kernel
theorem ti_1013 : ti 1013 = [60, 33, 45, 45] := by decide +kernel
theorem ti_1014 : ti 1014 = [60, 63] := by decide +kernel
theorem ti_1015 : ti 1015 = [60, 47] := by decide +kernel
theorem ti_1016 : ti 1016 = [60, 33, 91, 67, 68, 65, 84, 65, 91] := by decide +kernel
theorem ti_1017 : ti 1017 = [60, 33, 68, 79, 67, 84, 89, 80, 69] := by decide +kernel
theorem ti_1018 : ti 1018 = [62] := by decide +kernel
theorem ti_1019 : ti 1019 = [60] := by decide +kernel
theorem ti_1020 : ti 1020 = [47] := by decide +kernel
theorem ti_1021 : ti 1021 = [60, 33, 68, 79, 67, 84, 89, 80, 69] := by decide +kernel
theorem ti_1022 : ti 1022 = [83, 89, 83, 84, 69, 77] := by decide +kernel
theorem ti_1023 : ti 1023 = [80, 85, 66, 76, 73, 67] := by decide +kernel
theorem ti_1024 : ti 1024 = [91] := by decide +kernel
theorem ti_1025 : ti 1025 = [62] := by decide +kernel
theorem ti_1026 : ti 1026 = [60, 33, 45, 45] := by decide +kernel
theorem ti_1027 : ti 1027 = [60, 63] := by decide +kernel
theorem ti_1028 : ti 1028 = [60, 33, 69, 76, 69, 77, 69, 78, 84] := by decide +kernel
theorem ti_1029 : ti 1029 = [60, 33, 65, 84, 84, 76, 73, 83, 84] := by decide +kernel
theorem ti_1030 : ti 1030 = [60, 33, 69, 78, 84, 73, 84, 89] := by decide +kernel
theorem ti_1031 : ti 1031 = [60, 33, 78, 79, 84, 65, 84, 73, 79, 78] := by decide +kernel
theorem ti_1032 : ti 1032 = [93] := by decide +kernel
theorem ti_1033 : ti 1033 = [37] := by decide +kernel
theorem ti_1034 : ti 1034 = [59] := by decide +kernel
theorem ti_1035 : ti 1035 = [69, 77, 80, 84, 89] := by decide +kernel
theorem ti_1036 : ti 1036 = [65, 78, 89] := by decide +kernel
theorem ti_1037 : ti 1037 = [40] := by decide +kernel
theorem ti_1038 : ti 1038 = [35, 80, 67, 68, 65, 84, 65] := by decide +kernel
theorem ti_1039 : ti 1039 = [124] := by decide +kernel
theorem ti_1040 : ti 1040 = [41] := by decide +kernel
theorem ti_1041 : ti 1041 = [42] := by decide +kernel
theorem ti_1042 : ti 1042 = [35, 82, 69, 81, 85, 73, 82, 69, 68] := by decide +kernel
theorem ti_1043 : ti 1043 = [35, 73, 77, 80, 76, 73, 69, 68] := by decide +kernel
theorem ti_1044 : ti 1044 = [35, 70, 73, 88, 69, 68] := by decide +kernel
theorem ti_1045 : ti 1045 = [78, 68, 65, 84, 65] := by decide +kernel
theorem ti_1046 : ti 1046 = [60, 62, 38, 39, 34] := by decide +kernel
theorem ti_1047 : ti 1047 = [42] := by decide +kernel
theorem ti_1048 : ti 1048 = [43] := by decide +kernel
theorem ti_1049 : ti 1049 = [63] := by decide +kernel
theorem ti_1050 : ti 1050 = [60, 33, 45, 45] := by decide +kernel
theorem ti_1051 : ti 1051 = [45, 45] := by decide +kernel
theorem ti_1052 : ti 1052 = [45, 45, 62] := by decide +kernel
theorem ti_1053 : ti 1053 = [60, 63] := by decide +kernel
theorem ti_1054 : ti 1054 = [120, 109, 108] := by decide +kernel
theorem ti_1055 : ti 1055 = [63, 62] := by decide +kernel
theorem ti_1056 : ti 1056 = [60, 33, 91, 67, 68, 65, 84, 65, 91] := by decide +kernel
theorem ti_1057 : ti 1057 = [93, 93, 62] := by decide +kernel
theorem ti_1058 : ti 1058 = [35, 120] := by decide +kernel
theorem ti_1059 : ti 1059 = [35] := by decide +kernel
theorem ti_1060 : ti 1060 = [59] := by decide +kernel
theorem ti_1061 : ti 1061 = [45, 39, 40, 41, 43, 44, 46, 47, 58, 61, 63, 59, 33, 42, 35, 64, 36, 95, 37] := by decide +kernel
theorem ti_1062 : ti 1062 = [83, 89, 83, 84, 69, 77] := by decide +kernel
theorem ti_1063 : ti 1063 = [80, 85, 66, 76, 73, 67] := by decide +kernel
theorem ti_1064 : ti 1064 = [] := by decide +kernel
theorem ti_1065 : ti 1065 = [108, 116] := by decide +kernel
theorem ti_1066 : ti 1066 = [103, 116] := by decide +kernel
theorem ti_1067 : ti 1067 = [97, 109, 112] := by decide +kernel
theorem ti_1068 : ti 1068 = [97, 112, 111, 115] := by decide +kernel
theorem ti_1069 : ti 1069 = [113, 117, 111, 116] := by decide +kernel
theorem ti_1070 : ti 1070 = [120, 109, 108] := by decide +kernel
theorem ti_1071 : ti 1071 = [120, 109, 108, 110, 115] := by decide +kernel
theorem ti_1072 : ti 1072 = [104, 116, 116, 112, 58, 47, 47, 119, 119, 119, 46, 119, 51, 46, 111, 114, 103, 47, 88, 77, 76, 47, 49, 57, 57, 56, 47, 110, 97, 109, 101, 115, 112, 97, 99, 101] := by decide +kernel
theorem ti_1073 : ti 1073 = [104, 116, 116, 112, 58, 47, 47, 119, 119, 119, 46, 119, 51, 46, 111, 114, 103, 47, 50, 48, 48, 48, 47, 120, 109, 108, 110, 115, 47] := by decide +kernel
theorem ti_1074 : ti 1074 = [67, 68, 65, 84, 65] := by decide +kernel
theorem ti_1075 : ti 1075 = [73, 68] := by decide +kernel
theorem ti_1076 : ti 1076 = [73, 68, 82, 69, 70] := by decide +kernel
theorem ti_1077 : ti 1077 = [73, 68, 82, 69, 70, 83] := by decide +kernel
theorem ti_1078 : ti 1078 = [69, 78, 84, 73, 84, 89] := by decide +kernel
theorem ti_1079 : ti 1079 = [69, 78, 84, 73, 84, 73, 69, 83] := by decide +kernel
theorem ti_1080 : ti 1080 = [78, 77, 84, 79, 75, 69, 78] := by decide +kernel
theorem ti_1081 : ti 1081 = [78, 77, 84, 79, 75, 69, 78, 83] := by decide +kernel
theorem ti_1082 : ti 1082 = [78, 79, 84, 65, 84, 73, 79, 78] := by decide +kernel
theorem ti_1083 : ti 1083 = [41] := by decide +kernel
theorem ti_1084 : ti 1084 = [124] := by decide +kernel
theorem ti_1085 : ti 1085 = [61, 34] := by decide +kernel
theorem ti_1086 : ti 1086 = [60, 47] := by decide +kernel
theorem ti_1087 : ti 1087 = [60, 63] := by decide +kernel
theorem ti_1088 : ti 1088 = [38, 35, 120, 68, 59] := by decide +kernel
theorem ti_1089 : ti 1089 = [63, 62] := by decide +kernel
theorem ti_1090 : ti 1090 = [38, 97, 109, 112, 59] := by decide +kernel
theorem ti_1091 : ti 1091 = [38, 108, 116, 59] := by decide +kernel
theorem ti_1092 : ti 1092 = [38, 103, 116, 59] := by decide +kernel
theorem ti_1093 : ti 1093 = [38, 113, 117, 111, 116, 59] := by decide +kernel
theorem ti_1094 : ti 1094 = [38, 35, 120, 57, 59] := by decide +kernel
theorem ti_1095 : ti 1095 = [38, 35, 120, 65, 59] := by decide +kernel
theorem ti_1096 : ti 1096 = [120, 109, 108, 110, 115] := by decide +kernel
theorem ti_1097 : ti 1097 = [45, 39, 40, 41, 43, 44, 46, 47, 58, 61, 63, 59, 33, 42, 35, 64, 36, 95, 37] := by decide +kernel
theorem ti_1098 : ti 1098 = [83, 89, 83, 84, 69, 77] := by decide +kernel
theorem ti_1099 : ti 1099 = [80, 85, 66, 76, 73, 67] := by decide +kernel
theorem ti_1100 : ti 1100 = [59] := by decide +kernel
theorem ti_1101 : ti 1101 = [61] := by decide +kernel
theorem ti_1102 : ti 1102 = [60, 63, 120, 109, 108] := by decide +kernel
theorem ti_1103 : ti 1103 = [60, 33, 45, 45] := by decide +kernel
theorem ti_1104 : ti 1104 = [60, 33, 68, 79, 67, 84, 89, 80, 69] := by decide +kernel
theorem ti_1105 : ti 1105 = [60, 33, 91, 67, 68, 65, 84, 65, 91] := by decide +kernel
theorem ti_1106 : ti 1106 = [60, 47] := by decide +kernel
theorem ti_1107 : ti 1107 = [60, 63] := by decide +kernel
theorem ti_1108 : ti 1108 = [118, 101, 114, 115, 105, 111, 110] := by decide +kernel
theorem ti_1109 : ti 1109 = [49, 46] := by decide +kernel
theorem ti_1110 : ti 1110 = [101, 110, 99, 111, 100, 105, 110, 103] := by decide +kernel
theorem ti_1111 : ti 1111 = [115, 116, 97, 110, 100, 97, 108, 111, 110, 101] := by decide +kernel
theorem ti_1112 : ti 1112 = [121, 101, 115] := by decide +kernel
theorem ti_1113 : ti 1113 = [110, 111] := by decide +kernel
theorem ti_1114 : ti 1114 = [63, 62] := by decide +kernel
theorem ti_1115 : ti 1115 = [117, 116, 102, 45, 49, 54] := by decide +kernel
theorem ti_1116 : ti 1116 = [117, 116, 102, 45, 56] := by decide +kernel
theorem ti_1117 : ti 1117 = [45, 45] := by decide +kernel
theorem ti_1118 : ti 1118 = [45, 45, 62] := by decide +kernel
theorem ti_1119 : ti 1119 = [120, 109, 108] := by decide +kernel
theorem ti_1120 : ti 1120 = [60, 33, 69, 76, 69, 77, 69, 78, 84] := by decide +kernel
theorem ti_1121 : ti 1121 = [60, 33, 65, 84, 84, 76, 73, 83, 84] := by decide +kernel
theorem ti_1122 : ti 1122 = [60, 33, 69, 78, 84, 73, 84, 89] := by decide +kernel
theorem ti_1123 : ti 1123 = [60, 33, 78, 79, 84, 65, 84, 73, 79, 78] := by decide +kernel
theorem ti_1124 : ti 1124 = [62] := by decide +kernel
theorem ti_1125 : ti 1125 = [69, 77, 80, 84, 89] := by decide +kernel
theorem ti_1126 : ti 1126 = [65, 78, 89] := by decide +kernel
theorem ti_1127 : ti 1127 = [40] := by decide +kernel
theorem ti_1128 : ti 1128 = [35, 80, 67, 68, 65, 84, 65] := by decide +kernel
theorem ti_1129 : ti 1129 = [124] := by decide +kernel
theorem ti_1130 : ti 1130 = [41] := by decide +kernel
theorem ti_1131 : ti 1131 = [42] := by decide +kernel
theorem ti_1132 : ti 1132 = [78, 79, 84, 65, 84, 73, 79, 78] := by decide +kernel
theorem ti_1133 : ti 1133 = [67, 68, 65, 84, 65] := by decide +kernel
theorem ti_1134 : ti 1134 = [73, 68] := by decide +kernel
theorem ti_1135 : ti 1135 = [73, 68, 82, 69, 70] := by decide +kernel
theorem ti_1136 : ti 1136 = [73, 68, 82, 69, 70, 83] := by decide +kernel
theorem ti_1137 : ti 1137 = [69, 78, 84, 73, 84, 89] := by decide +kernel
theorem ti_1138 : ti 1138 = [69, 78, 84, 73, 84, 73, 69, 83] := by decide +kernel
theorem ti_1139 : ti 1139 = [78, 77, 84, 79, 75, 69, 78] := by decide +kernel
theorem ti_1140 : ti 1140 = [78, 77, 84, 79, 75, 69, 78, 83] := by decide +kernel
theorem ti_1141 : ti 1141 = [35, 82, 69, 81, 85, 73, 82, 69, 68] := by decide +kernel
theorem ti_1142 : ti 1142 = [35, 73, 77, 80, 76, 73, 69, 68] := by decide +kernel
theorem ti_1143 : ti 1143 = [35, 70, 73, 88, 69, 68] := by decide +kernel
theorem ti_1144 : ti 1144 = [37] := by decide +kernel
theorem ti_1145 : ti 1145 = [78, 68, 65, 84, 65] := by decide +kernel
theorem ti_1146 : ti 1146 = [93, 93, 62] := by decide +kernel
theorem ti_1147 : ti 1147 = [108, 116] := by decide +kernel
theorem ti_1148 : ti 1148 = [103, 116] := by decide +kernel
theorem ti_1149 : ti 1149 = [97, 109, 112] := by decide +kernel
theorem ti_1150 : ti 1150 = [97, 112, 111, 115] := by decide +kernel
theorem ti_1151 : ti 1151 = [113, 117, 111, 116] := by decide +kernel
theorem ti_1152 : ti 1152 = [47, 62] := by decide +kernel
theorem ti_1153 : ti 1153 = [120, 109, 108, 110, 115] := by decide +kernel
theorem ti_1154 : ti 1154 = [104, 116, 116, 112, 58, 47, 47, 119, 119, 119, 46, 119, 51, 46, 111, 114, 103, 47, 88, 77, 76, 47, 49, 57, 57, 56, 47, 110, 97, 109, 101, 115, 112, 97, 99, 101] := by decide +kernel
theorem ti_1155 : ti 1155 = [104, 116, 116, 112, 58, 47, 47, 119, 119, 119, 46, 119, 51, 46, 111, 114, 103, 47, 50, 48, 48, 48, 47, 120, 109, 108, 110, 115, 47] := by decide +kernel
theorem ti_1156 : ti 1156 = [38, 97, 109, 112, 59] := by decide +kernel
theorem ti_1157 : ti 1157 = [38, 108, 116, 59] := by decide +kernel
theorem ti_1158 : ti 1158 = [38, 35, 120, 68, 59] := by decide +kernel
theorem ti_1159 : ti 1159 = [62] := by decide +kernel
theorem ti_1160 : ti 1160 = [38, 103, 116, 59] := by decide +kernel
theorem ti_1161 : ti 1161 = [38, 113, 117, 111, 116, 59] := by decide +kernel
theorem ti_1162 : ti 1162 = [34] := by decide +kernel
theorem ti_1163 : ti 1163 = [38, 35, 120, 57, 59] := by decide +kernel
theorem ti_1164 : ti 1164 = [9] := by decide +kernel
theorem ti_1165 : ti 1165 = [38, 35, 120, 65, 59] := by decide +kernel
theorem ti_1166 : ti 1166 = [10] := by decide +kernel
theorem ti_1167 : ti 1167 = [61, 34] := by decide +kernel
theorem ti_1168 : ti 1168 = [104, 116, 116, 112, 58, 47, 47, 119, 119, 119, 46, 119, 51, 46, 111, 114, 103, 47, 88, 77, 76, 47, 49, 57, 57, 56, 47, 110, 97, 109, 101, 115, 112, 97, 99, 101] := by decide +kernel
theorem ti_1169 : ti 1169 = [120, 109, 108] := by decide +kernel
theorem ti_1170 : ti 1170 = [120, 109, 108, 110, 115] := by decide +kernel
theorem ti_1171 : ti 1171 = [60] := by decide +kernel
theorem ti_1172 : ti 1172 = [32] := by decide +kernel
theorem ti_1173 : ti 1173 = [60, 63] := by decide +kernel
theorem ti_1174 : ti 1174 = [63, 62] := by decide +kernel
theorem ti_1175 : ti 1175 = [60, 47] := by decide +kernel
/-! ===== the reference's lexical functions, further ===== -/
section KPos2
variable {L : Nat → Nat} {Q : Int → IS → Prop} {σ : IS} {e : Nat}
theorem sp_word (hk : KT L σ e) {x : Int} (o : Option Nat) (hx : x = enc o) (ho : ple e o) {s : Nat} {l : List Int} (hs : ti s = l) (h : Q (enc (wd (σ.2 176) e l o)) σ) : w_KReader_word L x s Q σ := by
  subst hs
  exact sp_KReader_word hk o hx ho h
theorem wdl_le {T : Nat → Int} {s : Nat} {l : List Int} {o : Option Nat} (hs : ti s = l) (h : ple e o) : ple e (wd T e l o) := by
  subst hs
  exact wd_le h
def eqs (T : Nat → Int) (e : Nat) (o : Option Nat) : Option Nat := asp T e (wd T e [61] (asp T e o))
theorem eqs_le {T : Nat → Int} {o : Option Nat} (h : ple e o) : ple e (eqs T e o) := asp_le (wdl_le ti_1101 (asp_le h))
theorem sp_KReader_equal (hk : KT L σ e) {x : Int} (o : Option Nat) (hx : x = enc o) (ho : ple e o) (h : Q (enc (eqs (σ.2 176) e o)) σ) : w_KReader_equal L x Q σ := by
  unfold w_KReader_equal
  exact sp_KReader_anySpaces hk o hx ho (sp_word hk _ rfl (asp_le ho) ti_1101 (sp_KReader_anySpaces hk _ rfl (wdl_le ti_1101 (asp_le ho)) h))
/-! public literals -/
def pbL : List Int := [45, 39, 40, 41, 43, 44, 46, 47, 58, 61, 63, 59, 33, 42, 35, 64, 36, 95, 37]
def isPb (c : Int) : Bool := (c == 32 || c == 10) || (isLt c || (isDg c || (decide (c < 128) && pbL.contains c)))
theorem tF_neg {s : Nat} {c : Int} (hc : inR c) : (tF s c < 0) ↔ ¬ c ∈ ti s := by
  unfold tF ti
  have hoc : (Int32.ofInt c).toInt = c := by
    rw [Int32.toInt_ofInt]
    exact bm_id hc
  constructor
  · intro h hm
    obtain ⟨b, hb, e2⟩ := List.mem_map.mp hm
    have hbe : b = Int32.ofInt c := Int32.toInt_inj.mp (by rw [e2, hoc])
    cases hf : (tx s).findIdx? (fun b => b == Int32.ofInt c) with
    | none =>
      have := List.findIdx?_eq_none_iff.mp hf b hb
      rw [hbe] at this
      simp at this
    | some k =>
      rw [hf] at h
      dsimp only at h
      omega
  · intro h
    cases hf : (tx s).findIdx? (fun b => b == Int32.ofInt c) with
    | none => dsimp only; omega
    | some k =>
      exfalso
      obtain ⟨hk, hb, -⟩ := List.findIdx?_eq_some_iff_getElem.mp hf
      apply h
      refine List.mem_map.mpr ⟨(tx s)[k], List.getElem_mem hk, ?_⟩
      have : (tx s)[k] = Int32.ofInt c := by simpa using hb
      rw [this, hoc]
def plt (T : Nat → Int) (e : Nat) (o : Option Nat) : Option Nat := match o with
  | none => none
  | some i => match ltl T e (some i) with
    | none => none
    | some k => if sk isPb T (k - 1) (i + 1) = k - 1 then some k else none
theorem plt_le {T : Nat → Int} {o : Option Nat} : ple e (plt T e o) := by
  intro j hj
  cases o with
  | none => cases hj
  | some i =>
    have h' : (match ltl T e (some i) with
      | none => none
      | some k => if sk isPb T (k - 1) (i + 1) = k - 1 then some k else none) = some j := hj
    cases hl : ltl T e (some i) with
    | none => rw [hl] at h'; cases h'
    | some k =>
      rw [hl] at h'
      dsimp only at h'
      split at h'
      · cases h'
        exact ltl_le j hl
      · cases h'
theorem ltl_lt {T : Nat → Int} {i k : Nat} (h : ltl T e (some i) = some k) : i < e ∧ i + 2 ≤ k ∧ k ≤ e := by
  have h' : (if isQt (lk T e i) = true then (if sk (fun c => !(c == T i)) T e (i + 1) < e then some (sk (fun c => !(c == T i)) T e (i + 1) + 1) else none) else none) = some k := h
  by_cases hc : isQt (lk T e i) = true
  · rw [if_pos hc] at h'
    have hlt : i < e := by
      by_cases z : i < e
      · exact z
      · unfold lk at hc
        rw [if_neg z] at hc
        exact absurd hc (by decide)
    have hs := sk_le (p := fun c => !(c == T i)) (T := T) (show i + 1 ≤ e by omega)
    split at h'
    · cases h'; omega
    · cases h'
  · rw [if_neg hc] at h'
    cases h'
/-- every character of the text is one -/
def chs (σ : IS) (e : Nat) : Prop := ∀ i, i < e → 0 ≤ σ.2 176 i ∧ σ.2 176 i ≤ 1114111
theorem sp_KReader_publicLiteral (hk : KT L σ e) (hc : chs σ e) {x : Int} (o : Option Nat) (hx : x = enc o) (ho : ple e o) (h : Q (enc (plt (σ.2 176) e o)) σ) : w_KReader_publicLiteral L x Q σ := by
  unfold w_KReader_publicLiteral
  have hk' := hk
  obtain ⟨hk1, hk2, hk3⟩ := hk'
  refine sp_KReader_literal hk o hx ho ?_
  have hxr : -1 ≤ x ∧ x ≤ 262144 := by
    cases o with
    | none => rw [hx]; decide
    | some i => have := ho i rfl; have hx' : x = (i : Int) := hx; omega
  refine ⟨⟨by omega, by omega⟩, ?_⟩
  cases hl : ltl (σ.2 176) e o with
  | none =>
    have e2 : plt (σ.2 176) e o = none := by
      cases o with
      | none => rfl
      | some i =>
        show (match ltl (σ.2 176) e (some i) with
          | none => none
          | some k => if sk isPb (σ.2 176) (k - 1) (i + 1) = k - 1 then some k else none) = none
        rw [hl]
    rw [e2] at h
    refine WL_ind (fun s τ => τ = σ) (fun _ _ => 0) ?_ _ σ rfl
    rintro s τ rfl K hI
    try dsimp only
    refine ⟨fun c => absurd (by decide) c, ?_⟩
    rw [if_neg (fun z => z.1 (by decide))]
    exact h
  | some k =>
    cases o with
    | none => cases hl
    | some i =>
      have hx' : x = (i : Int) := hx
      have hlt := ltl_lt hl
      have e2 : plt (σ.2 176) e (some i) = if sk isPb (σ.2 176) (k - 1) (i + 1) = k - 1 then some k else none := by
        show (match ltl (σ.2 176) e (some i) with
          | none => none
          | some k => if sk isPb (σ.2 176) (k - 1) (i + 1) = k - 1 then some k else none) = _
        rw [hl]
      rw [e2] at h
      have hek : enc (some k) = (k : Int) := rfl
      rw [hek]
      refine WL_ind (fun s τ => τ = σ ∧ ∃ j : Nat, s = (j : Int) ∧ j ≤ k - 1 ∧ sk isPb (σ.2 176) (k - 1) (i + 1) = sk isPb (σ.2 176) (k - 1) j) (fun s _ => (k - s).toNat) ?_ _ σ ⟨rfl, i + 1, by omega, by omega, rfl⟩
      rintro s τ ⟨rfl, j, rfl, hj, hs⟩ K hI
      try dsimp only
      refine ⟨fun _ => ⟨by omega, by omega⟩, ?_⟩
      by_cases c : ¬ (k : Int) < 0 ∧ (j : Int) < (k : Int) - 1
      · rw [if_pos c]
        have hcj := hc j (by omega)
        rw [show Int.toNat (j : Int) = j by omega]
        refine ⟨⟨by omega, by omega⟩, ?_⟩
        unfold WJ
        try dsimp only
        have hT : isPb (τ.2 176 j) = true → (if (1 : Int) = 0 then Q (-1) τ else inR ((j : Int) + 1) ∧ K ((j : Int) + 1) τ) := by
          intro hp
          rw [if_neg (by decide)]
          exact ⟨⟨by omega, by omega⟩, hI _ _ ⟨rfl, j + 1, by omega, by omega, by rw [hs, sk_go (by omega) hp]⟩ (by omega)⟩
        have hF : isPb (τ.2 176 j) = false → (if (0 : Int) = 0 then Q (-1) τ else inR ((j : Int) + 1) ∧ K ((j : Int) + 1) τ) := by
          intro hp
          rw [if_pos rfl]
          rw [hs, sk_stop hp, if_neg (by omega)] at h
          exact h
        generalize hcd : τ.2 176 j = cc at *
        by_cases g0 : ¬ cc = 32 ∧ ¬ cc = 10
        · rw [if_pos g0]
          refine sp_K_isLetter ?_
          rw [if_b1]
          by_cases g1 : isLt cc = true
          · rw [if_pos g1]
            exact hT (by simp [isPb, g1])
          · rw [if_neg g1]
            refine sp_K_isDigit ?_
            rw [if_b1]
            by_cases g2 : isDg cc = true
            · rw [if_pos g2]
              exact hT (by simp [isPb, g2])
            · rw [if_neg g2]
              have g3 := tF_neg (s := 1097) (c := cc) ⟨by omega, by omega⟩
              rw [ti_1097] at g3
              by_cases g4 : ¬ cc < 128 ∨ tF 1097 cc < 0
              · rw [if_pos g4]
                refine hF ?_
                rcases g4 with g4 | g4
                · simp [isPb, g0, g1, g2, g4]
                · have g5 : ¬ cc ∈ pbL := g3.mp g4
                  simp [isPb, g0, g1, g2, g5]
              · rw [if_neg g4]
                refine hT ?_
                have g5 : cc ∈ pbL := Classical.byContradiction (fun z => g4 (Or.inr (g3.mpr z)))
                have g6 : cc < 128 := by omega
                simp [isPb, g5, g6]
        · rw [if_neg g0]
          refine hT ?_
          have g1 : cc = 32 ∨ cc = 10 := by omega
          rcases g1 with g1 | g1 <;> simp [isPb, g1]
      · rw [if_neg c]
        have ej : j = k - 1 := by omega
        rw [hs, ej, sk_end (Nat.le_refl _), if_pos rfl] at h
        exact h
def outs (T : Nat → Int) (e : Nat) (o : Option Nat) : Option Nat := match wd T e [83, 89, 83, 84, 69, 77] o with
  | some k => ltl T e (spc T e (some k))
  | none => ltl T e (spc T e (plt T e (spc T e (wd T e [80, 85, 66, 76, 73, 67] o))))
theorem outs_le {T : Nat → Int} {o : Option Nat} : ple e (outs T e o) := by
  unfold outs
  split
  · exact ltl_le
  · exact ltl_le
theorem enc_neg {o : Option Nat} : (enc o < 0) ↔ o = none := by
  cases o with
  | none => exact ⟨fun _ => rfl, fun _ => by decide⟩
  | some i =>
    constructor
    · intro h
      have : ((i : Nat) : Int) < 0 := h
      omega
    · intro h; cases h
theorem sp_KReader_outside (hk : KT L σ e) (hc : chs σ e) {x : Int} (o : Option Nat) (hx : x = enc o) (ho : ple e o) (h : Q (enc (outs (σ.2 176) e o)) σ) : w_KReader_outside L x Q σ := by
  unfold w_KReader_outside
  refine sp_word hk o hx ho ti_1098 ?_
  unfold outs at h
  have hw := wdl_le (T := σ.2 176) ti_1098 ho
  cases hs : wd (σ.2 176) e [83, 89, 83, 84, 69, 77] o with
  | some k =>
    rw [hs] at h hw
    dsimp only at h
    rw [if_neg (by rw [enc_neg]; simp)]
    exact sp_KReader_spaces hk _ rfl hw (sp_KReader_literal hk _ rfl (spc_le hw) h)
  | none =>
    rw [hs] at h
    dsimp only at h
    rw [if_pos (by decide)]
    have hw2 := wdl_le (T := σ.2 176) ti_1099 ho
    exact sp_word hk o hx ho ti_1099 (sp_KReader_spaces hk _ rfl hw2 (sp_KReader_publicLiteral hk hc _ rfl (spc_le hw2) (sp_KReader_spaces hk _ rfl plt_le (sp_KReader_literal hk _ rfl (spc_le plt_le) h))))
end KPos2
