/-! ===== all that both programs read of the start ===== -/
/-- which constant a text is -/
def ksI : List (Nat × Nat) := [(0, 116), (0, 126), (7, 35), (7, 126), (7, 132), (7, 143), (7, 151), (7, 153), (7, 160), (7, 162), (7, 167), (7, 169), (7, 175), (7, 183), (7, 188), (7, 193), (7, 195), (7, 197), (7, 253), (7, 265), (7, 276), (5, 51), (5, 73), (5, 79), (5, 85), (5, 90), (5, 120), (5, 125), (5, 130), (5, 135), (5, 143), (5, 148), (5, 153), (5, 155), (5, 157), (5, 167), (5, 169), (5, 171), (5, 173), (5, 192), (5, 194), (5, 196), (5, 237), (5, 239), (5, 241), (5, 249), (3, 137), (9, 108), (9, 114), (9, 120), (2, 84), (2, 90), (2, 95), (2, 97), (2, 108), (2, 114), (2, 126), (2, 128), (2, 133), (2, 141), (2, 143), (2, 164), (2, 170), (2, 175), (1, 50), (1, 56), (1, 58), (1, 60), (1, 62), (1, 64), (1, 66), (1, 68), (1, 70), (1, 72), (1, 74), (1, 76), (1, 78), (1, 80), (1, 82), (1, 84), (1, 86), (1, 88), (1, 90), (8, 170), (8, 176), (11, 111), (11, 123), (11, 131), (11, 141), (11, 143), (11, 151), (11, 153), (11, 155), (11, 157), (11, 159), (11, 161), (14, 125), (15, 322), (15, 327), (15, 336), (15, 344), (15, 353), (15, 374), (15, 407), (15, 412), (15, 417), (15, 419), (15, 421), (15, 430), (15, 435), (15, 440), (15, 442), (15, 444), (15, 449), (15, 451), (15, 453), (15, 455), (15, 461), (15, 463), (15, 468), (15, 507), (15, 512), (15, 517), (15, 522), (15, 527), (15, 548), (15, 550), (15, 573), (15, 575), (15, 577), (15, 582), (15, 584), (15, 622), (15, 628), (15, 630), (15, 632), (15, 634), (15, 636), (15, 638), (15, 640), (15, 642), (15, 647), (15, 652), (15, 654), (15, 685), (15, 690), (15, 711), (15, 719), (15, 724), (15, 726), (15, 728), (15, 730), (15, 743), (15, 829), (15, 834), (15, 860), (16, 91), (16, 97), (16, 99), (16, 101), (16, 103), (16, 105), (16, 107), (16, 109), (16, 111), (16, 113), (16, 115), (16, 117), (16, 132), (16, 143), (16, 158), (16, 193), (16, 205), (16, 213), (16, 218), (16, 226)]
theorem ksI_ok : ∀ oc, oc < 17 → ∀ e ∈ ksT.getD oc [], (match e.2 with | .inl _ => true | .inr s => Nat.ble 1000 s && decide (ksI.getD (s - 1000) (99, 99) = (oc, e.1)) && Nat.blt (s - 1000) 176) = true := by decide +kernel
theorem mks_ksI {oc idx s : Nat} (h : mks oc idx = some (.inr s)) : 1000 ≤ s ∧ s < 1176 ∧ ksI.getD (s - 1000) (99, 99) = (oc, idx) := by
  have h0 := mks_1000 h
  unfold mks at h
  cases hf : (ksT.getD oc []).find? (fun e => e.1 == idx) with
  | none => rw [hf] at h; cases h
  | some e =>
    rw [hf] at h
    have hm := List.mem_of_find?_eq_some hf
    have hi : e.1 = idx := by simpa using List.find?_some hf
    have ho : oc < 17 := by
      rcases Nat.lt_or_ge oc 17 with z | z
      · exact z
      · rw [show ksT.getD oc [] = [] by rw [List.getD_eq_getElem?_getD, List.getElem?_eq_none (show ksT.length ≤ oc from z)]; rfl] at hm
        cases hm
    have hk := ksI_ok oc ho e hm
    have h2 : e.2 = .inr s := Option.some.inj h
    rw [h2] at hk
    simp only [Bool.and_eq_true, decide_eq_true_eq] at hk
    obtain ⟨⟨-, k2⟩, k3⟩ := hk
    have k3 : s - 1000 + 1 ≤ 176 := Nat.le_of_ble_eq_true k3
    exact ⟨h0, by omega, by rw [k2, hi]⟩
theorem stx_len : stxT.length = 176 := by decide +kernel
set_option maxRecDepth 100000 in
set_option maxHeartbeats 4000000 in
theorem mx_each {args : Array Value} {s : State} {A : Nat → Prop} (hn : ∀ c ∈ allN, c.before args s = true) (hT : ∀ w ∈ lw_tbl, w.before args s = true) (hA : ∀ a : Nat, a < s.heap.size → ¬ A a) : ∀ i : Nat, ∃ q v : Nat, i < 176 → sAt q v (stxT.getD i []) A s ∧ ∃ tx, vk_R (clsN (ksI.getD i (99, 99)).1) (ksI.getD i (99, 99)).2 tx q s := fun i => by
  match i with
  | 0 => obtain ⟨q, v, h1, h2⟩ := txm_1000 hn hT hA; exact ⟨q, v, fun _ => ⟨h1, _, h2⟩⟩
  | 1 => obtain ⟨q, v, h1, h2⟩ := txm_1001 hn hT hA; exact ⟨q, v, fun _ => ⟨h1, _, h2⟩⟩
  | 2 => obtain ⟨q, v, h1, h2⟩ := txm_1002 hn hT hA; exact ⟨q, v, fun _ => ⟨h1, _, h2⟩⟩
  | 3 => obtain ⟨q, v, h1, h2⟩ := txm_1003 hn hT hA; exact ⟨q, v, fun _ => ⟨h1, _, h2⟩⟩
  | 4 => obtain ⟨q, v, h1, h2⟩ := txm_1004 hn hT hA; exact ⟨q, v, fun _ => ⟨h1, _, h2⟩⟩
  | 5 => obtain ⟨q, v, h1, h2⟩ := txm_1005 hn hT hA; exact ⟨q, v, fun _ => ⟨h1, _, h2⟩⟩
  | 6 => obtain ⟨q, v, h1, h2⟩ := txm_1006 hn hT hA; exact ⟨q, v, fun _ => ⟨h1, _, h2⟩⟩
  | 7 => obtain ⟨q, v, h1, h2⟩ := txm_1007 hn hT hA; exact ⟨q, v, fun _ => ⟨h1, _, h2⟩⟩
  | 8 => obtain ⟨q, v, h1, h2⟩ := txm_1008 hn hT hA; exact ⟨q, v, fun _ => ⟨h1, _, h2⟩⟩
  | 9 => obtain ⟨q, v, h1, h2⟩ := txm_1009 hn hT hA; exact ⟨q, v, fun _ => ⟨h1, _, h2⟩⟩
  | 10 => obtain ⟨q, v, h1, h2⟩ := txm_1010 hn hT hA; exact ⟨q, v, fun _ => ⟨h1, _, h2⟩⟩
  | 11 => obtain ⟨q, v, h1, h2⟩ := txm_1011 hn hT hA; exact ⟨q, v, fun _ => ⟨h1, _, h2⟩⟩
  | 12 => obtain ⟨q, v, h1, h2⟩ := txm_1012 hn hT hA; exact ⟨q, v, fun _ => ⟨h1, _, h2⟩⟩
  | 13 => obtain ⟨q, v, h1, h2⟩ := txm_1013 hn hT hA; exact ⟨q, v, fun _ => ⟨h1, _, h2⟩⟩
  | 14 => obtain ⟨q, v, h1, h2⟩ := txm_1014 hn hT hA; exact ⟨q, v, fun _ => ⟨h1, _, h2⟩⟩
  | 15 => obtain ⟨q, v, h1, h2⟩ := txm_1015 hn hT hA; exact ⟨q, v, fun _ => ⟨h1, _, h2⟩⟩
  | 16 => obtain ⟨q, v, h1, h2⟩ := txm_1016 hn hT hA; exact ⟨q, v, fun _ => ⟨h1, _, h2⟩⟩
  | 17 => obtain ⟨q, v, h1, h2⟩ := txm_1017 hn hT hA; exact ⟨q, v, fun _ => ⟨h1, _, h2⟩⟩
  | 18 => obtain ⟨q, v, h1, h2⟩ := txm_1018 hn hT hA; exact ⟨q, v, fun _ => ⟨h1, _, h2⟩⟩
  | 19 => obtain ⟨q, v, h1, h2⟩ := txm_1019 hn hT hA; exact ⟨q, v, fun _ => ⟨h1, _, h2⟩⟩
  | 20 => obtain ⟨q, v, h1, h2⟩ := txm_1020 hn hT hA; exact ⟨q, v, fun _ => ⟨h1, _, h2⟩⟩
  | 21 => obtain ⟨q, v, h1, h2⟩ := txm_1021 hn hT hA; exact ⟨q, v, fun _ => ⟨h1, _, h2⟩⟩
  | 22 => obtain ⟨q, v, h1, h2⟩ := txm_1022 hn hT hA; exact ⟨q, v, fun _ => ⟨h1, _, h2⟩⟩
  | 23 => obtain ⟨q, v, h1, h2⟩ := txm_1023 hn hT hA; exact ⟨q, v, fun _ => ⟨h1, _, h2⟩⟩
  | 24 => obtain ⟨q, v, h1, h2⟩ := txm_1024 hn hT hA; exact ⟨q, v, fun _ => ⟨h1, _, h2⟩⟩
  | 25 => obtain ⟨q, v, h1, h2⟩ := txm_1025 hn hT hA; exact ⟨q, v, fun _ => ⟨h1, _, h2⟩⟩
  | 26 => obtain ⟨q, v, h1, h2⟩ := txm_1026 hn hT hA; exact ⟨q, v, fun _ => ⟨h1, _, h2⟩⟩
  | 27 => obtain ⟨q, v, h1, h2⟩ := txm_1027 hn hT hA; exact ⟨q, v, fun _ => ⟨h1, _, h2⟩⟩
  | 28 => obtain ⟨q, v, h1, h2⟩ := txm_1028 hn hT hA; exact ⟨q, v, fun _ => ⟨h1, _, h2⟩⟩
  | 29 => obtain ⟨q, v, h1, h2⟩ := txm_1029 hn hT hA; exact ⟨q, v, fun _ => ⟨h1, _, h2⟩⟩
  | 30 => obtain ⟨q, v, h1, h2⟩ := txm_1030 hn hT hA; exact ⟨q, v, fun _ => ⟨h1, _, h2⟩⟩
  | 31 => obtain ⟨q, v, h1, h2⟩ := txm_1031 hn hT hA; exact ⟨q, v, fun _ => ⟨h1, _, h2⟩⟩
  | 32 => obtain ⟨q, v, h1, h2⟩ := txm_1032 hn hT hA; exact ⟨q, v, fun _ => ⟨h1, _, h2⟩⟩
  | 33 => obtain ⟨q, v, h1, h2⟩ := txm_1033 hn hT hA; exact ⟨q, v, fun _ => ⟨h1, _, h2⟩⟩
  | 34 => obtain ⟨q, v, h1, h2⟩ := txm_1034 hn hT hA; exact ⟨q, v, fun _ => ⟨h1, _, h2⟩⟩
  | 35 => obtain ⟨q, v, h1, h2⟩ := txm_1035 hn hT hA; exact ⟨q, v, fun _ => ⟨h1, _, h2⟩⟩
  | 36 => obtain ⟨q, v, h1, h2⟩ := txm_1036 hn hT hA; exact ⟨q, v, fun _ => ⟨h1, _, h2⟩⟩
  | 37 => obtain ⟨q, v, h1, h2⟩ := txm_1037 hn hT hA; exact ⟨q, v, fun _ => ⟨h1, _, h2⟩⟩
  | 38 => obtain ⟨q, v, h1, h2⟩ := txm_1038 hn hT hA; exact ⟨q, v, fun _ => ⟨h1, _, h2⟩⟩
  | 39 => obtain ⟨q, v, h1, h2⟩ := txm_1039 hn hT hA; exact ⟨q, v, fun _ => ⟨h1, _, h2⟩⟩
  | 40 => obtain ⟨q, v, h1, h2⟩ := txm_1040 hn hT hA; exact ⟨q, v, fun _ => ⟨h1, _, h2⟩⟩
  | 41 => obtain ⟨q, v, h1, h2⟩ := txm_1041 hn hT hA; exact ⟨q, v, fun _ => ⟨h1, _, h2⟩⟩
  | 42 => obtain ⟨q, v, h1, h2⟩ := txm_1042 hn hT hA; exact ⟨q, v, fun _ => ⟨h1, _, h2⟩⟩
  | 43 => obtain ⟨q, v, h1, h2⟩ := txm_1043 hn hT hA; exact ⟨q, v, fun _ => ⟨h1, _, h2⟩⟩
  | 44 => obtain ⟨q, v, h1, h2⟩ := txm_1044 hn hT hA; exact ⟨q, v, fun _ => ⟨h1, _, h2⟩⟩
  | 45 => obtain ⟨q, v, h1, h2⟩ := txm_1045 hn hT hA; exact ⟨q, v, fun _ => ⟨h1, _, h2⟩⟩
  | 46 => obtain ⟨q, v, h1, h2⟩ := txm_1046 hn hT hA; exact ⟨q, v, fun _ => ⟨h1, _, h2⟩⟩
  | 47 => obtain ⟨q, v, h1, h2⟩ := txm_1047 hn hT hA; exact ⟨q, v, fun _ => ⟨h1, _, h2⟩⟩
  | 48 => obtain ⟨q, v, h1, h2⟩ := txm_1048 hn hT hA; exact ⟨q, v, fun _ => ⟨h1, _, h2⟩⟩
  | 49 => obtain ⟨q, v, h1, h2⟩ := txm_1049 hn hT hA; exact ⟨q, v, fun _ => ⟨h1, _, h2⟩⟩
  | 50 => obtain ⟨q, v, h1, h2⟩ := txm_1050 hn hT hA; exact ⟨q, v, fun _ => ⟨h1, _, h2⟩⟩
  | 51 => obtain ⟨q, v, h1, h2⟩ := txm_1051 hn hT hA; exact ⟨q, v, fun _ => ⟨h1, _, h2⟩⟩
  | 52 => obtain ⟨q, v, h1, h2⟩ := txm_1052 hn hT hA; exact ⟨q, v, fun _ => ⟨h1, _, h2⟩⟩
  | 53 => obtain ⟨q, v, h1, h2⟩ := txm_1053 hn hT hA; exact ⟨q, v, fun _ => ⟨h1, _, h2⟩⟩
  | 54 => obtain ⟨q, v, h1, h2⟩ := txm_1054 hn hT hA; exact ⟨q, v, fun _ => ⟨h1, _, h2⟩⟩
  | 55 => obtain ⟨q, v, h1, h2⟩ := txm_1055 hn hT hA; exact ⟨q, v, fun _ => ⟨h1, _, h2⟩⟩
  | 56 => obtain ⟨q, v, h1, h2⟩ := txm_1056 hn hT hA; exact ⟨q, v, fun _ => ⟨h1, _, h2⟩⟩
  | 57 => obtain ⟨q, v, h1, h2⟩ := txm_1057 hn hT hA; exact ⟨q, v, fun _ => ⟨h1, _, h2⟩⟩
  | 58 => obtain ⟨q, v, h1, h2⟩ := txm_1058 hn hT hA; exact ⟨q, v, fun _ => ⟨h1, _, h2⟩⟩
  | 59 => obtain ⟨q, v, h1, h2⟩ := txm_1059 hn hT hA; exact ⟨q, v, fun _ => ⟨h1, _, h2⟩⟩
  | 60 => obtain ⟨q, v, h1, h2⟩ := txm_1060 hn hT hA; exact ⟨q, v, fun _ => ⟨h1, _, h2⟩⟩
  | 61 => obtain ⟨q, v, h1, h2⟩ := txm_1061 hn hT hA; exact ⟨q, v, fun _ => ⟨h1, _, h2⟩⟩
  | 62 => obtain ⟨q, v, h1, h2⟩ := txm_1062 hn hT hA; exact ⟨q, v, fun _ => ⟨h1, _, h2⟩⟩
  | 63 => obtain ⟨q, v, h1, h2⟩ := txm_1063 hn hT hA; exact ⟨q, v, fun _ => ⟨h1, _, h2⟩⟩
  | 64 => obtain ⟨q, v, h1, h2⟩ := txm_1064 hn hT hA; exact ⟨q, v, fun _ => ⟨h1, _, h2⟩⟩
  | 65 => obtain ⟨q, v, h1, h2⟩ := txm_1065 hn hT hA; exact ⟨q, v, fun _ => ⟨h1, _, h2⟩⟩
  | 66 => obtain ⟨q, v, h1, h2⟩ := txm_1066 hn hT hA; exact ⟨q, v, fun _ => ⟨h1, _, h2⟩⟩
  | 67 => obtain ⟨q, v, h1, h2⟩ := txm_1067 hn hT hA; exact ⟨q, v, fun _ => ⟨h1, _, h2⟩⟩
  | 68 => obtain ⟨q, v, h1, h2⟩ := txm_1068 hn hT hA; exact ⟨q, v, fun _ => ⟨h1, _, h2⟩⟩
  | 69 => obtain ⟨q, v, h1, h2⟩ := txm_1069 hn hT hA; exact ⟨q, v, fun _ => ⟨h1, _, h2⟩⟩
  | 70 => obtain ⟨q, v, h1, h2⟩ := txm_1070 hn hT hA; exact ⟨q, v, fun _ => ⟨h1, _, h2⟩⟩
  | 71 => obtain ⟨q, v, h1, h2⟩ := txm_1071 hn hT hA; exact ⟨q, v, fun _ => ⟨h1, _, h2⟩⟩
  | 72 => obtain ⟨q, v, h1, h2⟩ := txm_1072 hn hT hA; exact ⟨q, v, fun _ => ⟨h1, _, h2⟩⟩
  | 73 => obtain ⟨q, v, h1, h2⟩ := txm_1073 hn hT hA; exact ⟨q, v, fun _ => ⟨h1, _, h2⟩⟩
  | 74 => obtain ⟨q, v, h1, h2⟩ := txm_1074 hn hT hA; exact ⟨q, v, fun _ => ⟨h1, _, h2⟩⟩
  | 75 => obtain ⟨q, v, h1, h2⟩ := txm_1075 hn hT hA; exact ⟨q, v, fun _ => ⟨h1, _, h2⟩⟩
  | 76 => obtain ⟨q, v, h1, h2⟩ := txm_1076 hn hT hA; exact ⟨q, v, fun _ => ⟨h1, _, h2⟩⟩
  | 77 => obtain ⟨q, v, h1, h2⟩ := txm_1077 hn hT hA; exact ⟨q, v, fun _ => ⟨h1, _, h2⟩⟩
  | 78 => obtain ⟨q, v, h1, h2⟩ := txm_1078 hn hT hA; exact ⟨q, v, fun _ => ⟨h1, _, h2⟩⟩
  | 79 => obtain ⟨q, v, h1, h2⟩ := txm_1079 hn hT hA; exact ⟨q, v, fun _ => ⟨h1, _, h2⟩⟩
  | 80 => obtain ⟨q, v, h1, h2⟩ := txm_1080 hn hT hA; exact ⟨q, v, fun _ => ⟨h1, _, h2⟩⟩
  | 81 => obtain ⟨q, v, h1, h2⟩ := txm_1081 hn hT hA; exact ⟨q, v, fun _ => ⟨h1, _, h2⟩⟩
  | 82 => obtain ⟨q, v, h1, h2⟩ := txm_1082 hn hT hA; exact ⟨q, v, fun _ => ⟨h1, _, h2⟩⟩
  | 83 => obtain ⟨q, v, h1, h2⟩ := txm_1083 hn hT hA; exact ⟨q, v, fun _ => ⟨h1, _, h2⟩⟩
  | 84 => obtain ⟨q, v, h1, h2⟩ := txm_1084 hn hT hA; exact ⟨q, v, fun _ => ⟨h1, _, h2⟩⟩
  | 85 => obtain ⟨q, v, h1, h2⟩ := txm_1085 hn hT hA; exact ⟨q, v, fun _ => ⟨h1, _, h2⟩⟩
  | 86 => obtain ⟨q, v, h1, h2⟩ := txm_1086 hn hT hA; exact ⟨q, v, fun _ => ⟨h1, _, h2⟩⟩
  | 87 => obtain ⟨q, v, h1, h2⟩ := txm_1087 hn hT hA; exact ⟨q, v, fun _ => ⟨h1, _, h2⟩⟩
  | 88 => obtain ⟨q, v, h1, h2⟩ := txm_1088 hn hT hA; exact ⟨q, v, fun _ => ⟨h1, _, h2⟩⟩
  | 89 => obtain ⟨q, v, h1, h2⟩ := txm_1089 hn hT hA; exact ⟨q, v, fun _ => ⟨h1, _, h2⟩⟩
  | 90 => obtain ⟨q, v, h1, h2⟩ := txm_1090 hn hT hA; exact ⟨q, v, fun _ => ⟨h1, _, h2⟩⟩
  | 91 => obtain ⟨q, v, h1, h2⟩ := txm_1091 hn hT hA; exact ⟨q, v, fun _ => ⟨h1, _, h2⟩⟩
  | 92 => obtain ⟨q, v, h1, h2⟩ := txm_1092 hn hT hA; exact ⟨q, v, fun _ => ⟨h1, _, h2⟩⟩
  | 93 => obtain ⟨q, v, h1, h2⟩ := txm_1093 hn hT hA; exact ⟨q, v, fun _ => ⟨h1, _, h2⟩⟩
  | 94 => obtain ⟨q, v, h1, h2⟩ := txm_1094 hn hT hA; exact ⟨q, v, fun _ => ⟨h1, _, h2⟩⟩
  | 95 => obtain ⟨q, v, h1, h2⟩ := txm_1095 hn hT hA; exact ⟨q, v, fun _ => ⟨h1, _, h2⟩⟩
  | 96 => obtain ⟨q, v, h1, h2⟩ := txm_1096 hn hT hA; exact ⟨q, v, fun _ => ⟨h1, _, h2⟩⟩
  | 97 => obtain ⟨q, v, h1, h2⟩ := txm_1097 hn hT hA; exact ⟨q, v, fun _ => ⟨h1, _, h2⟩⟩
  | 98 => obtain ⟨q, v, h1, h2⟩ := txm_1098 hn hT hA; exact ⟨q, v, fun _ => ⟨h1, _, h2⟩⟩
  | 99 => obtain ⟨q, v, h1, h2⟩ := txm_1099 hn hT hA; exact ⟨q, v, fun _ => ⟨h1, _, h2⟩⟩
  | 100 => obtain ⟨q, v, h1, h2⟩ := txm_1100 hn hT hA; exact ⟨q, v, fun _ => ⟨h1, _, h2⟩⟩
  | 101 => obtain ⟨q, v, h1, h2⟩ := txm_1101 hn hT hA; exact ⟨q, v, fun _ => ⟨h1, _, h2⟩⟩
  | 102 => obtain ⟨q, v, h1, h2⟩ := txm_1102 hn hT hA; exact ⟨q, v, fun _ => ⟨h1, _, h2⟩⟩
  | 103 => obtain ⟨q, v, h1, h2⟩ := txm_1103 hn hT hA; exact ⟨q, v, fun _ => ⟨h1, _, h2⟩⟩
  | 104 => obtain ⟨q, v, h1, h2⟩ := txm_1104 hn hT hA; exact ⟨q, v, fun _ => ⟨h1, _, h2⟩⟩
  | 105 => obtain ⟨q, v, h1, h2⟩ := txm_1105 hn hT hA; exact ⟨q, v, fun _ => ⟨h1, _, h2⟩⟩
  | 106 => obtain ⟨q, v, h1, h2⟩ := txm_1106 hn hT hA; exact ⟨q, v, fun _ => ⟨h1, _, h2⟩⟩
  | 107 => obtain ⟨q, v, h1, h2⟩ := txm_1107 hn hT hA; exact ⟨q, v, fun _ => ⟨h1, _, h2⟩⟩
  | 108 => obtain ⟨q, v, h1, h2⟩ := txm_1108 hn hT hA; exact ⟨q, v, fun _ => ⟨h1, _, h2⟩⟩
  | 109 => obtain ⟨q, v, h1, h2⟩ := txm_1109 hn hT hA; exact ⟨q, v, fun _ => ⟨h1, _, h2⟩⟩
  | 110 => obtain ⟨q, v, h1, h2⟩ := txm_1110 hn hT hA; exact ⟨q, v, fun _ => ⟨h1, _, h2⟩⟩
  | 111 => obtain ⟨q, v, h1, h2⟩ := txm_1111 hn hT hA; exact ⟨q, v, fun _ => ⟨h1, _, h2⟩⟩
  | 112 => obtain ⟨q, v, h1, h2⟩ := txm_1112 hn hT hA; exact ⟨q, v, fun _ => ⟨h1, _, h2⟩⟩
  | 113 => obtain ⟨q, v, h1, h2⟩ := txm_1113 hn hT hA; exact ⟨q, v, fun _ => ⟨h1, _, h2⟩⟩
  | 114 => obtain ⟨q, v, h1, h2⟩ := txm_1114 hn hT hA; exact ⟨q, v, fun _ => ⟨h1, _, h2⟩⟩
  | 115 => obtain ⟨q, v, h1, h2⟩ := txm_1115 hn hT hA; exact ⟨q, v, fun _ => ⟨h1, _, h2⟩⟩
  | 116 => obtain ⟨q, v, h1, h2⟩ := txm_1116 hn hT hA; exact ⟨q, v, fun _ => ⟨h1, _, h2⟩⟩
  | 117 => obtain ⟨q, v, h1, h2⟩ := txm_1117 hn hT hA; exact ⟨q, v, fun _ => ⟨h1, _, h2⟩⟩
  | 118 => obtain ⟨q, v, h1, h2⟩ := txm_1118 hn hT hA; exact ⟨q, v, fun _ => ⟨h1, _, h2⟩⟩
  | 119 => obtain ⟨q, v, h1, h2⟩ := txm_1119 hn hT hA; exact ⟨q, v, fun _ => ⟨h1, _, h2⟩⟩
  | 120 => obtain ⟨q, v, h1, h2⟩ := txm_1120 hn hT hA; exact ⟨q, v, fun _ => ⟨h1, _, h2⟩⟩
  | 121 => obtain ⟨q, v, h1, h2⟩ := txm_1121 hn hT hA; exact ⟨q, v, fun _ => ⟨h1, _, h2⟩⟩
  | 122 => obtain ⟨q, v, h1, h2⟩ := txm_1122 hn hT hA; exact ⟨q, v, fun _ => ⟨h1, _, h2⟩⟩
  | 123 => obtain ⟨q, v, h1, h2⟩ := txm_1123 hn hT hA; exact ⟨q, v, fun _ => ⟨h1, _, h2⟩⟩
  | 124 => obtain ⟨q, v, h1, h2⟩ := txm_1124 hn hT hA; exact ⟨q, v, fun _ => ⟨h1, _, h2⟩⟩
  | 125 => obtain ⟨q, v, h1, h2⟩ := txm_1125 hn hT hA; exact ⟨q, v, fun _ => ⟨h1, _, h2⟩⟩
  | 126 => obtain ⟨q, v, h1, h2⟩ := txm_1126 hn hT hA; exact ⟨q, v, fun _ => ⟨h1, _, h2⟩⟩
  | 127 => obtain ⟨q, v, h1, h2⟩ := txm_1127 hn hT hA; exact ⟨q, v, fun _ => ⟨h1, _, h2⟩⟩
  | 128 => obtain ⟨q, v, h1, h2⟩ := txm_1128 hn hT hA; exact ⟨q, v, fun _ => ⟨h1, _, h2⟩⟩
  | 129 => obtain ⟨q, v, h1, h2⟩ := txm_1129 hn hT hA; exact ⟨q, v, fun _ => ⟨h1, _, h2⟩⟩
  | 130 => obtain ⟨q, v, h1, h2⟩ := txm_1130 hn hT hA; exact ⟨q, v, fun _ => ⟨h1, _, h2⟩⟩
  | 131 => obtain ⟨q, v, h1, h2⟩ := txm_1131 hn hT hA; exact ⟨q, v, fun _ => ⟨h1, _, h2⟩⟩
  | 132 => obtain ⟨q, v, h1, h2⟩ := txm_1132 hn hT hA; exact ⟨q, v, fun _ => ⟨h1, _, h2⟩⟩
  | 133 => obtain ⟨q, v, h1, h2⟩ := txm_1133 hn hT hA; exact ⟨q, v, fun _ => ⟨h1, _, h2⟩⟩
  | 134 => obtain ⟨q, v, h1, h2⟩ := txm_1134 hn hT hA; exact ⟨q, v, fun _ => ⟨h1, _, h2⟩⟩
  | 135 => obtain ⟨q, v, h1, h2⟩ := txm_1135 hn hT hA; exact ⟨q, v, fun _ => ⟨h1, _, h2⟩⟩
  | 136 => obtain ⟨q, v, h1, h2⟩ := txm_1136 hn hT hA; exact ⟨q, v, fun _ => ⟨h1, _, h2⟩⟩
  | 137 => obtain ⟨q, v, h1, h2⟩ := txm_1137 hn hT hA; exact ⟨q, v, fun _ => ⟨h1, _, h2⟩⟩
  | 138 => obtain ⟨q, v, h1, h2⟩ := txm_1138 hn hT hA; exact ⟨q, v, fun _ => ⟨h1, _, h2⟩⟩
  | 139 => obtain ⟨q, v, h1, h2⟩ := txm_1139 hn hT hA; exact ⟨q, v, fun _ => ⟨h1, _, h2⟩⟩
  | 140 => obtain ⟨q, v, h1, h2⟩ := txm_1140 hn hT hA; exact ⟨q, v, fun _ => ⟨h1, _, h2⟩⟩
  | 141 => obtain ⟨q, v, h1, h2⟩ := txm_1141 hn hT hA; exact ⟨q, v, fun _ => ⟨h1, _, h2⟩⟩
  | 142 => obtain ⟨q, v, h1, h2⟩ := txm_1142 hn hT hA; exact ⟨q, v, fun _ => ⟨h1, _, h2⟩⟩
  | 143 => obtain ⟨q, v, h1, h2⟩ := txm_1143 hn hT hA; exact ⟨q, v, fun _ => ⟨h1, _, h2⟩⟩
  | 144 => obtain ⟨q, v, h1, h2⟩ := txm_1144 hn hT hA; exact ⟨q, v, fun _ => ⟨h1, _, h2⟩⟩
  | 145 => obtain ⟨q, v, h1, h2⟩ := txm_1145 hn hT hA; exact ⟨q, v, fun _ => ⟨h1, _, h2⟩⟩
  | 146 => obtain ⟨q, v, h1, h2⟩ := txm_1146 hn hT hA; exact ⟨q, v, fun _ => ⟨h1, _, h2⟩⟩
  | 147 => obtain ⟨q, v, h1, h2⟩ := txm_1147 hn hT hA; exact ⟨q, v, fun _ => ⟨h1, _, h2⟩⟩
  | 148 => obtain ⟨q, v, h1, h2⟩ := txm_1148 hn hT hA; exact ⟨q, v, fun _ => ⟨h1, _, h2⟩⟩
  | 149 => obtain ⟨q, v, h1, h2⟩ := txm_1149 hn hT hA; exact ⟨q, v, fun _ => ⟨h1, _, h2⟩⟩
  | 150 => obtain ⟨q, v, h1, h2⟩ := txm_1150 hn hT hA; exact ⟨q, v, fun _ => ⟨h1, _, h2⟩⟩
  | 151 => obtain ⟨q, v, h1, h2⟩ := txm_1151 hn hT hA; exact ⟨q, v, fun _ => ⟨h1, _, h2⟩⟩
  | 152 => obtain ⟨q, v, h1, h2⟩ := txm_1152 hn hT hA; exact ⟨q, v, fun _ => ⟨h1, _, h2⟩⟩
  | 153 => obtain ⟨q, v, h1, h2⟩ := txm_1153 hn hT hA; exact ⟨q, v, fun _ => ⟨h1, _, h2⟩⟩
  | 154 => obtain ⟨q, v, h1, h2⟩ := txm_1154 hn hT hA; exact ⟨q, v, fun _ => ⟨h1, _, h2⟩⟩
  | 155 => obtain ⟨q, v, h1, h2⟩ := txm_1155 hn hT hA; exact ⟨q, v, fun _ => ⟨h1, _, h2⟩⟩
  | 156 => obtain ⟨q, v, h1, h2⟩ := txm_1156 hn hT hA; exact ⟨q, v, fun _ => ⟨h1, _, h2⟩⟩
  | 157 => obtain ⟨q, v, h1, h2⟩ := txm_1157 hn hT hA; exact ⟨q, v, fun _ => ⟨h1, _, h2⟩⟩
  | 158 => obtain ⟨q, v, h1, h2⟩ := txm_1158 hn hT hA; exact ⟨q, v, fun _ => ⟨h1, _, h2⟩⟩
  | 159 => obtain ⟨q, v, h1, h2⟩ := txm_1159 hn hT hA; exact ⟨q, v, fun _ => ⟨h1, _, h2⟩⟩
  | 160 => obtain ⟨q, v, h1, h2⟩ := txm_1160 hn hT hA; exact ⟨q, v, fun _ => ⟨h1, _, h2⟩⟩
  | 161 => obtain ⟨q, v, h1, h2⟩ := txm_1161 hn hT hA; exact ⟨q, v, fun _ => ⟨h1, _, h2⟩⟩
  | 162 => obtain ⟨q, v, h1, h2⟩ := txm_1162 hn hT hA; exact ⟨q, v, fun _ => ⟨h1, _, h2⟩⟩
  | 163 => obtain ⟨q, v, h1, h2⟩ := txm_1163 hn hT hA; exact ⟨q, v, fun _ => ⟨h1, _, h2⟩⟩
  | 164 => obtain ⟨q, v, h1, h2⟩ := txm_1164 hn hT hA; exact ⟨q, v, fun _ => ⟨h1, _, h2⟩⟩
  | 165 => obtain ⟨q, v, h1, h2⟩ := txm_1165 hn hT hA; exact ⟨q, v, fun _ => ⟨h1, _, h2⟩⟩
  | 166 => obtain ⟨q, v, h1, h2⟩ := txm_1166 hn hT hA; exact ⟨q, v, fun _ => ⟨h1, _, h2⟩⟩
  | 167 => obtain ⟨q, v, h1, h2⟩ := txm_1167 hn hT hA; exact ⟨q, v, fun _ => ⟨h1, _, h2⟩⟩
  | 168 => obtain ⟨q, v, h1, h2⟩ := txm_1168 hn hT hA; exact ⟨q, v, fun _ => ⟨h1, _, h2⟩⟩
  | 169 => obtain ⟨q, v, h1, h2⟩ := txm_1169 hn hT hA; exact ⟨q, v, fun _ => ⟨h1, _, h2⟩⟩
  | 170 => obtain ⟨q, v, h1, h2⟩ := txm_1170 hn hT hA; exact ⟨q, v, fun _ => ⟨h1, _, h2⟩⟩
  | 171 => obtain ⟨q, v, h1, h2⟩ := txm_1171 hn hT hA; exact ⟨q, v, fun _ => ⟨h1, _, h2⟩⟩
  | 172 => obtain ⟨q, v, h1, h2⟩ := txm_1172 hn hT hA; exact ⟨q, v, fun _ => ⟨h1, _, h2⟩⟩
  | 173 => obtain ⟨q, v, h1, h2⟩ := txm_1173 hn hT hA; exact ⟨q, v, fun _ => ⟨h1, _, h2⟩⟩
  | 174 => obtain ⟨q, v, h1, h2⟩ := txm_1174 hn hT hA; exact ⟨q, v, fun _ => ⟨h1, _, h2⟩⟩
  | 175 => obtain ⟨q, v, h1, h2⟩ := txm_1175 hn hT hA; exact ⟨q, v, fun _ => ⟨h1, _, h2⟩⟩
  | n + 176 => exact ⟨0, 0, fun h => absurd h (by omega)⟩
def srW_0 : List Cond := [Cond.arrayOf (.static "MarkupJudge$Store" "LEAST" "[I") .int, Cond.eq (.length (.static "MarkupJudge$Store" "LEAST" "[I")) (.int (Int32.ofNat 4))] ++ (List.range 4).map (fun j => Cond.eq (.elem (.static "MarkupJudge$Store" "LEAST" "[I") (.int (Int32.ofNat j))) (.int (((srT.getD 0 []).getD j 0))))
set_option maxRecDepth 100000 in
theorem srW_0_in : ∀ w ∈ srW_0, w ∈ allN := fun w hw => by
  have h : [216, 217, 218, 219, 220, 221].map (fun i => allN[i]?) = srW_0.map some := by decide +kernel
  have h1 : some w ∈ srW_0.map some := List.mem_map.mpr ⟨w, hw, rfl⟩
  rw [← h] at h1
  obtain ⟨i, -, hi⟩ := List.mem_map.mp h1
  exact List.mem_of_getElem? hi
theorem sr_0 {args : Array Value} {s : State} {A : Nat → Prop} (hn : ∀ c ∈ allN, c.before args s = true) (hT : ∀ w ∈ lw_tbl, w.before args s = true) (hA : ∀ a : Nat, a < s.heap.size → ¬ A a) : ∃ q, va_T .int q 4 (fun j => .int ((srT.getD 0 []).getD j 0)) A s s.heap ∧ va_Z "MarkupJudge$Store" "LEAST" "[I" (.ref q) A s s.heap := by
  obtain ⟨q, h1, h2⟩ := va_Tof (args := args) (tm := .static "MarkupJudge$Store" "LEAST" "[I") (ty := .int) (N := 4) (f := fun j => .int ((srT.getD 0 []).getD j 0)) (A := A) (by decide) (hn _ (srW_0_in _ (List.mem_append_left _ (List.mem_of_getElem? (i := 0) rfl)))) (va_eqt (hn _ (srW_0_in _ (List.mem_append_left _ (List.mem_of_getElem? (i := 1) rfl))))) (fun j hj => va_eqt (hn _ (srW_0_in _ (List.mem_append_right _ (List.mem_map.mpr ⟨j, List.mem_range.mpr hj, rfl⟩))))) hA
  exact ⟨q, h2, va_Zof (hT _ (t_5 (List.mem_of_getElem? (i := 225) rfl))) (hT _ (t_1 (List.mem_of_getElem? (i := 2) rfl))) h1 hA⟩
def srW_1 : List Cond := [Cond.arrayOf (.static "MarkupJudge$Reader" "NAME_STARTS" "[I") .int, Cond.eq (.length (.static "MarkupJudge$Reader" "NAME_STARTS" "[I")) (.int (Int32.ofNat 24))] ++ (List.range 24).map (fun j => Cond.eq (.elem (.static "MarkupJudge$Reader" "NAME_STARTS" "[I") (.int (Int32.ofNat j))) (.int (((srT.getD 1 []).getD j 0))))
set_option maxRecDepth 100000 in
theorem srW_1_in : ∀ w ∈ srW_1, w ∈ allN := fun w hw => by
  have h : [223, 224, 225, 226, 227, 228, 229, 230, 231, 232, 233, 234, 235, 236, 237, 238, 239, 240, 241, 242, 243, 244, 245, 246, 247, 248].map (fun i => allN[i]?) = srW_1.map some := by decide +kernel
  have h1 : some w ∈ srW_1.map some := List.mem_map.mpr ⟨w, hw, rfl⟩
  rw [← h] at h1
  obtain ⟨i, -, hi⟩ := List.mem_map.mp h1
  exact List.mem_of_getElem? hi
theorem sr_1 {args : Array Value} {s : State} {A : Nat → Prop} (hn : ∀ c ∈ allN, c.before args s = true) (hT : ∀ w ∈ lw_tbl, w.before args s = true) (hA : ∀ a : Nat, a < s.heap.size → ¬ A a) : ∃ q, va_T .int q 24 (fun j => .int ((srT.getD 1 []).getD j 0)) A s s.heap ∧ va_Z "MarkupJudge$Reader" "NAME_STARTS" "[I" (.ref q) A s s.heap := by
  obtain ⟨q, h1, h2⟩ := va_Tof (args := args) (tm := .static "MarkupJudge$Reader" "NAME_STARTS" "[I") (ty := .int) (N := 24) (f := fun j => .int ((srT.getD 1 []).getD j 0)) (A := A) (by decide) (hn _ (srW_1_in _ (List.mem_append_left _ (List.mem_of_getElem? (i := 0) rfl)))) (va_eqt (hn _ (srW_1_in _ (List.mem_append_left _ (List.mem_of_getElem? (i := 1) rfl))))) (fun j hj => va_eqt (hn _ (srW_1_in _ (List.mem_append_right _ (List.mem_map.mpr ⟨j, List.mem_range.mpr hj, rfl⟩))))) hA
  exact ⟨q, h2, va_Zof (hT _ (t_6 (List.mem_of_getElem? (i := 115) rfl))) (hT _ (t_1 (List.mem_of_getElem? (i := 9) rfl))) h1 hA⟩
theorem ns_in : ∀ w ∈ nsT, w ∈ lw_tbl := fun w hw => by
  simp only [nsT, List.mem_cons, List.not_mem_nil, or_false] at hw
  rcases hw with rfl | rfl | rfl | rfl | rfl | rfl | rfl | rfl | rfl
  · exact t_14 (List.mem_of_getElem? (i := 9) rfl)
  · exact t_12 (List.mem_of_getElem? (i := 21) rfl)
  · exact t_12 (List.mem_of_getElem? (i := 12) rfl)
  · exact t_12 (List.mem_of_getElem? (i := 52) rfl)
  · exact t_12 (List.mem_of_getElem? (i := 149) rfl)
  · exact t_12 (List.mem_of_getElem? (i := 156) rfl)
  · exact t_12 (List.mem_of_getElem? (i := 93) rfl)
  · exact t_12 (List.mem_of_getElem? (i := 81) rfl)
  · exact t_12 (List.mem_of_getElem? (i := 110) rfl)
theorem ns_on : ∀ w ∈ nsT, w.onTables = true := by decide +kernel
theorem ns_nest : ∀ w ∈ nsT, ∃ (a : String) (i : Nat) (x : MethodName) (h : String), w = .methodLinkNest a i x h := fun w hw => by
  simp only [nsT, List.mem_cons, List.not_mem_nil, or_false] at hw
  rcases hw with rfl | rfl | rfl | rfl | rfl | rfl | rfl | rfl | rfl <;> exact ⟨_, _, _, _, rfl⟩
theorem MX.ro {adr : Nat → Nat} : Ro (MX adr) := fun A A' s U h hA hh hw => by
  obtain ⟨h1, h2, h3, h4, h5, h6, h7⟩ := h
  exact ⟨sJ.ro A A' s U h1 hA hh hw, fun k bs hk => sAt.ro A A' s U (h2 k bs hk) hA hh hw, fun oc idx k hk => (h3 oc idx k hk).imp (fun tx ht => vk_R.warm hw ht), fun r l hr => va_T.moved hw.alike (((h4 r l hr).kept hh).narrow hA), va_Z.moved hw.alike ((h5.kept hh).narrow hA), va_Z.moved hw.alike ((h6.kept hh).narrow hA), fun w hw' a => by
    obtain ⟨c1, c2, c3, c4, rfl⟩ := ns_nest w hw'
    exact va_Nw.use rfl (va_Nw.warmM hw (h7 _ hw' #[]))⟩
set_option maxRecDepth 100000 in
theorem MX_start {args : Array Value} {s : State} {A : Nat → Prop} (hn : ∀ c ∈ allN, c.before args s = true) (hT : ∀ w ∈ lw_tbl, w.before args s = true) (hA : ∀ a : Nat, a < s.heap.size → ¬ A a) : ∃ adr : Nat → Nat, MX adr A s := by
  obtain ⟨fq, hq⟩ := Classical.axiomOfChoice (mx_each hn hT hA)
  obtain ⟨fw, hE⟩ := Classical.axiomOfChoice hq
  obtain ⟨q0, h01, h02⟩ := sr_0 hn hT hA
  obtain ⟨q1, h11, h12⟩ := sr_1 hn hT hA
  refine ⟨fun k => if k < 1176 then fq (k - 1000) else if k = 2000 then q0 else if k = 2001 then q1 else fw (k - 4000), sJ_start hn hT hA, fun k bs hk => ?_, fun oc idx k hk => ?_, fun r lst hr => ?_, ?_, ?_, fun w hw a => ?_⟩
  · unfold stx at hk
    split at hk
    · rename_i hk0
      have hlt : k - 1000 < 176 := by rw [← stx_len]; exact (List.getElem?_eq_some_iff.mp hk).1
      have hsp := hE (k - 1000) hlt
      dsimp only
      rw [if_pos (by omega), if_neg (by omega), if_neg (by omega), if_neg (by omega), show 3000 + k - 4000 = k - 1000 by omega]
      rw [show stxT.getD (k - 1000) [] = bs by rw [List.getD_eq_getElem?_getD, hk]; rfl] at hsp
      exact hsp.1
    · cases hk
  · obtain ⟨k0, k1, k2⟩ := mks_ksI hk
    have hsp := hE (k - 1000) (by omega)
    dsimp only
    rw [if_pos k1]
    obtain ⟨tx, ht⟩ := hsp.2
    generalize ksI.getD (k - 1000) (99, 99) = pr at k2 ht
    subst k2
    exact ⟨tx, ht⟩
  · unfold srow at hr
    split at hr
    · rename_i hr0
      have hlt : r - 2000 < 2 := (List.getElem?_eq_some_iff.mp hr).1
      rcases (show r = 2000 ∨ r = 2001 by omega) with rfl | rfl
      · have e : lst = srT.getD 0 [] := by rw [List.getD_eq_getElem?_getD]; have hr : srT[0]? = some lst := hr; rw [hr]; rfl
        rw [e]
        exact h01
      · have e : lst = srT.getD 1 [] := by rw [List.getD_eq_getElem?_getD]; have hr : srT[1]? = some lst := hr; rw [hr]; rfl
        rw [e]
        exact h11
    · cases hr
  · exact h02
  · exact h12
  · exact va_tabs (ns_on w hw) rfl (hT w (ns_in w hw))
