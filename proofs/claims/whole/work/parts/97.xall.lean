/-! Every method passes its check. -/
theorem xall : ∀ y, y < 155 → xchk y = true := by
  intro y hy
  rcases Nat.lt_or_ge y 77 with h0_155 | h0_155
  · skip
    rcases Nat.lt_or_ge y 38 with h0_77 | h0_77
    · skip
      rcases Nat.lt_or_ge y 19 with h0_38 | h0_38
      · skip
        rcases Nat.lt_or_ge y 9 with h0_19 | h0_19
        · skip
          rcases Nat.lt_or_ge y 4 with h0_9 | h0_9
          · skip
            rcases Nat.lt_or_ge y 2 with h0_4 | h0_4
            · skip
              rcases Nat.lt_or_ge y 1 with h0_2 | h0_2
              · skip
                obtain rfl : y = 0 := by omega
                exact ck_0
              · skip
                obtain rfl : y = 1 := by omega
                exact ck_1
            · skip
              rcases Nat.lt_or_ge y 3 with h2_4 | h2_4
              · skip
                obtain rfl : y = 2 := by omega
                exact ck_2
              · skip
                obtain rfl : y = 3 := by omega
                exact ck_3
          · skip
            rcases Nat.lt_or_ge y 6 with h4_9 | h4_9
            · skip
              rcases Nat.lt_or_ge y 5 with h4_6 | h4_6
              · skip
                obtain rfl : y = 4 := by omega
                exact ck_4
              · skip
                obtain rfl : y = 5 := by omega
                exact ck_5
            · skip
              rcases Nat.lt_or_ge y 7 with h6_9 | h6_9
              · skip
                obtain rfl : y = 6 := by omega
                exact ck_6
              · skip
                rcases Nat.lt_or_ge y 8 with h7_9 | h7_9
                · skip
                  obtain rfl : y = 7 := by omega
                  exact ck_7
                · skip
                  obtain rfl : y = 8 := by omega
                  exact ck_8
        · skip
          rcases Nat.lt_or_ge y 14 with h9_19 | h9_19
          · skip
            rcases Nat.lt_or_ge y 11 with h9_14 | h9_14
            · skip
              rcases Nat.lt_or_ge y 10 with h9_11 | h9_11
              · skip
                obtain rfl : y = 9 := by omega
                exact ck_9
              · skip
                obtain rfl : y = 10 := by omega
                exact ck_10
            · skip
              rcases Nat.lt_or_ge y 12 with h11_14 | h11_14
              · skip
                obtain rfl : y = 11 := by omega
                exact ck_11
              · skip
                rcases Nat.lt_or_ge y 13 with h12_14 | h12_14
                · skip
                  obtain rfl : y = 12 := by omega
                  exact ck_12
                · skip
                  obtain rfl : y = 13 := by omega
                  exact ck_13
          · skip
            rcases Nat.lt_or_ge y 16 with h14_19 | h14_19
            · skip
              rcases Nat.lt_or_ge y 15 with h14_16 | h14_16
              · skip
                obtain rfl : y = 14 := by omega
                exact ck_14
              · skip
                obtain rfl : y = 15 := by omega
                exact ck_15
            · skip
              rcases Nat.lt_or_ge y 17 with h16_19 | h16_19
              · skip
                obtain rfl : y = 16 := by omega
                exact ck_16
              · skip
                rcases Nat.lt_or_ge y 18 with h17_19 | h17_19
                · skip
                  obtain rfl : y = 17 := by omega
                  exact ck_17
                · skip
                  obtain rfl : y = 18 := by omega
                  exact ck_18
      · skip
        rcases Nat.lt_or_ge y 28 with h19_38 | h19_38
        · skip
          rcases Nat.lt_or_ge y 23 with h19_28 | h19_28
          · skip
            rcases Nat.lt_or_ge y 21 with h19_23 | h19_23
            · skip
              rcases Nat.lt_or_ge y 20 with h19_21 | h19_21
              · skip
                obtain rfl : y = 19 := by omega
                exact ck_19
              · skip
                obtain rfl : y = 20 := by omega
                exact ck_20
            · skip
              rcases Nat.lt_or_ge y 22 with h21_23 | h21_23
              · skip
                obtain rfl : y = 21 := by omega
                exact ck_21
              · skip
                obtain rfl : y = 22 := by omega
                exact ck_22
          · skip
            rcases Nat.lt_or_ge y 25 with h23_28 | h23_28
            · skip
              rcases Nat.lt_or_ge y 24 with h23_25 | h23_25
              · skip
                obtain rfl : y = 23 := by omega
                exact ck_23
              · skip
                obtain rfl : y = 24 := by omega
                exact ck_24
            · skip
              rcases Nat.lt_or_ge y 26 with h25_28 | h25_28
              · skip
                obtain rfl : y = 25 := by omega
                exact ck_25
              · skip
                rcases Nat.lt_or_ge y 27 with h26_28 | h26_28
                · skip
                  obtain rfl : y = 26 := by omega
                  exact ck_26
                · skip
                  obtain rfl : y = 27 := by omega
                  exact ck_27
        · skip
          rcases Nat.lt_or_ge y 33 with h28_38 | h28_38
          · skip
            rcases Nat.lt_or_ge y 30 with h28_33 | h28_33
            · skip
              rcases Nat.lt_or_ge y 29 with h28_30 | h28_30
              · skip
                obtain rfl : y = 28 := by omega
                exact ck_28
              · skip
                obtain rfl : y = 29 := by omega
                exact ck_29
            · skip
              rcases Nat.lt_or_ge y 31 with h30_33 | h30_33
              · skip
                obtain rfl : y = 30 := by omega
                exact ck_30
              · skip
                rcases Nat.lt_or_ge y 32 with h31_33 | h31_33
                · skip
                  obtain rfl : y = 31 := by omega
                  exact ck_31
                · skip
                  obtain rfl : y = 32 := by omega
                  exact ck_32
          · skip
            rcases Nat.lt_or_ge y 35 with h33_38 | h33_38
            · skip
              rcases Nat.lt_or_ge y 34 with h33_35 | h33_35
              · skip
                obtain rfl : y = 33 := by omega
                exact ck_33
              · skip
                obtain rfl : y = 34 := by omega
                exact ck_34
            · skip
              rcases Nat.lt_or_ge y 36 with h35_38 | h35_38
              · skip
                obtain rfl : y = 35 := by omega
                exact ck_35
              · skip
                rcases Nat.lt_or_ge y 37 with h36_38 | h36_38
                · skip
                  obtain rfl : y = 36 := by omega
                  exact ck_36
                · skip
                  obtain rfl : y = 37 := by omega
                  exact ck_37
    · skip
      rcases Nat.lt_or_ge y 57 with h38_77 | h38_77
      · skip
        rcases Nat.lt_or_ge y 47 with h38_57 | h38_57
        · skip
          rcases Nat.lt_or_ge y 42 with h38_47 | h38_47
          · skip
            rcases Nat.lt_or_ge y 40 with h38_42 | h38_42
            · skip
              rcases Nat.lt_or_ge y 39 with h38_40 | h38_40
              · skip
                obtain rfl : y = 38 := by omega
                exact ck_38
              · skip
                obtain rfl : y = 39 := by omega
                exact ck_39
            · skip
              rcases Nat.lt_or_ge y 41 with h40_42 | h40_42
              · skip
                obtain rfl : y = 40 := by omega
                exact ck_40
              · skip
                obtain rfl : y = 41 := by omega
                exact ck_41
          · skip
            rcases Nat.lt_or_ge y 44 with h42_47 | h42_47
            · skip
              rcases Nat.lt_or_ge y 43 with h42_44 | h42_44
              · skip
                obtain rfl : y = 42 := by omega
                exact ck_42
              · skip
                obtain rfl : y = 43 := by omega
                exact ck_43
            · skip
              rcases Nat.lt_or_ge y 45 with h44_47 | h44_47
              · skip
                obtain rfl : y = 44 := by omega
                exact ck_44
              · skip
                rcases Nat.lt_or_ge y 46 with h45_47 | h45_47
                · skip
                  obtain rfl : y = 45 := by omega
                  exact ck_45
                · skip
                  obtain rfl : y = 46 := by omega
                  exact ck_46
        · skip
          rcases Nat.lt_or_ge y 52 with h47_57 | h47_57
          · skip
            rcases Nat.lt_or_ge y 49 with h47_52 | h47_52
            · skip
              rcases Nat.lt_or_ge y 48 with h47_49 | h47_49
              · skip
                obtain rfl : y = 47 := by omega
                exact ck_47
              · skip
                obtain rfl : y = 48 := by omega
                exact ck_48
            · skip
              rcases Nat.lt_or_ge y 50 with h49_52 | h49_52
              · skip
                obtain rfl : y = 49 := by omega
                exact ck_49
              · skip
                rcases Nat.lt_or_ge y 51 with h50_52 | h50_52
                · skip
                  obtain rfl : y = 50 := by omega
                  exact ck_50
                · skip
                  obtain rfl : y = 51 := by omega
                  exact ck_51
          · skip
            rcases Nat.lt_or_ge y 54 with h52_57 | h52_57
            · skip
              rcases Nat.lt_or_ge y 53 with h52_54 | h52_54
              · skip
                obtain rfl : y = 52 := by omega
                exact ck_52
              · skip
                obtain rfl : y = 53 := by omega
                exact ck_53
            · skip
              rcases Nat.lt_or_ge y 55 with h54_57 | h54_57
              · skip
                obtain rfl : y = 54 := by omega
                exact ck_54
              · skip
                rcases Nat.lt_or_ge y 56 with h55_57 | h55_57
                · skip
                  obtain rfl : y = 55 := by omega
                  exact ck_55
                · skip
                  obtain rfl : y = 56 := by omega
                  exact ck_56
      · skip
        rcases Nat.lt_or_ge y 67 with h57_77 | h57_77
        · skip
          rcases Nat.lt_or_ge y 62 with h57_67 | h57_67
          · skip
            rcases Nat.lt_or_ge y 59 with h57_62 | h57_62
            · skip
              rcases Nat.lt_or_ge y 58 with h57_59 | h57_59
              · skip
                obtain rfl : y = 57 := by omega
                exact ck_57
              · skip
                obtain rfl : y = 58 := by omega
                exact ck_58
            · skip
              rcases Nat.lt_or_ge y 60 with h59_62 | h59_62
              · skip
                obtain rfl : y = 59 := by omega
                exact ck_59
              · skip
                rcases Nat.lt_or_ge y 61 with h60_62 | h60_62
                · skip
                  obtain rfl : y = 60 := by omega
                  exact ck_60
                · skip
                  obtain rfl : y = 61 := by omega
                  exact ck_61
          · skip
            rcases Nat.lt_or_ge y 64 with h62_67 | h62_67
            · skip
              rcases Nat.lt_or_ge y 63 with h62_64 | h62_64
              · skip
                obtain rfl : y = 62 := by omega
                exact ck_62
              · skip
                obtain rfl : y = 63 := by omega
                exact ck_63
            · skip
              rcases Nat.lt_or_ge y 65 with h64_67 | h64_67
              · skip
                obtain rfl : y = 64 := by omega
                exact ck_64
              · skip
                rcases Nat.lt_or_ge y 66 with h65_67 | h65_67
                · skip
                  obtain rfl : y = 65 := by omega
                  exact ck_65
                · skip
                  obtain rfl : y = 66 := by omega
                  exact ck_66
        · skip
          rcases Nat.lt_or_ge y 72 with h67_77 | h67_77
          · skip
            rcases Nat.lt_or_ge y 69 with h67_72 | h67_72
            · skip
              rcases Nat.lt_or_ge y 68 with h67_69 | h67_69
              · skip
                obtain rfl : y = 67 := by omega
                exact ck_67
              · skip
                obtain rfl : y = 68 := by omega
                exact ck_68
            · skip
              rcases Nat.lt_or_ge y 70 with h69_72 | h69_72
              · skip
                obtain rfl : y = 69 := by omega
                exact ck_69
              · skip
                rcases Nat.lt_or_ge y 71 with h70_72 | h70_72
                · skip
                  obtain rfl : y = 70 := by omega
                  exact ck_70
                · skip
                  obtain rfl : y = 71 := by omega
                  exact ck_71
          · skip
            rcases Nat.lt_or_ge y 74 with h72_77 | h72_77
            · skip
              rcases Nat.lt_or_ge y 73 with h72_74 | h72_74
              · skip
                obtain rfl : y = 72 := by omega
                exact ck_72
              · skip
                obtain rfl : y = 73 := by omega
                exact ck_73
            · skip
              rcases Nat.lt_or_ge y 75 with h74_77 | h74_77
              · skip
                obtain rfl : y = 74 := by omega
                exact ck_74
              · skip
                rcases Nat.lt_or_ge y 76 with h75_77 | h75_77
                · skip
                  obtain rfl : y = 75 := by omega
                  exact ck_75
                · skip
                  obtain rfl : y = 76 := by omega
                  exact ck_76
  · skip
    rcases Nat.lt_or_ge y 116 with h77_155 | h77_155
    · skip
      rcases Nat.lt_or_ge y 96 with h77_116 | h77_116
      · skip
        rcases Nat.lt_or_ge y 86 with h77_96 | h77_96
        · skip
          rcases Nat.lt_or_ge y 81 with h77_86 | h77_86
          · skip
            rcases Nat.lt_or_ge y 79 with h77_81 | h77_81
            · skip
              rcases Nat.lt_or_ge y 78 with h77_79 | h77_79
              · skip
                obtain rfl : y = 77 := by omega
                exact ck_77
              · skip
                obtain rfl : y = 78 := by omega
                exact ck_78
            · skip
              rcases Nat.lt_or_ge y 80 with h79_81 | h79_81
              · skip
                obtain rfl : y = 79 := by omega
                exact ck_79
              · skip
                obtain rfl : y = 80 := by omega
                exact ck_80
          · skip
            rcases Nat.lt_or_ge y 83 with h81_86 | h81_86
            · skip
              rcases Nat.lt_or_ge y 82 with h81_83 | h81_83
              · skip
                obtain rfl : y = 81 := by omega
                exact ck_81
              · skip
                obtain rfl : y = 82 := by omega
                exact ck_82
            · skip
              rcases Nat.lt_or_ge y 84 with h83_86 | h83_86
              · skip
                obtain rfl : y = 83 := by omega
                exact ck_83
              · skip
                rcases Nat.lt_or_ge y 85 with h84_86 | h84_86
                · skip
                  obtain rfl : y = 84 := by omega
                  exact ck_84
                · skip
                  obtain rfl : y = 85 := by omega
                  exact ck_85
        · skip
          rcases Nat.lt_or_ge y 91 with h86_96 | h86_96
          · skip
            rcases Nat.lt_or_ge y 88 with h86_91 | h86_91
            · skip
              rcases Nat.lt_or_ge y 87 with h86_88 | h86_88
              · skip
                obtain rfl : y = 86 := by omega
                exact ck_86
              · skip
                obtain rfl : y = 87 := by omega
                exact ck_87
            · skip
              rcases Nat.lt_or_ge y 89 with h88_91 | h88_91
              · skip
                obtain rfl : y = 88 := by omega
                exact ck_88
              · skip
                rcases Nat.lt_or_ge y 90 with h89_91 | h89_91
                · skip
                  obtain rfl : y = 89 := by omega
                  exact ck_89
                · skip
                  obtain rfl : y = 90 := by omega
                  exact ck_90
          · skip
            rcases Nat.lt_or_ge y 93 with h91_96 | h91_96
            · skip
              rcases Nat.lt_or_ge y 92 with h91_93 | h91_93
              · skip
                obtain rfl : y = 91 := by omega
                exact ck_91
              · skip
                obtain rfl : y = 92 := by omega
                exact ck_92
            · skip
              rcases Nat.lt_or_ge y 94 with h93_96 | h93_96
              · skip
                obtain rfl : y = 93 := by omega
                exact ck_93
              · skip
                rcases Nat.lt_or_ge y 95 with h94_96 | h94_96
                · skip
                  obtain rfl : y = 94 := by omega
                  exact ck_94
                · skip
                  obtain rfl : y = 95 := by omega
                  exact ck_95
      · skip
        rcases Nat.lt_or_ge y 106 with h96_116 | h96_116
        · skip
          rcases Nat.lt_or_ge y 101 with h96_106 | h96_106
          · skip
            rcases Nat.lt_or_ge y 98 with h96_101 | h96_101
            · skip
              rcases Nat.lt_or_ge y 97 with h96_98 | h96_98
              · skip
                obtain rfl : y = 96 := by omega
                exact ck_96
              · skip
                obtain rfl : y = 97 := by omega
                exact ck_97
            · skip
              rcases Nat.lt_or_ge y 99 with h98_101 | h98_101
              · skip
                obtain rfl : y = 98 := by omega
                exact ck_98
              · skip
                rcases Nat.lt_or_ge y 100 with h99_101 | h99_101
                · skip
                  obtain rfl : y = 99 := by omega
                  exact ck_99
                · skip
                  obtain rfl : y = 100 := by omega
                  exact ck_100
          · skip
            rcases Nat.lt_or_ge y 103 with h101_106 | h101_106
            · skip
              rcases Nat.lt_or_ge y 102 with h101_103 | h101_103
              · skip
                obtain rfl : y = 101 := by omega
                exact ck_101
              · skip
                obtain rfl : y = 102 := by omega
                exact ck_102
            · skip
              rcases Nat.lt_or_ge y 104 with h103_106 | h103_106
              · skip
                obtain rfl : y = 103 := by omega
                exact ck_103
              · skip
                rcases Nat.lt_or_ge y 105 with h104_106 | h104_106
                · skip
                  obtain rfl : y = 104 := by omega
                  exact ck_104
                · skip
                  obtain rfl : y = 105 := by omega
                  exact ck_105
        · skip
          rcases Nat.lt_or_ge y 111 with h106_116 | h106_116
          · skip
            rcases Nat.lt_or_ge y 108 with h106_111 | h106_111
            · skip
              rcases Nat.lt_or_ge y 107 with h106_108 | h106_108
              · skip
                obtain rfl : y = 106 := by omega
                exact ck_106
              · skip
                obtain rfl : y = 107 := by omega
                exact ck_107
            · skip
              rcases Nat.lt_or_ge y 109 with h108_111 | h108_111
              · skip
                obtain rfl : y = 108 := by omega
                exact ck_108
              · skip
                rcases Nat.lt_or_ge y 110 with h109_111 | h109_111
                · skip
                  obtain rfl : y = 109 := by omega
                  exact ck_109
                · skip
                  obtain rfl : y = 110 := by omega
                  exact ck_110
          · skip
            rcases Nat.lt_or_ge y 113 with h111_116 | h111_116
            · skip
              rcases Nat.lt_or_ge y 112 with h111_113 | h111_113
              · skip
                obtain rfl : y = 111 := by omega
                exact ck_111
              · skip
                obtain rfl : y = 112 := by omega
                exact ck_112
            · skip
              rcases Nat.lt_or_ge y 114 with h113_116 | h113_116
              · skip
                obtain rfl : y = 113 := by omega
                exact ck_113
              · skip
                rcases Nat.lt_or_ge y 115 with h114_116 | h114_116
                · skip
                  obtain rfl : y = 114 := by omega
                  exact ck_114
                · skip
                  obtain rfl : y = 115 := by omega
                  exact ck_115
    · skip
      rcases Nat.lt_or_ge y 135 with h116_155 | h116_155
      · skip
        rcases Nat.lt_or_ge y 125 with h116_135 | h116_135
        · skip
          rcases Nat.lt_or_ge y 120 with h116_125 | h116_125
          · skip
            rcases Nat.lt_or_ge y 118 with h116_120 | h116_120
            · skip
              rcases Nat.lt_or_ge y 117 with h116_118 | h116_118
              · skip
                obtain rfl : y = 116 := by omega
                exact ck_116
              · skip
                obtain rfl : y = 117 := by omega
                exact ck_117
            · skip
              rcases Nat.lt_or_ge y 119 with h118_120 | h118_120
              · skip
                obtain rfl : y = 118 := by omega
                exact ck_118
              · skip
                obtain rfl : y = 119 := by omega
                exact ck_119
          · skip
            rcases Nat.lt_or_ge y 122 with h120_125 | h120_125
            · skip
              rcases Nat.lt_or_ge y 121 with h120_122 | h120_122
              · skip
                obtain rfl : y = 120 := by omega
                exact ck_120
              · skip
                obtain rfl : y = 121 := by omega
                exact ck_121
            · skip
              rcases Nat.lt_or_ge y 123 with h122_125 | h122_125
              · skip
                obtain rfl : y = 122 := by omega
                exact ck_122
              · skip
                rcases Nat.lt_or_ge y 124 with h123_125 | h123_125
                · skip
                  obtain rfl : y = 123 := by omega
                  exact ck_123
                · skip
                  obtain rfl : y = 124 := by omega
                  exact ck_124
        · skip
          rcases Nat.lt_or_ge y 130 with h125_135 | h125_135
          · skip
            rcases Nat.lt_or_ge y 127 with h125_130 | h125_130
            · skip
              rcases Nat.lt_or_ge y 126 with h125_127 | h125_127
              · skip
                obtain rfl : y = 125 := by omega
                exact ck_125
              · skip
                obtain rfl : y = 126 := by omega
                exact ck_126
            · skip
              rcases Nat.lt_or_ge y 128 with h127_130 | h127_130
              · skip
                obtain rfl : y = 127 := by omega
                exact ck_127
              · skip
                rcases Nat.lt_or_ge y 129 with h128_130 | h128_130
                · skip
                  obtain rfl : y = 128 := by omega
                  exact ck_128
                · skip
                  obtain rfl : y = 129 := by omega
                  exact ck_129
          · skip
            rcases Nat.lt_or_ge y 132 with h130_135 | h130_135
            · skip
              rcases Nat.lt_or_ge y 131 with h130_132 | h130_132
              · skip
                obtain rfl : y = 130 := by omega
                exact ck_130
              · skip
                obtain rfl : y = 131 := by omega
                exact ck_131
            · skip
              rcases Nat.lt_or_ge y 133 with h132_135 | h132_135
              · skip
                obtain rfl : y = 132 := by omega
                exact ck_132
              · skip
                rcases Nat.lt_or_ge y 134 with h133_135 | h133_135
                · skip
                  obtain rfl : y = 133 := by omega
                  exact ck_133
                · skip
                  obtain rfl : y = 134 := by omega
                  exact ck_134
      · skip
        rcases Nat.lt_or_ge y 145 with h135_155 | h135_155
        · skip
          rcases Nat.lt_or_ge y 140 with h135_145 | h135_145
          · skip
            rcases Nat.lt_or_ge y 137 with h135_140 | h135_140
            · skip
              rcases Nat.lt_or_ge y 136 with h135_137 | h135_137
              · skip
                obtain rfl : y = 135 := by omega
                exact ck_135
              · skip
                obtain rfl : y = 136 := by omega
                exact ck_136
            · skip
              rcases Nat.lt_or_ge y 138 with h137_140 | h137_140
              · skip
                obtain rfl : y = 137 := by omega
                exact ck_137
              · skip
                rcases Nat.lt_or_ge y 139 with h138_140 | h138_140
                · skip
                  obtain rfl : y = 138 := by omega
                  exact ck_138
                · skip
                  obtain rfl : y = 139 := by omega
                  exact ck_139
          · skip
            rcases Nat.lt_or_ge y 142 with h140_145 | h140_145
            · skip
              rcases Nat.lt_or_ge y 141 with h140_142 | h140_142
              · skip
                obtain rfl : y = 140 := by omega
                exact ck_140
              · skip
                obtain rfl : y = 141 := by omega
                exact ck_141
            · skip
              rcases Nat.lt_or_ge y 143 with h142_145 | h142_145
              · skip
                obtain rfl : y = 142 := by omega
                exact ck_142
              · skip
                rcases Nat.lt_or_ge y 144 with h143_145 | h143_145
                · skip
                  obtain rfl : y = 143 := by omega
                  exact ck_143
                · skip
                  obtain rfl : y = 144 := by omega
                  exact ck_144
        · skip
          rcases Nat.lt_or_ge y 150 with h145_155 | h145_155
          · skip
            rcases Nat.lt_or_ge y 147 with h145_150 | h145_150
            · skip
              rcases Nat.lt_or_ge y 146 with h145_147 | h145_147
              · skip
                obtain rfl : y = 145 := by omega
                exact ck_145
              · skip
                obtain rfl : y = 146 := by omega
                exact ck_146
            · skip
              rcases Nat.lt_or_ge y 148 with h147_150 | h147_150
              · skip
                obtain rfl : y = 147 := by omega
                exact ck_147
              · skip
                rcases Nat.lt_or_ge y 149 with h148_150 | h148_150
                · skip
                  obtain rfl : y = 148 := by omega
                  exact ck_148
                · skip
                  obtain rfl : y = 149 := by omega
                  exact ck_149
          · skip
            rcases Nat.lt_or_ge y 152 with h150_155 | h150_155
            · skip
              rcases Nat.lt_or_ge y 151 with h150_152 | h150_152
              · skip
                obtain rfl : y = 150 := by omega
                exact ck_150
              · skip
                obtain rfl : y = 151 := by omega
                exact ck_151
            · skip
              rcases Nat.lt_or_ge y 153 with h152_155 | h152_155
              · skip
                obtain rfl : y = 152 := by omega
                exact ck_152
              · skip
                rcases Nat.lt_or_ge y 154 with h153_155 | h153_155
                · skip
                  obtain rfl : y = 153 := by omega
                  exact ck_153
                · skip
                  obtain rfl : y = 154 := by omega
                  exact ck_154
