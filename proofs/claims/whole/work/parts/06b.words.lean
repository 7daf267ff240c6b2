set_option maxRecDepth 100000 in
theorem uX0 : ∀ w ∈ u_ws RX0 TX0 12, w ∈ z_good := by
  intro w hw
  obtain ⟨k, hk, rfl⟩ := List.mem_map.mp hw
  have hk := List.mem_range.mp hk
  rcases (show k = 0 ∨ k = 1 ∨ k = 2 ∨ k = 3 ∨ k = 4 ∨ k = 5 ∨ k = 6 ∨ k = 7 ∨ k = 8 ∨ k = 9 ∨ k = 10 ∨ k = 11 by omega) with rfl | rfl | rfl | rfl | rfl | rfl | rfl | rfl | rfl | rfl | rfl | rfl
  · exact zw_0
  · exact zw_1
  · exact zw_2
  · exact zw_3
  · exact zw_4
  · exact zw_5
  · exact zw_6
  · exact zw_7
  · exact zw_8
  · exact zw_9
  · exact zw_10
  · exact zw_11
set_option maxRecDepth 100000 in
theorem uX1 : ∀ w ∈ u_ws RX1 TX1 4, w ∈ z_good := by
  intro w hw
  obtain ⟨k, hk, rfl⟩ := List.mem_map.mp hw
  have hk := List.mem_range.mp hk
  rcases (show k = 0 ∨ k = 1 ∨ k = 2 ∨ k = 3 by omega) with rfl | rfl | rfl | rfl
  · exact zw_12
  · exact zw_13
  · exact zw_14
  · exact zw_15
set_option maxRecDepth 100000 in
theorem uX2 : ∀ w ∈ u_ws RX2 TX2 4, w ∈ z_good := by
  intro w hw
  obtain ⟨k, hk, rfl⟩ := List.mem_map.mp hw
  have hk := List.mem_range.mp hk
  rcases (show k = 0 ∨ k = 1 ∨ k = 2 ∨ k = 3 by omega) with rfl | rfl | rfl | rfl
  · exact zw_16
  · exact zw_17
  · exact zw_18
  · exact zw_19
set_option maxRecDepth 100000 in
theorem uX3 : ∀ w ∈ u_ws RX3 TX3 7, w ∈ z_good := by
  intro w hw
  obtain ⟨k, hk, rfl⟩ := List.mem_map.mp hw
  have hk := List.mem_range.mp hk
  rcases (show k = 0 ∨ k = 1 ∨ k = 2 ∨ k = 3 ∨ k = 4 ∨ k = 5 ∨ k = 6 by omega) with rfl | rfl | rfl | rfl | rfl | rfl | rfl
  · exact zw_20
  · exact zw_21
  · exact zw_22
  · exact zw_23
  · exact zw_24
  · exact zw_25
  · exact zw_26
set_option maxRecDepth 100000 in
theorem uX4 : ∀ w ∈ u_ws RX4 TX4 4, w ∈ z_good := by
  intro w hw
  obtain ⟨k, hk, rfl⟩ := List.mem_map.mp hw
  have hk := List.mem_range.mp hk
  rcases (show k = 0 ∨ k = 1 ∨ k = 2 ∨ k = 3 by omega) with rfl | rfl | rfl | rfl
  · exact zw_27
  · exact zw_28
  · exact zw_29
  · exact zw_30
set_option maxRecDepth 100000 in
theorem uX5 : ∀ w ∈ u_ws RX5 TX5 11, w ∈ z_good := by
  intro w hw
  obtain ⟨k, hk, rfl⟩ := List.mem_map.mp hw
  have hk := List.mem_range.mp hk
  rcases (show k = 0 ∨ k = 1 ∨ k = 2 ∨ k = 3 ∨ k = 4 ∨ k = 5 ∨ k = 6 ∨ k = 7 ∨ k = 8 ∨ k = 9 ∨ k = 10 by omega) with rfl | rfl | rfl | rfl | rfl | rfl | rfl | rfl | rfl | rfl | rfl
  · exact zw_31
  · exact zw_32
  · exact zw_33
  · exact zw_34
  · exact zw_35
  · exact zw_36
  · exact zw_37
  · exact zw_38
  · exact zw_39
  · exact zw_40
  · exact zw_41
set_option maxRecDepth 100000 in
theorem uX6 : ∀ w ∈ u_ws RX6 TX6 13, w ∈ z_good := by
  intro w hw
  obtain ⟨k, hk, rfl⟩ := List.mem_map.mp hw
  have hk := List.mem_range.mp hk
  rcases (show k = 0 ∨ k = 1 ∨ k = 2 ∨ k = 3 ∨ k = 4 ∨ k = 5 ∨ k = 6 ∨ k = 7 ∨ k = 8 ∨ k = 9 ∨ k = 10 ∨ k = 11 ∨ k = 12 by omega) with rfl | rfl | rfl | rfl | rfl | rfl | rfl | rfl | rfl | rfl | rfl | rfl | rfl
  · exact zw_42
  · exact zw_43
  · exact zw_44
  · exact zw_45
  · exact zw_46
  · exact zw_47
  · exact zw_48
  · exact zw_49
  · exact zw_50
  · exact zw_51
  · exact zw_52
  · exact zw_53
  · exact zw_54
set_option maxRecDepth 100000 in
theorem uX7 : ∀ w ∈ u_ws RX7 TX7 3, w ∈ z_good := by
  intro w hw
  obtain ⟨k, hk, rfl⟩ := List.mem_map.mp hw
  have hk := List.mem_range.mp hk
  rcases (show k = 0 ∨ k = 1 ∨ k = 2 by omega) with rfl | rfl | rfl
  · exact zw_55
  · exact zw_56
  · exact zw_57
set_option maxRecDepth 100000 in
theorem uX8 : ∀ w ∈ u_ws RX8 TX8 4, w ∈ z_good := by
  intro w hw
  obtain ⟨k, hk, rfl⟩ := List.mem_map.mp hw
  have hk := List.mem_range.mp hk
  rcases (show k = 0 ∨ k = 1 ∨ k = 2 ∨ k = 3 by omega) with rfl | rfl | rfl | rfl
  · exact zw_58
  · exact zw_59
  · exact zw_60
  · exact zw_61
set_option maxRecDepth 100000 in
theorem uX9 : ∀ w ∈ u_ws RX9 TX9 13, w ∈ z_good := by
  intro w hw
  obtain ⟨k, hk, rfl⟩ := List.mem_map.mp hw
  have hk := List.mem_range.mp hk
  rcases (show k = 0 ∨ k = 1 ∨ k = 2 ∨ k = 3 ∨ k = 4 ∨ k = 5 ∨ k = 6 ∨ k = 7 ∨ k = 8 ∨ k = 9 ∨ k = 10 ∨ k = 11 ∨ k = 12 by omega) with rfl | rfl | rfl | rfl | rfl | rfl | rfl | rfl | rfl | rfl | rfl | rfl | rfl
  · exact zw_62
  · exact zw_63
  · exact zw_64
  · exact zw_65
  · exact zw_66
  · exact zw_67
  · exact zw_68
  · exact zw_69
  · exact zw_70
  · exact zw_71
  · exact zw_72
  · exact zw_73
  · exact zw_74
set_option maxRecDepth 100000 in
theorem uX10 : ∀ w ∈ u_ws RX10 TX10 3, w ∈ z_good := by
  intro w hw
  obtain ⟨k, hk, rfl⟩ := List.mem_map.mp hw
  have hk := List.mem_range.mp hk
  rcases (show k = 0 ∨ k = 1 ∨ k = 2 by omega) with rfl | rfl | rfl
  · exact zw_75
  · exact zw_76
  · exact zw_77
set_option maxRecDepth 100000 in
theorem uX11 : ∀ w ∈ u_ws RX11 TX11 18, w ∈ z_good := by
  intro w hw
  obtain ⟨k, hk, rfl⟩ := List.mem_map.mp hw
  have hk := List.mem_range.mp hk
  rcases (show k = 0 ∨ k = 1 ∨ k = 2 ∨ k = 3 ∨ k = 4 ∨ k = 5 ∨ k = 6 ∨ k = 7 ∨ k = 8 ∨ k = 9 ∨ k = 10 ∨ k = 11 ∨ k = 12 ∨ k = 13 ∨ k = 14 ∨ k = 15 ∨ k = 16 ∨ k = 17 by omega) with rfl | rfl | rfl | rfl | rfl | rfl | rfl | rfl | rfl | rfl | rfl | rfl | rfl | rfl | rfl | rfl | rfl | rfl
  · exact zw_78
  · exact zw_79
  · exact zw_80
  · exact zw_81
  · exact zw_82
  · exact zw_83
  · exact zw_84
  · exact zw_85
  · exact zw_86
  · exact zw_87
  · exact zw_88
  · exact zw_89
  · exact zw_90
  · exact zw_91
  · exact zw_92
  · exact zw_93
  · exact zw_94
  · exact zw_95
set_option maxRecDepth 100000 in
theorem uX12 : ∀ w ∈ u_ws RX12 TX12 60, w ∈ z_good := by
  intro w hw
  obtain ⟨k, hk, rfl⟩ := List.mem_map.mp hw
  have hk := List.mem_range.mp hk
  rcases (show k = 0 ∨ k = 1 ∨ k = 2 ∨ k = 3 ∨ k = 4 ∨ k = 5 ∨ k = 6 ∨ k = 7 ∨ k = 8 ∨ k = 9 ∨ k = 10 ∨ k = 11 ∨ k = 12 ∨ k = 13 ∨ k = 14 ∨ k = 15 ∨ k = 16 ∨ k = 17 ∨ k = 18 ∨ k = 19 ∨ k = 20 ∨ k = 21 ∨ k = 22 ∨ k = 23 ∨ k = 24 ∨ k = 25 ∨ k = 26 ∨ k = 27 ∨ k = 28 ∨ k = 29 ∨ k = 30 ∨ k = 31 ∨ k = 32 ∨ k = 33 ∨ k = 34 ∨ k = 35 ∨ k = 36 ∨ k = 37 ∨ k = 38 ∨ k = 39 ∨ k = 40 ∨ k = 41 ∨ k = 42 ∨ k = 43 ∨ k = 44 ∨ k = 45 ∨ k = 46 ∨ k = 47 ∨ k = 48 ∨ k = 49 ∨ k = 50 ∨ k = 51 ∨ k = 52 ∨ k = 53 ∨ k = 54 ∨ k = 55 ∨ k = 56 ∨ k = 57 ∨ k = 58 ∨ k = 59 by omega) with rfl | rfl | rfl | rfl | rfl | rfl | rfl | rfl | rfl | rfl | rfl | rfl | rfl | rfl | rfl | rfl | rfl | rfl | rfl | rfl | rfl | rfl | rfl | rfl | rfl | rfl | rfl | rfl | rfl | rfl | rfl | rfl | rfl | rfl | rfl | rfl | rfl | rfl | rfl | rfl | rfl | rfl | rfl | rfl | rfl | rfl | rfl | rfl | rfl | rfl | rfl | rfl | rfl | rfl | rfl | rfl | rfl | rfl | rfl | rfl
  · exact zw_96
  · exact zw_97
  · exact zw_98
  · exact zw_99
  · exact zw_100
  · exact zw_101
  · exact zw_102
  · exact zw_103
  · exact zw_104
  · exact zw_105
  · exact zw_106
  · exact zw_107
  · exact zw_108
  · exact zw_109
  · exact zw_110
  · exact zw_111
  · exact zw_112
  · exact zw_113
  · exact zw_114
  · exact zw_115
  · exact zw_116
  · exact zw_117
  · exact zw_118
  · exact zw_119
  · exact zw_120
  · exact zw_121
  · exact zw_122
  · exact zw_123
  · exact zw_124
  · exact zw_125
  · exact zw_126
  · exact zw_127
  · exact zw_128
  · exact zw_129
  · exact zw_130
  · exact zw_131
  · exact zw_132
  · exact zw_133
  · exact zw_134
  · exact zw_135
  · exact zw_136
  · exact zw_137
  · exact zw_138
  · exact zw_139
  · exact zw_140
  · exact zw_141
  · exact zw_142
  · exact zw_143
  · exact zw_144
  · exact zw_145
  · exact zw_146
  · exact zw_147
  · exact zw_148
  · exact zw_149
  · exact zw_150
  · exact zw_151
  · exact zw_152
  · exact zw_153
  · exact zw_154
  · exact zw_155
theorem f_X11_9 : z_fld RX11 9 11 0 true (.array .byte) := ⟨RX11, TX11, 18, tyX11, rfl, uX11, tyX11_ok, nmX11, by decide, zw_156, rfl, by decide +kernel, rfl⟩
theorem f_X11_13 : z_fld RX11 13 11 1 false .int := ⟨RX11, TX11, 18, tyX11, rfl, uX11, tyX11_ok, nmX11, by decide, zw_157, rfl, by decide +kernel, rfl⟩
theorem f_X11_20 : z_fld RX11 20 11 2 true (.object "TreePeers$Scene") := ⟨RX11, TX11, 18, tyX11, rfl, uX11, tyX11_ok, nmX11, by decide, zw_158, rfl, by decide +kernel, rfl⟩
theorem f_X11_24 : z_fld RX11 24 11 3 true (.object "TreePeers$Scene") := ⟨RX11, TX11, 18, tyX11, rfl, uX11, tyX11_ok, nmX11, by decide, zw_159, rfl, by decide +kernel, rfl⟩
theorem f_X11_27 : z_fld RX11 27 11 4 true (.array (.object "TreePeers$Scene")) := ⟨RX11, TX11, 18, tyX11, rfl, uX11, tyX11_ok, nmX11, by decide, zw_160, rfl, by decide +kernel, rfl⟩
theorem f_X11_33 : z_fld RX11 33 8 0 true (.object "TreePeers$Plan") := ⟨RX8, TX8, 4, tyX8, rfl, uX8, tyX8_ok, nmX8, by decide, zw_161, rfl, by decide +kernel, rfl⟩
theorem f_X11_37 : z_fld RX11 37 8 1 true (.object "TreePeers$Facts") := ⟨RX8, TX8, 4, tyX8, rfl, uX8, tyX8_ok, nmX8, by decide, zw_162, rfl, by decide +kernel, rfl⟩
theorem f_X11_44 : z_fld RX11 44 11 5 true (.object "TreePeers$Peers") := ⟨RX11, TX11, 18, tyX11, rfl, uX11, tyX11_ok, nmX11, by decide, zw_163, rfl, by decide +kernel, rfl⟩
theorem f_X11_51 : z_fld RX11 51 11 6 true (.object "TreePeers$Peers") := ⟨RX11, TX11, 18, tyX11, rfl, uX11, tyX11_ok, nmX11, by decide, zw_164, rfl, by decide +kernel, rfl⟩
theorem f_X11_57 : z_fld RX11 57 11 7 true (.object "TreePeers$Undo") := ⟨RX11, TX11, 18, tyX11, rfl, uX11, tyX11_ok, nmX11, by decide, zw_165, rfl, by decide +kernel, rfl⟩
theorem f_X11_64 : z_fld RX11 64 11 8 true (.object "TreePeers$Draws") := ⟨RX11, TX11, 18, tyX11, rfl, uX11, tyX11_ok, nmX11, by decide, zw_166, rfl, by decide +kernel, rfl⟩
theorem f_X11_73 : z_fld RX11 73 11 9 true (.object "TreePeers$Reader") := ⟨RX11, TX11, 18, tyX11, rfl, uX11, tyX11_ok, nmX11, by decide, zw_167, rfl, by decide +kernel, rfl⟩
theorem f_X11_82 : z_fld RX11 82 11 10 true (.object "TreePeers$ClusterText") := ⟨RX11, TX11, 18, tyX11, rfl, uX11, tyX11_ok, nmX11, by decide, zw_168, rfl, by decide +kernel, rfl⟩
theorem f_X11_91 : z_fld RX11 91 11 11 true (.object "TreePeers$Book") := ⟨RX11, TX11, 18, tyX11, rfl, uX11, tyX11_ok, nmX11, by decide, zw_169, rfl, by decide +kernel, rfl⟩
theorem f_X11_95 : z_fld RX11 95 11 12 true (.array .int) := ⟨RX11, TX11, 18, tyX11, rfl, uX11, tyX11_ok, nmX11, by decide, zw_170, rfl, by decide +kernel, rfl⟩
theorem f_X11_99 : z_fld RX11 99 11 13 false .int := ⟨RX11, TX11, 18, tyX11, rfl, uX11, tyX11_ok, nmX11, by decide, zw_171, rfl, by decide +kernel, rfl⟩
theorem f_X11_102 : z_fld RX11 102 11 14 true (.array .byte) := ⟨RX11, TX11, 18, tyX11, rfl, uX11, tyX11_ok, nmX11, by decide, zw_172, rfl, by decide +kernel, rfl⟩
theorem f_X11_105 : z_fld RX11 105 11 15 false .int := ⟨RX11, TX11, 18, tyX11, rfl, uX11, tyX11_ok, nmX11, by decide, zw_173, rfl, by decide +kernel, rfl⟩
theorem f_X11_108 : z_fld RX11 108 11 16 false .int := ⟨RX11, TX11, 18, tyX11, rfl, uX11, tyX11_ok, nmX11, by decide, zw_174, rfl, by decide +kernel, rfl⟩
theorem f_X11_111 : z_fld RX11 111 11 17 false .int := ⟨RX11, TX11, 18, tyX11, rfl, uX11, tyX11_ok, nmX11, by decide, zw_175, rfl, by decide +kernel, rfl⟩
theorem f_X11_126 : z_fld RX11 126 6 10 false .int := ⟨RX6, TX6, 13, tyX6, rfl, uX6, tyX6_ok, nmX6, by decide, zw_176, rfl, by decide +kernel, rfl⟩
theorem f_X11_132 : z_fld RX11 132 6 12 false .int := ⟨RX6, TX6, 13, tyX6, rfl, uX6, tyX6_ok, nmX6, by decide, zw_177, rfl, by decide +kernel, rfl⟩
theorem f_X11_135 : z_fld RX11 135 8 2 true (.object "TreePeers$Saying") := ⟨RX8, TX8, 4, tyX8, rfl, uX8, tyX8_ok, nmX8, by decide, zw_178, rfl, by decide +kernel, rfl⟩
theorem f_X11_152 : z_fld RX11 152 6 11 false .int := ⟨RX6, TX6, 13, tyX6, rfl, uX6, tyX6_ok, nmX6, by decide, zw_179, rfl, by decide +kernel, rfl⟩
theorem f_X11_157 : z_fld RX11 157 5 8 true (.array .int) := ⟨RX5, TX5, 11, tyX5, rfl, uX5, tyX5_ok, nmX5, by decide, zw_180, rfl, by decide +kernel, rfl⟩
theorem f_X11_162 : z_fld RX11 162 5 10 true (.array .int) := ⟨RX5, TX5, 11, tyX5, rfl, uX5, tyX5_ok, nmX5, by decide, zw_181, rfl, by decide +kernel, rfl⟩
theorem f_X11_176 : z_fld RX11 176 5 7 true (.array .int) := ⟨RX5, TX5, 11, tyX5, rfl, uX5, tyX5_ok, nmX5, by decide, zw_182, rfl, by decide +kernel, rfl⟩
theorem f_X11_182 : z_fld RX11 182 4 2 true (.array (.object "TreePeers$Tree")) := ⟨RX4, TX4, 4, tyX4, rfl, uX4, tyX4_ok, nmX4, by decide, zw_183, rfl, by decide +kernel, rfl⟩
theorem f_X11_186 : z_fld RX11 186 9 3 false .int := ⟨RX9, TX9, 13, tyX9, rfl, uX9, tyX9_ok, nmX9, by decide, zw_184, rfl, by decide +kernel, rfl⟩
theorem f_X11_194 : z_fld RX11 194 9 12 false .int := ⟨RX9, TX9, 13, tyX9, rfl, uX9, tyX9_ok, nmX9, by decide, zw_185, rfl, by decide +kernel, rfl⟩
theorem f_X11_197 : z_fld RX11 197 9 4 true (.array .int) := ⟨RX9, TX9, 13, tyX9, rfl, uX9, tyX9_ok, nmX9, by decide, zw_186, rfl, by decide +kernel, rfl⟩
theorem f_X11_200 : z_fld RX11 200 3 2 true (.array .int) := ⟨RX3, TX3, 7, tyX3, rfl, uX3, tyX3_ok, nmX3, by decide, zw_187, rfl, by decide +kernel, rfl⟩
theorem f_X11_206 : z_fld RX11 206 3 3 true (.array .int) := ⟨RX3, TX3, 7, tyX3, rfl, uX3, tyX3_ok, nmX3, by decide, zw_188, rfl, by decide +kernel, rfl⟩
theorem f_X11_236 : z_fld RX11 236 3 4 false .int := ⟨RX3, TX3, 7, tyX3, rfl, uX3, tyX3_ok, nmX3, by decide, zw_189, rfl, by decide +kernel, rfl⟩
theorem f_X11_239 : z_fld RX11 239 3 5 false .int := ⟨RX3, TX3, 7, tyX3, rfl, uX3, tyX3_ok, nmX3, by decide, zw_190, rfl, by decide +kernel, rfl⟩
theorem f_X11_242 : z_fld RX11 242 3 6 false .int := ⟨RX3, TX3, 7, tyX3, rfl, uX3, tyX3_ok, nmX3, by decide, zw_191, rfl, by decide +kernel, rfl⟩
theorem f_X11_281 : z_fld RX11 281 10 2 false .int := ⟨RX10, TX10, 3, tyX10, rfl, uX10, tyX10_ok, nmX10, by decide, zw_192, rfl, by decide +kernel, rfl⟩
theorem f_X11_301 : z_fld RX11 301 4 3 true (.array .int) := ⟨RX4, TX4, 4, tyX4, rfl, uX4, tyX4_ok, nmX4, by decide, zw_193, rfl, by decide +kernel, rfl⟩
theorem f_X11_330 : z_fld RX11 330 5 6 true (.array .long) := ⟨RX5, TX5, 11, tyX5, rfl, uX5, tyX5_ok, nmX5, by decide, zw_194, rfl, by decide +kernel, rfl⟩
theorem f_X11_390 : z_fld RX11 390 0 9 false .int := ⟨RX0, TX0, 12, tyX0, rfl, uX0, tyX0_ok, nmX0, by decide, zw_195, rfl, by decide +kernel, rfl⟩
theorem f_X11_401 : z_fld RX11 401 7 2 false .int := ⟨RX7, TX7, 3, tyX7, rfl, uX7, tyX7_ok, nmX7, by decide, zw_196, rfl, by decide +kernel, rfl⟩
theorem f_X11_404 : z_fld RX11 404 5 3 false .int := ⟨RX5, TX5, 11, tyX5, rfl, uX5, tyX5_ok, nmX5, by decide, zw_197, rfl, by decide +kernel, rfl⟩
theorem f_X11_411 : z_fld RX11 411 8 3 false .boolean := ⟨RX8, TX8, 4, tyX8, rfl, uX8, tyX8_ok, nmX8, by decide, zw_198, rfl, by decide +kernel, rfl⟩
theorem f_X11_415 : z_fld RX11 415 5 4 false .int := ⟨RX5, TX5, 11, tyX5, rfl, uX5, tyX5_ok, nmX5, by decide, zw_199, rfl, by decide +kernel, rfl⟩
theorem f_X11_418 : z_fld RX11 418 5 0 false .int := ⟨RX5, TX5, 11, tyX5, rfl, uX5, tyX5_ok, nmX5, by decide, zw_200, rfl, by decide +kernel, rfl⟩
theorem f_X11_421 : z_fld RX11 421 5 1 false .int := ⟨RX5, TX5, 11, tyX5, rfl, uX5, tyX5_ok, nmX5, by decide, zw_201, rfl, by decide +kernel, rfl⟩
theorem f_X11_424 : z_fld RX11 424 5 2 false .int := ⟨RX5, TX5, 11, tyX5, rfl, uX5, tyX5_ok, nmX5, by decide, zw_202, rfl, by decide +kernel, rfl⟩
theorem f_X0_9 : z_fld RX0 9 0 2 true (.array .int) := ⟨RX0, TX0, 12, tyX0, rfl, uX0, tyX0_ok, nmX0, by decide, zw_203, rfl, by decide +kernel, rfl⟩
theorem f_X0_15 : z_fld RX0 15 0 3 true (.array .int) := ⟨RX0, TX0, 12, tyX0, rfl, uX0, tyX0_ok, nmX0, by decide, zw_204, rfl, by decide +kernel, rfl⟩
theorem f_X0_18 : z_fld RX0 18 0 4 true (.array .int) := ⟨RX0, TX0, 12, tyX0, rfl, uX0, tyX0_ok, nmX0, by decide, zw_205, rfl, by decide +kernel, rfl⟩
theorem f_X0_21 : z_fld RX0 21 0 5 true (.array .int) := ⟨RX0, TX0, 12, tyX0, rfl, uX0, tyX0_ok, nmX0, by decide, zw_206, rfl, by decide +kernel, rfl⟩
theorem f_X0_24 : z_fld RX0 24 0 6 false .int := ⟨RX0, TX0, 12, tyX0, rfl, uX0, tyX0_ok, nmX0, by decide, zw_207, rfl, by decide +kernel, rfl⟩
theorem f_X0_28 : z_fld RX0 28 0 7 false .boolean := ⟨RX0, TX0, 12, tyX0, rfl, uX0, tyX0_ok, nmX0, by decide, zw_208, rfl, by decide +kernel, rfl⟩
theorem f_X0_32 : z_fld RX0 32 0 8 false .int := ⟨RX0, TX0, 12, tyX0, rfl, uX0, tyX0_ok, nmX0, by decide, zw_209, rfl, by decide +kernel, rfl⟩
theorem f_X0_35 : z_fld RX0 35 0 9 false .int := ⟨RX0, TX0, 12, tyX0, rfl, uX0, tyX0_ok, nmX0, by decide, zw_210, rfl, by decide +kernel, rfl⟩
theorem f_X0_38 : z_fld RX0 38 0 10 false .int := ⟨RX0, TX0, 12, tyX0, rfl, uX0, tyX0_ok, nmX0, by decide, zw_211, rfl, by decide +kernel, rfl⟩
theorem f_X0_41 : z_fld RX0 41 0 11 false .int := ⟨RX0, TX0, 12, tyX0, rfl, uX0, tyX0_ok, nmX0, by decide, zw_212, rfl, by decide +kernel, rfl⟩
theorem f_X0_44 : z_fld RX0 44 0 0 true (.object "TreePeers$Reader") := ⟨RX0, TX0, 12, tyX0, rfl, uX0, tyX0_ok, nmX0, by decide, zw_213, rfl, by decide +kernel, rfl⟩
theorem f_X0_48 : z_fld RX0 48 0 1 true (.object "TreePeers$Plan") := ⟨RX0, TX0, 12, tyX0, rfl, uX0, tyX0_ok, nmX0, by decide, zw_214, rfl, by decide +kernel, rfl⟩
theorem f_X0_52 : z_fld RX0 52 6 4 false .int := ⟨RX6, TX6, 13, tyX6, rfl, uX6, tyX6_ok, nmX6, by decide, zw_215, rfl, by decide +kernel, rfl⟩
theorem f_X0_64 : z_fld RX0 64 6 6 false .int := ⟨RX6, TX6, 13, tyX6, rfl, uX6, tyX6_ok, nmX6, by decide, zw_216, rfl, by decide +kernel, rfl⟩
theorem f_X0_98 : z_fld RX0 98 4 1 true (.object "TreePeers$Facts") := ⟨RX4, TX4, 4, tyX4, rfl, uX4, tyX4_ok, nmX4, by decide, zw_217, rfl, by decide +kernel, rfl⟩
theorem f_X0_104 : z_fld RX0 104 3 6 false .int := ⟨RX3, TX3, 7, tyX3, rfl, uX3, tyX3_ok, nmX3, by decide, zw_218, rfl, by decide +kernel, rfl⟩
theorem f_X1_9 : z_fld RX1 9 1 3 false .int := ⟨RX1, TX1, 4, tyX1, rfl, uX1, tyX1_ok, nmX1, by decide, zw_219, rfl, by decide +kernel, rfl⟩
theorem f_X1_15 : z_fld RX1 15 1 0 true (.object "TreePeers$Reader") := ⟨RX1, TX1, 4, tyX1, rfl, uX1, tyX1_ok, nmX1, by decide, zw_220, rfl, by decide +kernel, rfl⟩
theorem f_X1_25 : z_fld RX1 25 1 1 true (.object "TreePeers$Plan") := ⟨RX1, TX1, 4, tyX1, rfl, uX1, tyX1_ok, nmX1, by decide, zw_221, rfl, by decide +kernel, rfl⟩
theorem f_X1_30 : z_fld RX1 30 1 2 true (.object "TreePeers$Facts") := ⟨RX1, TX1, 4, tyX1, rfl, uX1, tyX1_ok, nmX1, by decide, zw_222, rfl, by decide +kernel, rfl⟩
theorem f_X1_39 : z_fld RX1 39 6 4 false .int := ⟨RX6, TX6, 13, tyX6, rfl, uX6, tyX6_ok, nmX6, by decide, zw_223, rfl, by decide +kernel, rfl⟩
theorem f_X1_54 : z_fld RX1 54 6 6 false .int := ⟨RX6, TX6, 13, tyX6, rfl, uX6, tyX6_ok, nmX6, by decide, zw_224, rfl, by decide +kernel, rfl⟩
theorem f_X1_79 : z_fld RX1 79 5 3 false .int := ⟨RX5, TX5, 11, tyX5, rfl, uX5, tyX5_ok, nmX5, by decide, zw_225, rfl, by decide +kernel, rfl⟩
theorem f_X1_92 : z_fld RX1 92 5 0 false .int := ⟨RX5, TX5, 11, tyX5, rfl, uX5, tyX5_ok, nmX5, by decide, zw_226, rfl, by decide +kernel, rfl⟩
theorem f_X1_95 : z_fld RX1 95 5 1 false .int := ⟨RX5, TX5, 11, tyX5, rfl, uX5, tyX5_ok, nmX5, by decide, zw_227, rfl, by decide +kernel, rfl⟩
theorem f_X1_98 : z_fld RX1 98 5 2 false .int := ⟨RX5, TX5, 11, tyX5, rfl, uX5, tyX5_ok, nmX5, by decide, zw_228, rfl, by decide +kernel, rfl⟩
theorem f_X1_104 : z_fld RX1 104 5 5 true (.array .long) := ⟨RX5, TX5, 11, tyX5, rfl, uX5, tyX5_ok, nmX5, by decide, zw_229, rfl, by decide +kernel, rfl⟩
theorem f_X1_108 : z_fld RX1 108 6 7 false .long := ⟨RX6, TX6, 13, tyX6, rfl, uX6, tyX6_ok, nmX6, by decide, zw_230, rfl, by decide +kernel, rfl⟩
theorem f_X1_112 : z_fld RX1 112 5 4 false .int := ⟨RX5, TX5, 11, tyX5, rfl, uX5, tyX5_ok, nmX5, by decide, zw_231, rfl, by decide +kernel, rfl⟩
theorem f_X1_115 : z_fld RX1 115 5 6 true (.array .long) := ⟨RX5, TX5, 11, tyX5, rfl, uX5, tyX5_ok, nmX5, by decide, zw_232, rfl, by decide +kernel, rfl⟩
theorem f_X2_9 : z_fld RX2 9 2 0 false .int := ⟨RX2, TX2, 4, tyX2, rfl, uX2, tyX2_ok, nmX2, by decide, zw_233, rfl, by decide +kernel, rfl⟩
theorem f_X2_15 : z_fld RX2 15 2 1 true (.array .int) := ⟨RX2, TX2, 4, tyX2, rfl, uX2, tyX2_ok, nmX2, by decide, zw_234, rfl, by decide +kernel, rfl⟩
theorem f_X2_19 : z_fld RX2 19 2 2 true (.array .int) := ⟨RX2, TX2, 4, tyX2, rfl, uX2, tyX2_ok, nmX2, by decide, zw_235, rfl, by decide +kernel, rfl⟩
theorem f_X2_22 : z_fld RX2 22 2 3 false .boolean := ⟨RX2, TX2, 4, tyX2, rfl, uX2, tyX2_ok, nmX2, by decide, zw_236, rfl, by decide +kernel, rfl⟩
theorem f_X2_41 : z_fld RX2 41 4 0 true (.object "TreePeers$Plan") := ⟨RX4, TX4, 4, tyX4, rfl, uX4, tyX4_ok, nmX4, by decide, zw_237, rfl, by decide +kernel, rfl⟩
theorem f_X2_47 : z_fld RX2 47 5 4 false .int := ⟨RX5, TX5, 11, tyX5, rfl, uX5, tyX5_ok, nmX5, by decide, zw_238, rfl, by decide +kernel, rfl⟩
theorem f_X2_52 : z_fld RX2 52 5 3 false .int := ⟨RX5, TX5, 11, tyX5, rfl, uX5, tyX5_ok, nmX5, by decide, zw_239, rfl, by decide +kernel, rfl⟩
theorem f_X2_67 : z_fld RX2 67 4 1 true (.object "TreePeers$Facts") := ⟨RX4, TX4, 4, tyX4, rfl, uX4, tyX4_ok, nmX4, by decide, zw_240, rfl, by decide +kernel, rfl⟩
theorem f_X3_9 : z_fld RX3 9 3 0 true (.array .int) := ⟨RX3, TX3, 7, tyX3, rfl, uX3, tyX3_ok, nmX3, by decide, zw_241, rfl, by decide +kernel, rfl⟩
theorem f_X3_15 : z_fld RX3 15 3 1 true (.array .int) := ⟨RX3, TX3, 7, tyX3, rfl, uX3, tyX3_ok, nmX3, by decide, zw_242, rfl, by decide +kernel, rfl⟩
theorem f_X3_18 : z_fld RX3 18 3 2 true (.array .int) := ⟨RX3, TX3, 7, tyX3, rfl, uX3, tyX3_ok, nmX3, by decide, zw_243, rfl, by decide +kernel, rfl⟩
theorem f_X3_21 : z_fld RX3 21 3 3 true (.array .int) := ⟨RX3, TX3, 7, tyX3, rfl, uX3, tyX3_ok, nmX3, by decide, zw_244, rfl, by decide +kernel, rfl⟩
theorem f_X3_24 : z_fld RX3 24 3 4 false .int := ⟨RX3, TX3, 7, tyX3, rfl, uX3, tyX3_ok, nmX3, by decide, zw_245, rfl, by decide +kernel, rfl⟩
theorem f_X3_28 : z_fld RX3 28 3 5 false .int := ⟨RX3, TX3, 7, tyX3, rfl, uX3, tyX3_ok, nmX3, by decide, zw_246, rfl, by decide +kernel, rfl⟩
theorem f_X3_31 : z_fld RX3 31 3 6 false .int := ⟨RX3, TX3, 7, tyX3, rfl, uX3, tyX3_ok, nmX3, by decide, zw_247, rfl, by decide +kernel, rfl⟩
theorem f_X3_48 : z_fld RX3 48 5 7 true (.array .int) := ⟨RX5, TX5, 11, tyX5, rfl, uX5, tyX5_ok, nmX5, by decide, zw_248, rfl, by decide +kernel, rfl⟩
theorem f_X4_12 : z_fld RX4 12 4 2 true (.array (.object "TreePeers$Tree")) := ⟨RX4, TX4, 4, tyX4, rfl, uX4, tyX4_ok, nmX4, by decide, zw_249, rfl, by decide +kernel, rfl⟩
theorem f_X4_18 : z_fld RX4 18 4 3 true (.array .int) := ⟨RX4, TX4, 4, tyX4, rfl, uX4, tyX4_ok, nmX4, by decide, zw_250, rfl, by decide +kernel, rfl⟩
theorem f_X4_22 : z_fld RX4 22 4 0 true (.object "TreePeers$Plan") := ⟨RX4, TX4, 4, tyX4, rfl, uX4, tyX4_ok, nmX4, by decide, zw_251, rfl, by decide +kernel, rfl⟩
theorem f_X4_26 : z_fld RX4 26 4 1 true (.object "TreePeers$Facts") := ⟨RX4, TX4, 4, tyX4, rfl, uX4, tyX4_ok, nmX4, by decide, zw_252, rfl, by decide +kernel, rfl⟩
theorem f_X4_43 : z_fld RX4 43 9 12 false .int := ⟨RX9, TX9, 13, tyX9, rfl, uX9, tyX9_ok, nmX9, by decide, zw_253, rfl, by decide +kernel, rfl⟩
theorem f_X4_47 : z_fld RX4 47 9 10 true (.array .int) := ⟨RX9, TX9, 13, tyX9, rfl, uX9, tyX9_ok, nmX9, by decide, zw_254, rfl, by decide +kernel, rfl⟩
theorem f_X4_50 : z_fld RX4 50 5 4 false .int := ⟨RX5, TX5, 11, tyX5, rfl, uX5, tyX5_ok, nmX5, by decide, zw_255, rfl, by decide +kernel, rfl⟩
theorem f_X4_59 : z_fld RX4 59 5 3 false .int := ⟨RX5, TX5, 11, tyX5, rfl, uX5, tyX5_ok, nmX5, by decide, zw_256, rfl, by decide +kernel, rfl⟩
theorem f_X4_88 : z_fld RX4 88 9 9 true (.array .int) := ⟨RX9, TX9, 13, tyX9, rfl, uX9, tyX9_ok, nmX9, by decide, zw_257, rfl, by decide +kernel, rfl⟩
theorem f_X4_98 : z_fld RX4 98 9 3 false .int := ⟨RX9, TX9, 13, tyX9, rfl, uX9, tyX9_ok, nmX9, by decide, zw_258, rfl, by decide +kernel, rfl⟩
theorem f_X4_101 : z_fld RX4 101 9 0 true (.array .int) := ⟨RX9, TX9, 13, tyX9, rfl, uX9, tyX9_ok, nmX9, by decide, zw_259, rfl, by decide +kernel, rfl⟩
theorem f_X4_104 : z_fld RX4 104 9 11 true (.array .int) := ⟨RX9, TX9, 13, tyX9, rfl, uX9, tyX9_ok, nmX9, by decide, zw_260, rfl, by decide +kernel, rfl⟩
theorem f_X4_113 : z_fld RX4 113 5 2 false .int := ⟨RX5, TX5, 11, tyX5, rfl, uX5, tyX5_ok, nmX5, by decide, zw_261, rfl, by decide +kernel, rfl⟩
theorem f_X4_126 : z_fld RX4 126 5 1 false .int := ⟨RX5, TX5, 11, tyX5, rfl, uX5, tyX5_ok, nmX5, by decide, zw_262, rfl, by decide +kernel, rfl⟩
theorem f_X4_135 : z_fld RX4 135 3 4 false .int := ⟨RX3, TX3, 7, tyX3, rfl, uX3, tyX3_ok, nmX3, by decide, zw_263, rfl, by decide +kernel, rfl⟩
theorem f_X4_138 : z_fld RX4 138 3 5 false .int := ⟨RX3, TX3, 7, tyX3, rfl, uX3, tyX3_ok, nmX3, by decide, zw_264, rfl, by decide +kernel, rfl⟩
theorem f_X4_141 : z_fld RX4 141 3 3 true (.array .int) := ⟨RX3, TX3, 7, tyX3, rfl, uX3, tyX3_ok, nmX3, by decide, zw_265, rfl, by decide +kernel, rfl⟩
theorem f_X5_9 : z_fld RX5 9 5 0 false .int := ⟨RX5, TX5, 11, tyX5, rfl, uX5, tyX5_ok, nmX5, by decide, zw_266, rfl, by decide +kernel, rfl⟩
theorem f_X5_15 : z_fld RX5 15 5 1 false .int := ⟨RX5, TX5, 11, tyX5, rfl, uX5, tyX5_ok, nmX5, by decide, zw_267, rfl, by decide +kernel, rfl⟩
theorem f_X5_18 : z_fld RX5 18 5 2 false .int := ⟨RX5, TX5, 11, tyX5, rfl, uX5, tyX5_ok, nmX5, by decide, zw_268, rfl, by decide +kernel, rfl⟩
theorem f_X5_21 : z_fld RX5 21 5 3 false .int := ⟨RX5, TX5, 11, tyX5, rfl, uX5, tyX5_ok, nmX5, by decide, zw_269, rfl, by decide +kernel, rfl⟩
theorem f_X5_24 : z_fld RX5 24 5 4 false .int := ⟨RX5, TX5, 11, tyX5, rfl, uX5, tyX5_ok, nmX5, by decide, zw_270, rfl, by decide +kernel, rfl⟩
theorem f_X5_27 : z_fld RX5 27 5 5 true (.array .long) := ⟨RX5, TX5, 11, tyX5, rfl, uX5, tyX5_ok, nmX5, by decide, zw_271, rfl, by decide +kernel, rfl⟩
theorem f_X5_31 : z_fld RX5 31 5 6 true (.array .long) := ⟨RX5, TX5, 11, tyX5, rfl, uX5, tyX5_ok, nmX5, by decide, zw_272, rfl, by decide +kernel, rfl⟩
theorem f_X5_34 : z_fld RX5 34 5 7 true (.array .int) := ⟨RX5, TX5, 11, tyX5, rfl, uX5, tyX5_ok, nmX5, by decide, zw_273, rfl, by decide +kernel, rfl⟩
theorem f_X5_38 : z_fld RX5 38 5 8 true (.array .int) := ⟨RX5, TX5, 11, tyX5, rfl, uX5, tyX5_ok, nmX5, by decide, zw_274, rfl, by decide +kernel, rfl⟩
theorem f_X5_41 : z_fld RX5 41 5 9 true (.array .int) := ⟨RX5, TX5, 11, tyX5, rfl, uX5, tyX5_ok, nmX5, by decide, zw_275, rfl, by decide +kernel, rfl⟩
theorem f_X5_44 : z_fld RX5 44 5 10 true (.array .int) := ⟨RX5, TX5, 11, tyX5, rfl, uX5, tyX5_ok, nmX5, by decide, zw_276, rfl, by decide +kernel, rfl⟩
theorem f_X6_9 : z_fld RX6 9 6 1 false .int := ⟨RX6, TX6, 13, tyX6, rfl, uX6, tyX6_ok, nmX6, by decide, zw_277, rfl, by decide +kernel, rfl⟩
theorem f_X6_15 : z_fld RX6 15 6 2 false .int := ⟨RX6, TX6, 13, tyX6, rfl, uX6, tyX6_ok, nmX6, by decide, zw_278, rfl, by decide +kernel, rfl⟩
theorem f_X6_18 : z_fld RX6 18 6 3 false .int := ⟨RX6, TX6, 13, tyX6, rfl, uX6, tyX6_ok, nmX6, by decide, zw_279, rfl, by decide +kernel, rfl⟩
theorem f_X6_21 : z_fld RX6 21 6 4 false .int := ⟨RX6, TX6, 13, tyX6, rfl, uX6, tyX6_ok, nmX6, by decide, zw_280, rfl, by decide +kernel, rfl⟩
theorem f_X6_24 : z_fld RX6 24 6 5 false .int := ⟨RX6, TX6, 13, tyX6, rfl, uX6, tyX6_ok, nmX6, by decide, zw_281, rfl, by decide +kernel, rfl⟩
theorem f_X6_27 : z_fld RX6 27 6 6 false .int := ⟨RX6, TX6, 13, tyX6, rfl, uX6, tyX6_ok, nmX6, by decide, zw_282, rfl, by decide +kernel, rfl⟩
theorem f_X6_30 : z_fld RX6 30 6 7 false .long := ⟨RX6, TX6, 13, tyX6, rfl, uX6, tyX6_ok, nmX6, by decide, zw_283, rfl, by decide +kernel, rfl⟩
theorem f_X6_34 : z_fld RX6 34 6 8 false .int := ⟨RX6, TX6, 13, tyX6, rfl, uX6, tyX6_ok, nmX6, by decide, zw_284, rfl, by decide +kernel, rfl⟩
theorem f_X6_37 : z_fld RX6 37 6 9 false .int := ⟨RX6, TX6, 13, tyX6, rfl, uX6, tyX6_ok, nmX6, by decide, zw_285, rfl, by decide +kernel, rfl⟩
theorem f_X6_40 : z_fld RX6 40 6 10 false .int := ⟨RX6, TX6, 13, tyX6, rfl, uX6, tyX6_ok, nmX6, by decide, zw_286, rfl, by decide +kernel, rfl⟩
theorem f_X6_43 : z_fld RX6 43 6 11 false .int := ⟨RX6, TX6, 13, tyX6, rfl, uX6, tyX6_ok, nmX6, by decide, zw_287, rfl, by decide +kernel, rfl⟩
theorem f_X6_46 : z_fld RX6 46 6 12 false .int := ⟨RX6, TX6, 13, tyX6, rfl, uX6, tyX6_ok, nmX6, by decide, zw_288, rfl, by decide +kernel, rfl⟩
theorem f_X6_49 : z_fld RX6 49 6 0 true (.array .byte) := ⟨RX6, TX6, 13, tyX6, rfl, uX6, tyX6_ok, nmX6, by decide, zw_289, rfl, by decide +kernel, rfl⟩
theorem f_X7_9 : z_fld RX7 9 7 0 true (.array .int) := ⟨RX7, TX7, 3, tyX7, rfl, uX7, tyX7_ok, nmX7, by decide, zw_290, rfl, by decide +kernel, rfl⟩
theorem f_X7_15 : z_fld RX7 15 7 1 false .int := ⟨RX7, TX7, 3, tyX7, rfl, uX7, tyX7_ok, nmX7, by decide, zw_291, rfl, by decide +kernel, rfl⟩
theorem f_X7_19 : z_fld RX7 19 7 2 false .int := ⟨RX7, TX7, 3, tyX7, rfl, uX7, tyX7_ok, nmX7, by decide, zw_292, rfl, by decide +kernel, rfl⟩
theorem f_X7_35 : z_fld RX7 35 6 4 false .int := ⟨RX6, TX6, 13, tyX6, rfl, uX6, tyX6_ok, nmX6, by decide, zw_293, rfl, by decide +kernel, rfl⟩
theorem f_X7_51 : z_fld RX7 51 6 6 false .int := ⟨RX6, TX6, 13, tyX6, rfl, uX6, tyX6_ok, nmX6, by decide, zw_294, rfl, by decide +kernel, rfl⟩
theorem f_X7_64 : z_fld RX7 64 6 9 false .int := ⟨RX6, TX6, 13, tyX6, rfl, uX6, tyX6_ok, nmX6, by decide, zw_295, rfl, by decide +kernel, rfl⟩
theorem f_X7_94 : z_fld RX7 94 4 1 true (.object "TreePeers$Facts") := ⟨RX4, TX4, 4, tyX4, rfl, uX4, tyX4_ok, nmX4, by decide, zw_296, rfl, by decide +kernel, rfl⟩
theorem f_X7_107 : z_fld RX7 107 4 0 true (.object "TreePeers$Plan") := ⟨RX4, TX4, 4, tyX4, rfl, uX4, tyX4_ok, nmX4, by decide, zw_297, rfl, by decide +kernel, rfl⟩
theorem f_X7_111 : z_fld RX7 111 5 8 true (.array .int) := ⟨RX5, TX5, 11, tyX5, rfl, uX5, tyX5_ok, nmX5, by decide, zw_298, rfl, by decide +kernel, rfl⟩
theorem f_X8_10 : z_fld RX8 10 8 0 true (.object "TreePeers$Plan") := ⟨RX8, TX8, 4, tyX8, rfl, uX8, tyX8_ok, nmX8, by decide, zw_299, rfl, by decide +kernel, rfl⟩
theorem f_X8_19 : z_fld RX8 19 8 1 true (.object "TreePeers$Facts") := ⟨RX8, TX8, 4, tyX8, rfl, uX8, tyX8_ok, nmX8, by decide, zw_300, rfl, by decide +kernel, rfl⟩
theorem f_X8_26 : z_fld RX8 26 8 2 true (.object "TreePeers$Saying") := ⟨RX8, TX8, 4, tyX8, rfl, uX8, tyX8_ok, nmX8, by decide, zw_301, rfl, by decide +kernel, rfl⟩
theorem f_X9_9 : z_fld RX9 9 9 0 true (.array .int) := ⟨RX9, TX9, 13, tyX9, rfl, uX9, tyX9_ok, nmX9, by decide, zw_302, rfl, by decide +kernel, rfl⟩
theorem f_X9_15 : z_fld RX9 15 9 1 true (.array .int) := ⟨RX9, TX9, 13, tyX9, rfl, uX9, tyX9_ok, nmX9, by decide, zw_303, rfl, by decide +kernel, rfl⟩
theorem f_X9_18 : z_fld RX9 18 9 2 true (.array .int) := ⟨RX9, TX9, 13, tyX9, rfl, uX9, tyX9_ok, nmX9, by decide, zw_304, rfl, by decide +kernel, rfl⟩
theorem f_X9_21 : z_fld RX9 21 9 3 false .int := ⟨RX9, TX9, 13, tyX9, rfl, uX9, tyX9_ok, nmX9, by decide, zw_305, rfl, by decide +kernel, rfl⟩
theorem f_X9_25 : z_fld RX9 25 9 4 true (.array .int) := ⟨RX9, TX9, 13, tyX9, rfl, uX9, tyX9_ok, nmX9, by decide, zw_306, rfl, by decide +kernel, rfl⟩
theorem f_X9_28 : z_fld RX9 28 9 5 true (.array .int) := ⟨RX9, TX9, 13, tyX9, rfl, uX9, tyX9_ok, nmX9, by decide, zw_307, rfl, by decide +kernel, rfl⟩
theorem f_X9_31 : z_fld RX9 31 9 6 true (.array .int) := ⟨RX9, TX9, 13, tyX9, rfl, uX9, tyX9_ok, nmX9, by decide, zw_308, rfl, by decide +kernel, rfl⟩
theorem f_X9_34 : z_fld RX9 34 9 7 true (.array .int) := ⟨RX9, TX9, 13, tyX9, rfl, uX9, tyX9_ok, nmX9, by decide, zw_309, rfl, by decide +kernel, rfl⟩
theorem f_X9_37 : z_fld RX9 37 9 8 true (.array .int) := ⟨RX9, TX9, 13, tyX9, rfl, uX9, tyX9_ok, nmX9, by decide, zw_310, rfl, by decide +kernel, rfl⟩
theorem f_X9_40 : z_fld RX9 40 9 9 true (.array .int) := ⟨RX9, TX9, 13, tyX9, rfl, uX9, tyX9_ok, nmX9, by decide, zw_311, rfl, by decide +kernel, rfl⟩
theorem f_X9_43 : z_fld RX9 43 9 10 true (.array .int) := ⟨RX9, TX9, 13, tyX9, rfl, uX9, tyX9_ok, nmX9, by decide, zw_312, rfl, by decide +kernel, rfl⟩
theorem f_X9_46 : z_fld RX9 46 9 11 true (.array .int) := ⟨RX9, TX9, 13, tyX9, rfl, uX9, tyX9_ok, nmX9, by decide, zw_313, rfl, by decide +kernel, rfl⟩
theorem f_X9_49 : z_fld RX9 49 9 12 false .int := ⟨RX9, TX9, 13, tyX9, rfl, uX9, tyX9_ok, nmX9, by decide, zw_314, rfl, by decide +kernel, rfl⟩
theorem f_X9_58 : z_fld RX9 58 5 3 false .int := ⟨RX5, TX5, 11, tyX5, rfl, uX5, tyX5_ok, nmX5, by decide, zw_315, rfl, by decide +kernel, rfl⟩
theorem f_X9_63 : z_fld RX9 63 5 9 true (.array .int) := ⟨RX5, TX5, 11, tyX5, rfl, uX5, tyX5_ok, nmX5, by decide, zw_316, rfl, by decide +kernel, rfl⟩
theorem f_X9_72 : z_fld RX9 72 5 8 true (.array .int) := ⟨RX5, TX5, 11, tyX5, rfl, uX5, tyX5_ok, nmX5, by decide, zw_317, rfl, by decide +kernel, rfl⟩
theorem f_X10_11 : z_fld RX10 11 10 0 true (.array (.object "TreePeers$Facts")) := ⟨RX10, TX10, 3, tyX10, rfl, uX10, tyX10_ok, nmX10, by decide, zw_318, rfl, by decide +kernel, rfl⟩
theorem f_X10_17 : z_fld RX10 17 10 1 false .int := ⟨RX10, TX10, 3, tyX10, rfl, uX10, tyX10_ok, nmX10, by decide, zw_319, rfl, by decide +kernel, rfl⟩
theorem f_X10_21 : z_fld RX10 21 10 2 false .int := ⟨RX10, TX10, 3, tyX10, rfl, uX10, tyX10_ok, nmX10, by decide, zw_320, rfl, by decide +kernel, rfl⟩
theorem f_X12_1 : z_fld RX12 1 12 0 false .int := ⟨RX12, TX12, 60, tyX12, rfl, uX12, tyX12_ok, nmX12, by decide, zw_321, rfl, by decide +kernel, rfl⟩
theorem f_X12_7 : z_fld RX12 7 12 1 true (.array .int) := ⟨RX12, TX12, 60, tyX12, rfl, uX12, tyX12_ok, nmX12, by decide, zw_322, rfl, by decide +kernel, rfl⟩
theorem f_X12_11 : z_fld RX12 11 12 2 false .int := ⟨RX12, TX12, 60, tyX12, rfl, uX12, tyX12_ok, nmX12, by decide, zw_323, rfl, by decide +kernel, rfl⟩
theorem f_X12_18 : z_fld RX12 18 12 3 false .int := ⟨RX12, TX12, 60, tyX12, rfl, uX12, tyX12_ok, nmX12, by decide, zw_324, rfl, by decide +kernel, rfl⟩
theorem f_X12_21 : z_fld RX12 21 12 5 false .int := ⟨RX12, TX12, 60, tyX12, rfl, uX12, tyX12_ok, nmX12, by decide, zw_325, rfl, by decide +kernel, rfl⟩
theorem f_X12_24 : z_fld RX12 24 12 6 false .int := ⟨RX12, TX12, 60, tyX12, rfl, uX12, tyX12_ok, nmX12, by decide, zw_326, rfl, by decide +kernel, rfl⟩
theorem f_X12_27 : z_fld RX12 27 12 4 false .int := ⟨RX12, TX12, 60, tyX12, rfl, uX12, tyX12_ok, nmX12, by decide, zw_327, rfl, by decide +kernel, rfl⟩
theorem f_X12_30 : z_fld RX12 30 12 7 false .int := ⟨RX12, TX12, 60, tyX12, rfl, uX12, tyX12_ok, nmX12, by decide, zw_328, rfl, by decide +kernel, rfl⟩
theorem f_X12_40 : z_fld RX12 40 12 9 false .int := ⟨RX12, TX12, 60, tyX12, rfl, uX12, tyX12_ok, nmX12, by decide, zw_329, rfl, by decide +kernel, rfl⟩
theorem f_X12_43 : z_fld RX12 43 12 12 false .long := ⟨RX12, TX12, 60, tyX12, rfl, uX12, tyX12_ok, nmX12, by decide, zw_330, rfl, by decide +kernel, rfl⟩
theorem f_X12_47 : z_fld RX12 47 12 8 false .int := ⟨RX12, TX12, 60, tyX12, rfl, uX12, tyX12_ok, nmX12, by decide, zw_331, rfl, by decide +kernel, rfl⟩
theorem f_X12_66 : z_fld RX12 66 12 10 false .int := ⟨RX12, TX12, 60, tyX12, rfl, uX12, tyX12_ok, nmX12, by decide, zw_332, rfl, by decide +kernel, rfl⟩
theorem f_X12_69 : z_fld RX12 69 12 11 false .int := ⟨RX12, TX12, 60, tyX12, rfl, uX12, tyX12_ok, nmX12, by decide, zw_333, rfl, by decide +kernel, rfl⟩
theorem f_X12_79 : z_fld RX12 79 12 13 false .int := ⟨RX12, TX12, 60, tyX12, rfl, uX12, tyX12_ok, nmX12, by decide, zw_334, rfl, by decide +kernel, rfl⟩
theorem f_X12_98 : z_fld RX12 98 12 14 true (.array .int) := ⟨RX12, TX12, 60, tyX12, rfl, uX12, tyX12_ok, nmX12, by decide, zw_335, rfl, by decide +kernel, rfl⟩
theorem f_X12_101 : z_fld RX12 101 12 15 true (.array .int) := ⟨RX12, TX12, 60, tyX12, rfl, uX12, tyX12_ok, nmX12, by decide, zw_336, rfl, by decide +kernel, rfl⟩
theorem f_X12_104 : z_fld RX12 104 12 16 true (.array .int) := ⟨RX12, TX12, 60, tyX12, rfl, uX12, tyX12_ok, nmX12, by decide, zw_337, rfl, by decide +kernel, rfl⟩
theorem f_X12_107 : z_fld RX12 107 12 17 true (.array .int) := ⟨RX12, TX12, 60, tyX12, rfl, uX12, tyX12_ok, nmX12, by decide, zw_338, rfl, by decide +kernel, rfl⟩
theorem f_X12_110 : z_fld RX12 110 12 18 true (.array .int) := ⟨RX12, TX12, 60, tyX12, rfl, uX12, tyX12_ok, nmX12, by decide, zw_339, rfl, by decide +kernel, rfl⟩
theorem f_X12_113 : z_fld RX12 113 12 19 true (.array .int) := ⟨RX12, TX12, 60, tyX12, rfl, uX12, tyX12_ok, nmX12, by decide, zw_340, rfl, by decide +kernel, rfl⟩
theorem f_X12_116 : z_fld RX12 116 12 20 true (.array .long) := ⟨RX12, TX12, 60, tyX12, rfl, uX12, tyX12_ok, nmX12, by decide, zw_341, rfl, by decide +kernel, rfl⟩
theorem f_X12_120 : z_fld RX12 120 12 21 true (.array .long) := ⟨RX12, TX12, 60, tyX12, rfl, uX12, tyX12_ok, nmX12, by decide, zw_342, rfl, by decide +kernel, rfl⟩
theorem f_X12_123 : z_fld RX12 123 12 22 true (.array .long) := ⟨RX12, TX12, 60, tyX12, rfl, uX12, tyX12_ok, nmX12, by decide, zw_343, rfl, by decide +kernel, rfl⟩
theorem f_X12_126 : z_fld RX12 126 12 23 true (.array .boolean) := ⟨RX12, TX12, 60, tyX12, rfl, uX12, tyX12_ok, nmX12, by decide, zw_344, rfl, by decide +kernel, rfl⟩
theorem f_X12_130 : z_fld RX12 130 12 24 true (.array .boolean) := ⟨RX12, TX12, 60, tyX12, rfl, uX12, tyX12_ok, nmX12, by decide, zw_345, rfl, by decide +kernel, rfl⟩
theorem f_X12_133 : z_fld RX12 133 12 27 false .int := ⟨RX12, TX12, 60, tyX12, rfl, uX12, tyX12_ok, nmX12, by decide, zw_346, rfl, by decide +kernel, rfl⟩
theorem f_X12_136 : z_fld RX12 136 12 28 true (.array .int) := ⟨RX12, TX12, 60, tyX12, rfl, uX12, tyX12_ok, nmX12, by decide, zw_347, rfl, by decide +kernel, rfl⟩
theorem f_X12_139 : z_fld RX12 139 12 29 true (.array .int) := ⟨RX12, TX12, 60, tyX12, rfl, uX12, tyX12_ok, nmX12, by decide, zw_348, rfl, by decide +kernel, rfl⟩
theorem f_X12_142 : z_fld RX12 142 12 30 true (.array .int) := ⟨RX12, TX12, 60, tyX12, rfl, uX12, tyX12_ok, nmX12, by decide, zw_349, rfl, by decide +kernel, rfl⟩
theorem f_X12_145 : z_fld RX12 145 12 31 true (.array .int) := ⟨RX12, TX12, 60, tyX12, rfl, uX12, tyX12_ok, nmX12, by decide, zw_350, rfl, by decide +kernel, rfl⟩
theorem f_X12_148 : z_fld RX12 148 12 32 true (.array .int) := ⟨RX12, TX12, 60, tyX12, rfl, uX12, tyX12_ok, nmX12, by decide, zw_351, rfl, by decide +kernel, rfl⟩
theorem f_X12_151 : z_fld RX12 151 12 33 true (.array .int) := ⟨RX12, TX12, 60, tyX12, rfl, uX12, tyX12_ok, nmX12, by decide, zw_352, rfl, by decide +kernel, rfl⟩
theorem f_X12_154 : z_fld RX12 154 12 34 true (.array .int) := ⟨RX12, TX12, 60, tyX12, rfl, uX12, tyX12_ok, nmX12, by decide, zw_353, rfl, by decide +kernel, rfl⟩
theorem f_X12_157 : z_fld RX12 157 12 35 true (.array .int) := ⟨RX12, TX12, 60, tyX12, rfl, uX12, tyX12_ok, nmX12, by decide, zw_354, rfl, by decide +kernel, rfl⟩
theorem f_X12_160 : z_fld RX12 160 12 36 true (.array .int) := ⟨RX12, TX12, 60, tyX12, rfl, uX12, tyX12_ok, nmX12, by decide, zw_355, rfl, by decide +kernel, rfl⟩
theorem f_X12_163 : z_fld RX12 163 12 37 true (.array .int) := ⟨RX12, TX12, 60, tyX12, rfl, uX12, tyX12_ok, nmX12, by decide, zw_356, rfl, by decide +kernel, rfl⟩
theorem f_X12_166 : z_fld RX12 166 12 38 true (.array .int) := ⟨RX12, TX12, 60, tyX12, rfl, uX12, tyX12_ok, nmX12, by decide, zw_357, rfl, by decide +kernel, rfl⟩
theorem f_X12_169 : z_fld RX12 169 12 39 true (.array .int) := ⟨RX12, TX12, 60, tyX12, rfl, uX12, tyX12_ok, nmX12, by decide, zw_358, rfl, by decide +kernel, rfl⟩
theorem f_X12_172 : z_fld RX12 172 12 40 true (.array .int) := ⟨RX12, TX12, 60, tyX12, rfl, uX12, tyX12_ok, nmX12, by decide, zw_359, rfl, by decide +kernel, rfl⟩
theorem f_X12_175 : z_fld RX12 175 12 41 true (.array .int) := ⟨RX12, TX12, 60, tyX12, rfl, uX12, tyX12_ok, nmX12, by decide, zw_360, rfl, by decide +kernel, rfl⟩
theorem f_X12_178 : z_fld RX12 178 12 42 true (.array .int) := ⟨RX12, TX12, 60, tyX12, rfl, uX12, tyX12_ok, nmX12, by decide, zw_361, rfl, by decide +kernel, rfl⟩
theorem f_X12_181 : z_fld RX12 181 12 45 true (.array .int) := ⟨RX12, TX12, 60, tyX12, rfl, uX12, tyX12_ok, nmX12, by decide, zw_362, rfl, by decide +kernel, rfl⟩
theorem f_X12_184 : z_fld RX12 184 12 47 true (.array .int) := ⟨RX12, TX12, 60, tyX12, rfl, uX12, tyX12_ok, nmX12, by decide, zw_363, rfl, by decide +kernel, rfl⟩
theorem f_X12_187 : z_fld RX12 187 12 48 true (.array .int) := ⟨RX12, TX12, 60, tyX12, rfl, uX12, tyX12_ok, nmX12, by decide, zw_364, rfl, by decide +kernel, rfl⟩
theorem f_X12_190 : z_fld RX12 190 12 51 true (.array .int) := ⟨RX12, TX12, 60, tyX12, rfl, uX12, tyX12_ok, nmX12, by decide, zw_365, rfl, by decide +kernel, rfl⟩
theorem f_X12_193 : z_fld RX12 193 12 52 true (.array .int) := ⟨RX12, TX12, 60, tyX12, rfl, uX12, tyX12_ok, nmX12, by decide, zw_366, rfl, by decide +kernel, rfl⟩
theorem f_X12_196 : z_fld RX12 196 12 55 true (.array .int) := ⟨RX12, TX12, 60, tyX12, rfl, uX12, tyX12_ok, nmX12, by decide, zw_367, rfl, by decide +kernel, rfl⟩
theorem f_X12_263 : z_fld RX12 263 12 25 false .int := ⟨RX12, TX12, 60, tyX12, rfl, uX12, tyX12_ok, nmX12, by decide, zw_368, rfl, by decide +kernel, rfl⟩
theorem f_X12_357 : z_fld RX12 357 12 43 false .int := ⟨RX12, TX12, 60, tyX12, rfl, uX12, tyX12_ok, nmX12, by decide, zw_369, rfl, by decide +kernel, rfl⟩
theorem f_X12_370 : z_fld RX12 370 12 44 false .int := ⟨RX12, TX12, 60, tyX12, rfl, uX12, tyX12_ok, nmX12, by decide, zw_370, rfl, by decide +kernel, rfl⟩
theorem f_X12_417 : z_fld RX12 417 12 46 false .int := ⟨RX12, TX12, 60, tyX12, rfl, uX12, tyX12_ok, nmX12, by decide, zw_371, rfl, by decide +kernel, rfl⟩
theorem f_X12_433 : z_fld RX12 433 12 50 false .int := ⟨RX12, TX12, 60, tyX12, rfl, uX12, tyX12_ok, nmX12, by decide, zw_372, rfl, by decide +kernel, rfl⟩
theorem f_X12_452 : z_fld RX12 452 12 49 false .boolean := ⟨RX12, TX12, 60, tyX12, rfl, uX12, tyX12_ok, nmX12, by decide, zw_373, rfl, by decide +kernel, rfl⟩
theorem f_X12_459 : z_fld RX12 459 12 53 false .int := ⟨RX12, TX12, 60, tyX12, rfl, uX12, tyX12_ok, nmX12, by decide, zw_374, rfl, by decide +kernel, rfl⟩
theorem f_X12_477 : z_fld RX12 477 12 54 false .boolean := ⟨RX12, TX12, 60, tyX12, rfl, uX12, tyX12_ok, nmX12, by decide, zw_375, rfl, by decide +kernel, rfl⟩
theorem f_X12_484 : z_fld RX12 484 12 56 false .int := ⟨RX12, TX12, 60, tyX12, rfl, uX12, tyX12_ok, nmX12, by decide, zw_376, rfl, by decide +kernel, rfl⟩
theorem f_X12_490 : z_fld RX12 490 12 59 false .int := ⟨RX12, TX12, 60, tyX12, rfl, uX12, tyX12_ok, nmX12, by decide, zw_377, rfl, by decide +kernel, rfl⟩
theorem f_X12_499 : z_fld RX12 499 12 57 false .int := ⟨RX12, TX12, 60, tyX12, rfl, uX12, tyX12_ok, nmX12, by decide, zw_378, rfl, by decide +kernel, rfl⟩
theorem f_X12_502 : z_fld RX12 502 12 58 false .int := ⟨RX12, TX12, 60, tyX12, rfl, uX12, tyX12_ok, nmX12, by decide, zw_379, rfl, by decide +kernel, rfl⟩
theorem k_X11_427 : Cond.constant RX11 427 16777619 ∈ z_good := zw_380
theorem k_X2_32 : Cond.constant RX2 32 1103515245 ∈ z_good := zw_381
theorem k_X5_65 : Cond.constant RX5 65 (-2128831035) ∈ z_good := zw_382
theorem k_X12_54 : Cond.constantLong RX12 54 27 ∈ z_good := zw_383
theorem k_X12_56 : Cond.constantLong RX12 56 96 ∈ z_good := zw_384
theorem k_X12_266 : Cond.constant RX12 266 16777619 ∈ z_good := zw_385
theorem k_X12_271 : Cond.constant RX12 271 (-2128831035) ∈ z_good := zw_386
theorem k_X12_276 : Cond.constantLong RX12 276 387420489 ∈ z_good := zw_387
theorem k_X12_436 : Cond.constant RX12 436 1103515245 ∈ z_good := zw_388
theorem k_J6_265 : Cond.constant RJ6 265 1431655765 ∈ z_good := zw_389
theorem k_J6_266 : Cond.constant RJ6 266 858993459 ∈ z_good := zw_390
theorem k_J6_267 : Cond.constant RJ6 267 252645135 ∈ z_good := zw_391
theorem l_X11_114 : Cond.methodLink RX11 114 yX11_feedNumber ∈ z_good := zw_392
theorem l_X11_118 : Cond.methodLink RX11 118 yX6_open ∈ z_good := zw_393
theorem l_X11_122 : Cond.methodLink RX11 122 yX1_read ∈ z_good := zw_394
theorem l_X11_129 : Cond.methodLink RX11 129 yX11_closeText ∈ z_good := zw_395
theorem l_X11_139 : Cond.methodLink RX11 139 yX7_clear ∈ z_good := zw_396
theorem l_X11_144 : Cond.methodLink RX11 144 yX8_copyFrom ∈ z_good := zw_397
theorem l_X11_148 : Cond.methodLink RX11 148 yX4_growTrees ∈ z_good := zw_398
theorem l_X11_151 : Cond.methodLink RX11 151 yX10_clear ∈ z_good := zw_399
theorem l_X11_153 : Cond.methodLink RX11 153 yX11_isKey ∈ z_good := zw_400
theorem l_X11_165 : Cond.methodLink RX11 165 yX4_holderBits ∈ z_good := zw_401
theorem l_X11_179 : Cond.methodLink RX11 179 yX11_isPeer ∈ z_good := zw_402
theorem l_X11_191 : Cond.methodLink RX11 191 yX4_goneCount ∈ z_good := zw_403
theorem l_X11_203 : Cond.methodLink RX11 203 yX4_sameRootBits ∈ z_good := zw_404
theorem l_X11_211 : Cond.methodLink RX11 211 yX4_rootOf ∈ z_good := zw_405
theorem l_X11_214 : Cond.methodLink RX11 214 yX3_has ∈ z_good := zw_406
theorem l_X11_220 : Cond.methodLink RX11 220 yX3_valueOf ∈ z_good := zw_407
theorem l_X11_224 : Cond.methodLink RX11 224 yX3_stampOf ∈ z_good := zw_408
theorem l_X11_227 : Cond.methodLink RX11 227 yX3_digestOf ∈ z_good := zw_409
theorem l_X11_233 : Cond.methodLink RX11 233 yX9_tell ∈ z_good := zw_410
theorem l_X11_245 : Cond.methodLink RX11 245 yX4_tornBits ∈ z_good := zw_411
theorem l_X11_249 : Cond.methodLink RX11 249 yX4_rootKinds ∈ z_good := zw_412
theorem l_X11_252 : Cond.methodLink RX11 252 yX10_note ∈ z_good := zw_413
theorem l_X11_256 : Cond.methodLink RX11 256 yX4_tryPut ∈ z_good := zw_414
theorem l_X11_260 : Cond.methodLink RX11 260 yX11_keepIfDone ∈ z_good := zw_415
theorem l_X11_263 : Cond.methodLink RX11 263 yX4_tryDrop ∈ z_good := zw_416
theorem l_X11_266 : Cond.methodLink RX11 266 yX11_areTwo ∈ z_good := zw_417
theorem l_X11_269 : Cond.methodLink RX11 269 yX4_tryPull ∈ z_good := zw_418
theorem l_X11_272 : Cond.methodLink RX11 272 yX4_tryCut ∈ z_good := zw_419
theorem l_X11_275 : Cond.methodLink RX11 275 yX4_tryHeal ∈ z_good := zw_420
theorem l_X11_278 : Cond.methodLink RX11 278 yX10_keepNoted ∈ z_good := zw_421
theorem l_X11_284 : Cond.methodLink RX11 284 yX10_takeBack ∈ z_good := zw_422
theorem l_X11_287 : Cond.methodLink RX11 287 yX4_visitedBits ∈ z_good := zw_423
theorem l_X11_290 : Cond.methodLink RX11 290 yJ6_bitCount_0f7a4 ∈ z_good := zw_424
theorem l_X11_295 : Cond.methodLink RX11 295 yX4_differBits ∈ z_good := zw_425
theorem l_X11_298 : Cond.methodLink RX11 298 yX4_findOffers ∈ z_good := zw_426
theorem l_X11_304 : Cond.methodLink RX11 304 arraycopyName ∈ z_good := zw_427
theorem l_X11_310 : Cond.methodLink RX11 310 yX4_copyFrom ∈ z_good := zw_428
theorem l_X11_313 : Cond.methodLink RX11 313 yX9_countMissing ∈ z_good := zw_429
theorem l_X11_317 : Cond.methodLink RX11 317 yX3_areCut ∈ z_good := zw_430
theorem l_X11_320 : Cond.methodLink RX11 320 yX9_depthOf ∈ z_good := zw_431
theorem l_X11_325 : Cond.methodLink RX11 325 yX11_termOf ∈ z_good := zw_432
theorem l_X11_334 : Cond.methodLink RX11 334 yX11_addName ∈ z_good := zw_433
theorem l_X11_340 : Cond.methodLink RX11 340 yX11_addText ∈ z_good := zw_434
theorem l_X11_343 : Cond.methodLink RX11 343 yX11_addNumber ∈ z_good := zw_435
theorem l_X11_348 : Cond.methodLink RX11 348 yX3_firstCut ∈ z_good := zw_436
theorem l_X11_353 : Cond.methodLink RX11 353 yX5_signOf ∈ z_good := zw_437
theorem l_X11_357 : Cond.methodLink RX11 357 yX11_addByte ∈ z_good := zw_438
theorem l_X11_360 : Cond.methodLink RX11 360 yJ0_length_8abf5 ∈ z_good := zw_439
theorem l_X11_365 : Cond.methodLink RX11 365 yJ0_charAt_5068e ∈ z_good := zw_440
theorem l_X11_369 : Cond.methodLink RX11 369 yX5_hasBoth ∈ z_good := zw_441
theorem l_X11_372 : Cond.methodLink RX11 372 yX2_begin ∈ z_good := zw_442
theorem l_X11_375 : Cond.methodLink RX11 375 yX2_runRounds ∈ z_good := zw_443
theorem l_X11_379 : Cond.methodLink RX11 379 yX2_keepRefusals ∈ z_good := zw_444
theorem l_X11_382 : Cond.methodLink RX11 382 yX2_refusedBy ∈ z_good := zw_445
theorem l_X11_385 : Cond.methodLink RX11 385 yX0_read ∈ z_good := zw_446
theorem l_X11_386 : Cond.methodLink RX11 386 yX0_judge ∈ z_good := zw_447
theorem l_X11_393 : Cond.methodLink RX11 393 yX0_tell ∈ z_good := zw_448
theorem l_X11_395 : Cond.methodLink RX11 395 yX7_read ∈ z_good := zw_449
theorem l_X11_398 : Cond.methodLink RX11 398 yX7_copyFrom ∈ z_good := zw_450
theorem l_X11_407 : Cond.methodLink RX11 407 yX7_holdsOf ∈ z_good := zw_451
theorem l_X0_57 : Cond.methodLink RX0 57 yX0_readLine ∈ z_good := zw_452
theorem l_X0_61 : Cond.methodLink RX0 61 yX6_isWhole ∈ z_good := zw_453
theorem l_X0_67 : Cond.methodLink RX0 67 yX6_fail ∈ z_good := zw_454
theorem l_X0_71 : Cond.methodLink RX0 71 yX6_next ∈ z_good := zw_455
theorem l_X0_74 : Cond.methodLink RX0 74 yX6_seePeer ∈ z_good := zw_456
theorem l_X0_78 : Cond.methodLink RX0 78 yX0_readKeyPart ∈ z_good := zw_457
theorem l_X0_81 : Cond.methodLink RX0 81 yX0_readOtherPeer ∈ z_good := zw_458
theorem l_X0_84 : Cond.methodLink RX0 84 yX6_passLineEnd ∈ z_good := zw_459
theorem l_X0_87 : Cond.methodLink RX0 87 yX6_seeKey ∈ z_good := zw_460
theorem l_X0_90 : Cond.methodLink RX0 90 yX6_seeNumber ∈ z_good := zw_461
theorem l_X0_94 : Cond.methodLink RX0 94 yX0_liveLine ∈ z_good := zw_462
theorem l_X0_109 : Cond.methodLink RX0 109 yX4_rootKinds ∈ z_good := zw_463
theorem l_X0_113 : Cond.methodLink RX0 113 yX4_tryPut ∈ z_good := zw_464
theorem l_X0_117 : Cond.methodLink RX0 117 yX0_whyOf ∈ z_good := zw_465
theorem l_X0_120 : Cond.methodLink RX0 120 yX4_tryDrop ∈ z_good := zw_466
theorem l_X0_123 : Cond.methodLink RX0 123 yX4_tryPull ∈ z_good := zw_467
theorem l_X0_126 : Cond.methodLink RX0 126 yX4_tryCut ∈ z_good := zw_468
theorem l_X0_129 : Cond.methodLink RX0 129 yX4_tryHeal ∈ z_good := zw_469
theorem l_X1_31 : Cond.methodLink RX1 31 yX5_clear ∈ z_good := zw_470
theorem l_X1_36 : Cond.methodLink RX1 36 yX3_clear ∈ z_good := zw_471
theorem l_X1_44 : Cond.methodLink RX1 44 yX1_readLine ∈ z_good := zw_472
theorem l_X1_48 : Cond.methodLink RX1 48 yX5_settle ∈ z_good := zw_473
theorem l_X1_51 : Cond.methodLink RX1 51 yX6_isWhole ∈ z_good := zw_474
theorem l_X1_57 : Cond.methodLink RX1 57 yX1_readSetting ∈ z_good := zw_475
theorem l_X1_61 : Cond.methodLink RX1 61 yX6_passLineEnd ∈ z_good := zw_476
theorem l_X1_64 : Cond.methodLink RX1 64 yX1_readKey ∈ z_good := zw_477
theorem l_X1_67 : Cond.methodLink RX1 67 yX1_readPeer ∈ z_good := zw_478
theorem l_X1_70 : Cond.methodLink RX1 70 yX1_readHas ∈ z_good := zw_479
theorem l_X1_73 : Cond.methodLink RX1 73 yX1_readCut ∈ z_good := zw_480
theorem l_X1_76 : Cond.methodLink RX1 76 yX6_fail ∈ z_good := zw_481
theorem l_X1_82 : Cond.methodLink RX1 82 yX6_next ∈ z_good := zw_482
theorem l_X1_85 : Cond.methodLink RX1 85 yX1_readRule ∈ z_good := zw_483
theorem l_X1_88 : Cond.methodLink RX1 88 yX6_seeNumber ∈ z_good := zw_484
theorem l_X1_101 : Cond.methodLink RX1 101 yX1_isNewName ∈ z_good := zw_485
theorem l_X1_118 : Cond.methodLink RX1 118 yX5_isTold ∈ z_good := zw_486
theorem l_X1_122 : Cond.methodLink RX1 122 yX6_seePeer ∈ z_good := zw_487
theorem l_X1_126 : Cond.methodLink RX1 126 yX6_seeKey ∈ z_good := zw_488
theorem l_X1_129 : Cond.methodLink RX1 129 yX3_has ∈ z_good := zw_489
theorem l_X1_133 : Cond.methodLink RX1 133 yX3_write ∈ z_good := zw_490
theorem l_X1_137 : Cond.methodLink RX1 137 yX3_areCut ∈ z_good := zw_491
theorem l_X1_140 : Cond.methodLink RX1 140 yX3_turnLink ∈ z_good := zw_492
theorem l_X2_26 : Cond.methodLink RX2 26 arraycopyName ∈ z_good := zw_493
theorem l_X2_33 : Cond.methodLink RX2 33 yX2_runRound ∈ z_good := zw_494
theorem l_X2_37 : Cond.methodLink RX2 37 yX2_draw ∈ z_good := zw_495
theorem l_X2_55 : Cond.methodLink RX2 55 yX4_tryDrop ∈ z_good := zw_496
theorem l_X2_59 : Cond.methodLink RX2 59 yX4_tryPut ∈ z_good := zw_497
theorem l_X2_63 : Cond.methodLink RX2 63 yX2_countRefusal ∈ z_good := zw_498
theorem l_X2_71 : Cond.methodLink RX2 71 yX3_turnLink ∈ z_good := zw_499
theorem l_X2_77 : Cond.methodLink RX2 77 yX4_tryPull ∈ z_good := zw_500
theorem l_X3_34 : Cond.methodLink RX3 34 arraycopyName ∈ z_good := zw_501
theorem l_X3_40 : Cond.methodLink RX3 40 yX3_has ∈ z_good := zw_502
theorem l_X3_44 : Cond.methodLink RX3 44 yX3_valueOf ∈ z_good := zw_503
theorem l_X3_53 : Cond.methodLink RX3 53 yX3_stampOf ∈ z_good := zw_504
theorem n_X3_56 : (RX3, 56, yX11_mix, RX11) ∈ z_nest := by decide +kernel
theorem l_X3_59 : Cond.methodLink RX3 59 yX3_areCut ∈ z_good := zw_505
theorem l_X4_30 : Cond.methodLink RX4 30 yX3_copyFrom ∈ z_good := zw_506
theorem l_X4_36 : Cond.methodLink RX4 36 yX9_copyFrom ∈ z_good := zw_507
theorem l_X4_39 : Cond.methodLink RX4 39 yX9_grow ∈ z_good := zw_508
theorem l_X4_55 : Cond.methodLink RX4 55 yX3_has ∈ z_good := zw_509
theorem l_X4_62 : Cond.methodLink RX4 62 yX3_isGone ∈ z_good := zw_510
theorem l_X4_65 : Cond.methodLink RX4 65 yX4_rootOf ∈ z_good := zw_511
theorem l_X4_69 : Cond.methodLink RX4 69 yX4_sameRootBits ∈ z_good := zw_512
theorem l_X4_72 : Cond.methodLink RX4 72 yX3_isSame ∈ z_good := zw_513
theorem l_X4_76 : Cond.methodLink RX4 76 yX4_differBits ∈ z_good := zw_514
theorem l_X4_80 : Cond.methodLink RX4 80 yX3_stampOf ∈ z_good := zw_515
theorem l_X4_83 : Cond.methodLink RX4 83 Lib.Math.max.name ∈ z_good := zw_516
theorem l_X4_91 : Cond.methodLink RX4 91 yX9_hasDigest ∈ z_good := zw_517
theorem l_X4_95 : Cond.methodLink RX4 95 yX4_visitedBits ∈ z_good := zw_518
theorem l_X4_107 : Cond.methodLink RX4 107 yX4_winsOver ∈ z_good := zw_519
theorem l_X4_110 : Cond.methodLink RX4 110 yX3_valueOf ∈ z_good := zw_520
theorem l_X4_116 : Cond.methodLink RX4 116 yX3_write ∈ z_good := zw_521
theorem l_X4_120 : Cond.methodLink RX4 120 yX3_areCut ∈ z_good := zw_522
theorem l_X4_123 : Cond.methodLink RX4 123 yX4_findOffers ∈ z_good := zw_523
theorem l_X4_129 : Cond.methodLink RX4 129 Lib.Math.min.name ∈ z_good := zw_524
theorem l_X4_132 : Cond.methodLink RX4 132 yX3_take ∈ z_good := zw_525
theorem l_X4_144 : Cond.methodLink RX4 144 yX3_turnLink ∈ z_good := zw_526
theorem l_X5_47 : Cond.methodLink RX5 47 arraycopyName ∈ z_good := zw_527
theorem l_X5_53 : Cond.methodLink RX5 53 yX5_indexOf ∈ z_good := zw_528
theorem l_X5_57 : Cond.methodLink RX5 57 yX5_digestOf ∈ z_good := zw_529
theorem l_X5_61 : Cond.methodLink RX5 61 yX5_levelOf ∈ z_good := zw_530
theorem l_X5_66 : Cond.methodLink RX5 66 yX5_signOf ∈ z_good := zw_531
theorem n_X5_70 : (RX5, 70, yX11_mix, RX11) ∈ z_nest := by decide +kernel
theorem l_X6_53 : Cond.methodLink RX6 53 yX6_next ∈ z_good := zw_532
theorem l_X6_56 : Cond.methodLink RX6 56 Lib.Math.min.name ∈ z_good := zw_533
theorem l_X6_62 : Cond.methodLink RX6 62 yX6_signAt ∈ z_good := zw_534
theorem l_X6_66 : Cond.methodLink RX6 66 yX6_isLetter ∈ z_good := zw_535
theorem l_X6_70 : Cond.methodLink RX6 70 yX6_isDigit ∈ z_good := zw_536
theorem l_X6_73 : Cond.methodLink RX6 73 yX6_readRun ∈ z_good := zw_537
theorem l_X6_76 : Cond.methodLink RX6 76 yX6_findWord ∈ z_good := zw_538
theorem l_X6_84 : Cond.methodLink RX6 84 yX6_fail ∈ z_good := zw_539
theorem l_X6_87 : Cond.methodLink RX6 87 yX5_peerNamed ∈ z_good := zw_540
theorem l_X6_92 : Cond.methodLink RX6 92 yX6_seen ∈ z_good := zw_541
theorem l_X6_95 : Cond.methodLink RX6 95 yX5_keyNamed ∈ z_good := zw_542
theorem l_X7_22 : Cond.methodLink RX7 22 arraycopyName ∈ z_good := zw_543
theorem l_X7_28 : Cond.methodLink RX7 28 yX7_clear ∈ z_good := zw_544
theorem l_X7_31 : Cond.methodLink RX7 31 yX7_readCond ∈ z_good := zw_545
theorem l_X7_40 : Cond.methodLink RX7 40 yX6_isWhole ∈ z_good := zw_546
theorem l_X7_44 : Cond.methodLink RX7 44 yX6_fail ∈ z_good := zw_547
theorem l_X7_48 : Cond.methodLink RX7 48 yX7_readAll ∈ z_good := zw_548
theorem l_X7_54 : Cond.methodLink RX7 54 yX6_next ∈ z_good := zw_549
theorem l_X7_57 : Cond.methodLink RX7 57 yX7_add ∈ z_good := zw_550
theorem l_X7_61 : Cond.methodLink RX7 61 yX7_readOne ∈ z_good := zw_551
theorem l_X7_67 : Cond.methodLink RX7 67 yX6_passSign ∈ z_good := zw_552
theorem l_X7_70 : Cond.methodLink RX7 70 yX7_readDenied ∈ z_good := zw_553
theorem l_X7_73 : Cond.methodLink RX7 73 yX7_readPlainOne ∈ z_good := zw_554
theorem l_X7_76 : Cond.methodLink RX7 76 yX6_seePeer ∈ z_good := zw_555
theorem l_X7_80 : Cond.methodLink RX7 80 yX6_seeNumber ∈ z_good := zw_556
theorem l_X7_84 : Cond.methodLink RX7 84 yX7_oneHolds ∈ z_good := zw_557
theorem l_X7_88 : Cond.methodLink RX7 88 yX4_tornBits ∈ z_good := zw_558
theorem l_X7_98 : Cond.methodLink RX7 98 yX3_has ∈ z_good := zw_559
theorem l_X7_104 : Cond.methodLink RX7 104 yX3_isGone ∈ z_good := zw_560
theorem l_X7_116 : Cond.methodLink RX7 116 yX7_compares ∈ z_good := zw_561
theorem l_X7_120 : Cond.methodLink RX7 120 yX4_holderBits ∈ z_good := zw_562
theorem l_X7_124 : Cond.methodLink RX7 124 yJ6_bitCount_0f7a4 ∈ z_good := zw_563
theorem l_X7_129 : Cond.methodLink RX7 129 yX4_greatestStamp ∈ z_good := zw_564
theorem l_X8_34 : Cond.methodLink RX8 34 yX5_copyFrom ∈ z_good := zw_565
theorem l_X8_38 : Cond.methodLink RX8 38 yX3_copyFrom ∈ z_good := zw_566
theorem l_X8_41 : Cond.methodLink RX8 41 yX7_copyFrom ∈ z_good := zw_567
theorem l_X9_52 : Cond.methodLink RX9 52 arraycopyName ∈ z_good := zw_568
theorem l_X9_66 : Cond.methodLink RX9 66 yX3_has ∈ z_good := zw_569
theorem l_X9_75 : Cond.methodLink RX9 75 yX3_digestOf ∈ z_good := zw_570
theorem l_X9_79 : Cond.methodLink RX9 79 yX9_growNode ∈ z_good := zw_571
theorem l_X9_83 : Cond.methodLink RX9 83 yX9_topLevel ∈ z_good := zw_572
theorem l_X9_87 : Cond.methodLink RX9 87 yX9_openNode ∈ z_good := zw_573
theorem l_X9_91 : Cond.methodLink RX9 91 yX9_fillNode ∈ z_good := zw_574
theorem n_X9_94 : (RX9, 94, yX11_mix, RX11) ∈ z_nest := by decide +kernel
theorem l_X9_97 : Cond.methodLink RX9 97 yX9_addKey ∈ z_good := zw_575
theorem l_X9_101 : Cond.methodLink RX9 101 yX9_hasDigest ∈ z_good := zw_576
theorem l_X10_25 : Cond.methodLink RX10 25 yX3_copyFrom ∈ z_good := zw_577
theorem l_X10_29 : Cond.methodLink RX10 29 Lib.Math.min.name ∈ z_good := zw_578
theorem l_X12_14 : Cond.methodLink RX12 14 yX12_come ∈ z_good := zw_579
theorem l_X12_33 : Cond.methodLink RX12 33 yX12_isLetter ∈ z_good := zw_580
theorem l_X12_37 : Cond.methodLink RX12 37 yX12_isDigit ∈ z_good := zw_581
theorem l_X12_50 : Cond.methodLink RX12 50 yX12_tapeAt ∈ z_good := zw_582
theorem l_X12_58 : Cond.methodLink RX12 58 yX12_spelt ∈ z_good := zw_583
theorem l_X12_62 : Cond.methodLink RX12 62 yX12_wordOf ∈ z_good := zw_584
theorem l_X12_72 : Cond.methodLink RX12 72 yX12_bad ∈ z_good := zw_585
theorem l_X12_75 : Cond.methodLink RX12 75 yX12_isIn ∈ z_good := zw_586
theorem l_X12_82 : Cond.methodLink RX12 82 yX12_go ∈ z_good := zw_587
theorem l_X12_86 : Cond.methodLink RX12 86 yX12_isSign ∈ z_good := zw_588
theorem l_X12_89 : Cond.methodLink RX12 89 yX12_take ∈ z_good := zw_589
theorem l_X12_199 : Cond.methodLink RX12 199 yX12_layKeys ∈ z_good := zw_590
theorem l_X12_202 : Cond.methodLink RX12 202 yX12_isName ∈ z_good := zw_591
theorem l_X12_206 : Cond.methodLink RX12 206 yX12_findIn ∈ z_good := zw_592
theorem l_X12_210 : Cond.methodLink RX12 210 yX12_isFresh ∈ z_good := zw_593
theorem l_X12_213 : Cond.methodLink RX12 213 yX12_isWord ∈ z_good := zw_594
theorem l_X12_216 : Cond.methodLink RX12 216 yX12_readFirst ∈ z_good := zw_595
theorem l_X12_220 : Cond.methodLink RX12 220 yX12_readNew ∈ z_good := zw_596
theorem l_X12_223 : Cond.methodLink RX12 223 yX12_isHere ∈ z_good := zw_597
theorem l_X12_226 : Cond.methodLink RX12 226 yX12_readNumber ∈ z_good := zw_598
theorem l_X12_229 : Cond.methodLink RX12 229 yX12_noted ∈ z_good := zw_599
theorem l_X12_233 : Cond.methodLink RX12 233 yX12_has ∈ z_good := zw_600
theorem l_X12_236 : Cond.methodLink RX12 236 yX12_readRule ∈ z_good := zw_601
theorem l_X12_239 : Cond.methodLink RX12 239 yX12_readKey ∈ z_good := zw_602
theorem l_X12_242 : Cond.methodLink RX12 242 yX12_readPeer ∈ z_good := zw_603
theorem l_X12_245 : Cond.methodLink RX12 245 yX12_readHas ∈ z_good := zw_604
theorem l_X12_248 : Cond.methodLink RX12 248 yX12_readCut ∈ z_good := zw_605
theorem l_X12_251 : Cond.methodLink RX12 251 yX12_begin ∈ z_good := zw_606
theorem l_X12_254 : Cond.methodLink RX12 254 yX12_readLine ∈ z_good := zw_607
theorem l_X12_257 : Cond.methodLink RX12 257 yX12_readEnd ∈ z_good := zw_608
theorem l_X12_260 : Cond.methodLink RX12 260 yX12_startSo ∈ z_good := zw_609
theorem l_X12_267 : Cond.methodLink RX12 267 yX12_letters ∈ z_good := zw_610
theorem l_X12_272 : Cond.methodLink RX12 272 yX12_long7 ∈ z_good := zw_611
theorem l_X12_278 : Cond.methodLink RX12 278 yX12_mix ∈ z_good := zw_612
theorem l_X12_282 : Cond.methodLink RX12 282 yX12_digestOf ∈ z_good := zw_613
theorem l_X12_285 : Cond.methodLink RX12 285 yX12_zeros ∈ z_good := zw_614
theorem l_X12_288 : Cond.methodLink RX12 288 yX12_isPeer ∈ z_good := zw_615
theorem l_X12_291 : Cond.methodLink RX12 291 yX12_at ∈ z_good := zw_616
theorem l_X12_294 : Cond.methodLink RX12 294 yX12_hasEntry ∈ z_good := zw_617
theorem l_X12_297 : Cond.methodLink RX12 297 yX12_greatest ∈ z_good := zw_618
theorem l_X12_301 : Cond.methodLink RX12 301 yX12_layNodes ∈ z_good := zw_619
theorem l_X12_305 : Cond.methodLink RX12 305 yX12_entryDigest ∈ z_good := zw_620
theorem l_X12_308 : Cond.methodLink RX12 308 yX12_layTree ∈ z_good := zw_621
theorem l_X12_311 : Cond.methodLink RX12 311 yX12_isDigest ∈ z_good := zw_622
theorem l_X12_314 : Cond.methodLink RX12 314 yX12_visited ∈ z_good := zw_623
theorem l_X12_317 : Cond.methodLink RX12 317 yX12_rootOf ∈ z_good := zw_624
theorem l_X12_320 : Cond.methodLink RX12 320 yX12_rootsLike ∈ z_good := zw_625
theorem l_X12_323 : Cond.methodLink RX12 323 yX12_areSame ∈ z_good := zw_626
theorem l_X12_326 : Cond.methodLink RX12 326 yX12_isKey ∈ z_good := zw_627
theorem l_X12_329 : Cond.methodLink RX12 329 yX12_refuse ∈ z_good := zw_628
theorem l_X12_332 : Cond.methodLink RX12 332 yX12_entriesOf ∈ z_good := zw_629
theorem l_X12_335 : Cond.methodLink RX12 335 yX12_goneOf ∈ z_good := zw_630
theorem l_X12_338 : Cond.methodLink RX12 338 yX12_bits ∈ z_good := zw_631
theorem l_X12_341 : Cond.methodLink RX12 341 yX12_isTorn ∈ z_good := zw_632
theorem l_X12_344 : Cond.methodLink RX12 344 yX12_rootMany ∈ z_good := zw_633
theorem l_X12_347 : Cond.methodLink RX12 347 yX12_worthLeast ∈ z_good := zw_634
theorem l_X12_350 : Cond.methodLink RX12 350 yX12_wins ∈ z_good := zw_635
theorem l_X12_354 : Cond.methodLink RX12 354 yX12_visitedOf ∈ z_good := zw_636
theorem l_X12_360 : Cond.methodLink RX12 360 yX12_isOffer ∈ z_good := zw_637
theorem l_X12_363 : Cond.methodLink RX12 363 yX12_areTwo ∈ z_good := zw_638
theorem l_X12_366 : Cond.methodLink RX12 366 yX12_layOffers ∈ z_good := zw_639
theorem l_X12_373 : Cond.methodLink RX12 373 yX12_save ∈ z_good := zw_640
theorem l_X12_377 : Cond.methodLink RX12 377 yX12_areCut ∈ z_good := zw_641
theorem l_X12_380 : Cond.methodLink RX12 380 yX12_whyPull ∈ z_good := zw_642
theorem l_X12_383 : Cond.methodLink RX12 383 yX12_least ∈ z_good := zw_643
theorem l_X12_386 : Cond.methodLink RX12 386 yX12_write ∈ z_good := zw_644
theorem l_X12_390 : Cond.methodLink RX12 390 yX12_comesOver ∈ z_good := zw_645
theorem l_X12_393 : Cond.methodLink RX12 393 yX12_why ∈ z_good := zw_646
theorem l_X12_397 : Cond.methodLink RX12 397 yX12_snap ∈ z_good := zw_647
theorem l_X12_400 : Cond.methodLink RX12 400 yX12_live ∈ z_good := zw_648
theorem l_X12_404 : Cond.methodLink RX12 404 yX12_act ∈ z_good := zw_649
theorem l_X12_408 : Cond.methodLink RX12 408 yX12_comeBack ∈ z_good := zw_650
theorem l_X12_411 : Cond.methodLink RX12 411 yX12_common ∈ z_good := zw_651
theorem l_X12_414 : Cond.methodLink RX12 414 yX12_fraction ∈ z_good := zw_652
theorem l_X12_420 : Cond.methodLink RX12 420 yX12_sayWord ∈ z_good := zw_653
theorem l_X12_424 : Cond.methodLink RX12 424 yX12_say ∈ z_good := zw_654
theorem l_X12_427 : Cond.methodLink RX12 427 yX12_sayNumber ∈ z_good := zw_655
theorem l_X12_430 : Cond.methodLink RX12 430 yX12_sayNext ∈ z_good := zw_656
theorem l_X12_437 : Cond.methodLink RX12 437 yX12_draw ∈ z_good := zw_657
theorem l_X12_440 : Cond.methodLink RX12 440 yX12_doIf ∈ z_good := zw_658
theorem l_X12_443 : Cond.methodLink RX12 443 yX12_drawsRound ∈ z_good := zw_659
theorem l_X12_446 : Cond.methodLink RX12 446 yX12_isBare ∈ z_good := zw_660
theorem l_X12_449 : Cond.methodLink RX12 449 yX12_drawRounds ∈ z_good := zw_661
theorem l_X12_456 : Cond.methodLink RX12 456 yX12_readNamed ∈ z_good := zw_662
theorem l_X12_462 : Cond.methodLink RX12 462 yX12_readPeerName ∈ z_good := zw_663
theorem l_X12_465 : Cond.methodLink RX12 465 yX12_keep ∈ z_good := zw_664
theorem l_X12_468 : Cond.methodLink RX12 468 yX12_readOther ∈ z_good := zw_665
theorem l_X12_471 : Cond.methodLink RX12 471 yX12_readBookLine ∈ z_good := zw_666
theorem l_X12_474 : Cond.methodLink RX12 474 yX12_goBy ∈ z_good := zw_667
theorem l_X12_480 : Cond.methodLink RX12 480 yX12_stay ∈ z_good := zw_668
theorem l_X12_487 : Cond.methodLink RX12 487 yX12_readAnd ∈ z_good := zw_669
theorem l_X12_493 : Cond.methodLink RX12 493 yX12_saysOne ∈ z_good := zw_670
theorem l_X12_496 : Cond.methodLink RX12 496 yX12_readSaid ∈ z_good := zw_671
theorem l_X12_505 : Cond.methodLink RX12 505 yX12_readBracket ∈ z_good := zw_672
theorem l_X12_508 : Cond.methodLink RX12 508 yX12_readNot ∈ z_good := zw_673
theorem l_X12_511 : Cond.methodLink RX12 511 yX12_readOf ∈ z_good := zw_674
theorem l_X12_514 : Cond.methodLink RX12 514 yX12_readCompare ∈ z_good := zw_675
theorem l_X12_517 : Cond.methodLink RX12 517 yX12_readOr ∈ z_good := zw_676
theorem l_X12_520 : Cond.methodLink RX12 520 yX12_holds ∈ z_good := zw_677
theorem l_X12_523 : Cond.methodLink RX12 523 yX12_copiesOf ∈ z_good := zw_678
theorem l_X12_526 : Cond.methodLink RX12 526 yX12_latestOf ∈ z_good := zw_679
theorem zcpw : z_cpw := ⟨z_in 795 (by decide +kernel) (by decide +kernel), z_in 794 (by decide +kernel) (by decide +kernel), z_in 141 (by decide +kernel) (by decide +kernel)⟩
theorem zmw_min : z_mmw Lib.Math.min.name Lib.Math.min.code := ⟨zw_680, zw_681, zw_682⟩
theorem zmw_max : z_mmw Lib.Math.max.name Lib.Math.max.code := ⟨zw_683, zw_681, zw_684⟩
def m_X11_feed : z_MD := (yX11_feed, cX11_feed, 6, some .int)
theorem w_X11_feed : z_mth m_X11_feed 5 := ⟨zw_685, zw_686, by decide +kernel, ⟨by decide +kernel, by decide +kernel, by decide +kernel⟩, by decide +kernel⟩
theorem s_X11_feed : Cond.instanceMethod yX11_feed ∈ z_good ∧ Cond.selects yX11_feed.cls yX11_feed yX11_feed ∈ z_good := ⟨zw_687, zw_688⟩
def m_X11_feedNumber : z_MD := (yX11_feedNumber, cX11_feedNumber, 3, none)
theorem w_X11_feedNumber : z_mth m_X11_feedNumber 1 := ⟨zw_689, zw_686, by decide +kernel, ⟨by decide +kernel, by decide +kernel, by decide +kernel⟩, by decide +kernel⟩
theorem s_X11_feedNumber : Cond.instanceMethod yX11_feedNumber ∈ z_good ∧ Cond.selects yX11_feedNumber.cls yX11_feedNumber yX11_feedNumber ∈ z_good := ⟨zw_690, zw_691⟩
def m_X11_end : z_MD := (yX11_end, cX11_end, 2, some .boolean)
theorem w_X11_end : z_mth m_X11_end 1 := ⟨zw_692, zw_686, by decide +kernel, ⟨by decide +kernel, by decide +kernel, by decide +kernel⟩, by decide +kernel⟩
theorem s_X11_end : Cond.instanceMethod yX11_end ∈ z_good ∧ Cond.selects yX11_end.cls yX11_end yX11_end ∈ z_good := ⟨zw_693, zw_694⟩
def m_X11_cluster : z_MD := (yX11_cluster, cX11_cluster, 2, some .int)
theorem w_X11_cluster : z_mth m_X11_cluster 0 := ⟨zw_695, zw_686, by decide +kernel, ⟨by decide +kernel, by decide +kernel, by decide +kernel⟩, by decide +kernel⟩
theorem s_X11_cluster : Cond.instanceMethod yX11_cluster ∈ z_good ∧ Cond.selects yX11_cluster.cls yX11_cluster yX11_cluster ∈ z_good := ⟨zw_696, zw_697⟩
def m_X6_open : z_MD := (yX6_open, cX6_open, 3, none)
theorem w_X6_open : z_mth m_X6_open 2 := ⟨zw_698, zw_699, by decide +kernel, ⟨by decide +kernel, by decide +kernel, by decide +kernel⟩, by decide +kernel⟩
theorem s_X6_open : Cond.instanceMethod yX6_open ∈ z_good ∧ Cond.selects yX6_open.cls yX6_open yX6_open ∈ z_good := ⟨zw_700, zw_701⟩
def m_X6_next : z_MD := (yX6_next, cX6_next, 4, none)
theorem w_X6_next : z_mth m_X6_next 0 := ⟨zw_702, zw_699, by decide +kernel, ⟨by decide +kernel, by decide +kernel, by decide +kernel⟩, by decide +kernel⟩
theorem s_X6_next : Cond.instanceMethod yX6_next ∈ z_good ∧ Cond.selects yX6_next.cls yX6_next yX6_next ∈ z_good := ⟨zw_703, zw_704⟩
def m_X6_signAt : z_MD := (yX6_signAt, cX6_signAt, 2, some .int)
theorem w_X6_signAt : z_mth m_X6_signAt 1 := ⟨zw_705, zw_699, by decide +kernel, ⟨by decide +kernel, by decide +kernel, by decide +kernel⟩, by decide +kernel⟩
theorem s_X6_signAt : Cond.instanceMethod yX6_signAt ∈ z_good ∧ Cond.selects yX6_signAt.cls yX6_signAt yX6_signAt ∈ z_good := ⟨zw_706, zw_707⟩
def m_X6_isLetter : z_MD := (yX6_isLetter, cX6_isLetter, 1, some .boolean)
theorem w_X6_isLetter : z_mth m_X6_isLetter 1 := ⟨zw_708, zw_699, by decide +kernel, ⟨by decide +kernel, by decide +kernel, by decide +kernel⟩, by decide +kernel⟩
theorem s_X6_isLetter : Cond.static yX6_isLetter ∈ z_good := zw_709
def m_X6_isDigit : z_MD := (yX6_isDigit, cX6_isDigit, 1, some .boolean)
theorem w_X6_isDigit : z_mth m_X6_isDigit 1 := ⟨zw_710, zw_699, by decide +kernel, ⟨by decide +kernel, by decide +kernel, by decide +kernel⟩, by decide +kernel⟩
theorem s_X6_isDigit : Cond.static yX6_isDigit ∈ z_good := zw_711
def m_X6_readRun : z_MD := (yX6_readRun, cX6_readRun, 4, none)
theorem w_X6_readRun : z_mth m_X6_readRun 0 := ⟨zw_712, zw_699, by decide +kernel, ⟨by decide +kernel, by decide +kernel, by decide +kernel⟩, by decide +kernel⟩
theorem s_X6_readRun : Cond.instanceMethod yX6_readRun ∈ z_good ∧ Cond.selects yX6_readRun.cls yX6_readRun yX6_readRun ∈ z_good := ⟨zw_713, zw_714⟩
def m_X6_findWord : z_MD := (yX6_findWord, cX6_findWord, 3, some .int)
theorem w_X6_findWord : z_mth m_X6_findWord 1 := ⟨zw_715, zw_699, by decide +kernel, ⟨by decide +kernel, by decide +kernel, by decide +kernel⟩, by decide +kernel⟩
theorem s_X6_findWord : Cond.static yX6_findWord ∈ z_good := zw_716
def m_X1_read : z_MD := (yX1_read, cX1_read, 2, some .boolean)
theorem w_X1_read : z_mth m_X1_read 0 := ⟨zw_717, zw_718, by decide +kernel, ⟨by decide +kernel, by decide +kernel, by decide +kernel⟩, by decide +kernel⟩
theorem s_X1_read : Cond.instanceMethod yX1_read ∈ z_good ∧ Cond.selects yX1_read.cls yX1_read yX1_read ∈ z_good := ⟨zw_719, zw_720⟩
def m_X5_clear : z_MD := (yX5_clear, cX5_clear, 1, none)
theorem w_X5_clear : z_mth m_X5_clear 0 := ⟨zw_721, zw_722, by decide +kernel, ⟨by decide +kernel, by decide +kernel, by decide +kernel⟩, by decide +kernel⟩
theorem s_X5_clear : Cond.instanceMethod yX5_clear ∈ z_good ∧ Cond.selects yX5_clear.cls yX5_clear yX5_clear ∈ z_good := ⟨zw_723, zw_724⟩
def m_X3_clear : z_MD := (yX3_clear, cX3_clear, 2, none)
theorem w_X3_clear : z_mth m_X3_clear 0 := ⟨zw_725, zw_726, by decide +kernel, ⟨by decide +kernel, by decide +kernel, by decide +kernel⟩, by decide +kernel⟩
theorem s_X3_clear : Cond.instanceMethod yX3_clear ∈ z_good ∧ Cond.selects yX3_clear.cls yX3_clear yX3_clear ∈ z_good := ⟨zw_727, zw_728⟩
def m_X1_readLine : z_MD := (yX1_readLine, cX1_readLine, 1, some .boolean)
theorem w_X1_readLine : z_mth m_X1_readLine 0 := ⟨zw_729, zw_718, by decide +kernel, ⟨by decide +kernel, by decide +kernel, by decide +kernel⟩, by decide +kernel⟩
theorem s_X1_readLine : Cond.instanceMethod yX1_readLine ∈ z_good ∧ Cond.selects yX1_readLine.cls yX1_readLine yX1_readLine ∈ z_good := ⟨zw_730, zw_731⟩
def m_X1_readSetting : z_MD := (yX1_readSetting, cX1_readSetting, 3, some .boolean)
theorem w_X1_readSetting : z_mth m_X1_readSetting 1 := ⟨zw_732, zw_718, by decide +kernel, ⟨by decide +kernel, by decide +kernel, by decide +kernel⟩, by decide +kernel⟩
theorem s_X1_readSetting : Cond.instanceMethod yX1_readSetting ∈ z_good ∧ Cond.selects yX1_readSetting.cls yX1_readSetting yX1_readSetting ∈ z_good := ⟨zw_733, zw_734⟩
def m_X6_fail : z_MD := (yX6_fail, cX6_fail, 2, some .boolean)
theorem w_X6_fail : z_mth m_X6_fail 1 := ⟨zw_735, zw_699, by decide +kernel, ⟨by decide +kernel, by decide +kernel, by decide +kernel⟩, by decide +kernel⟩
theorem s_X6_fail : Cond.instanceMethod yX6_fail ∈ z_good ∧ Cond.selects yX6_fail.cls yX6_fail yX6_fail ∈ z_good := ⟨zw_736, zw_737⟩
def m_X1_readRule : z_MD := (yX1_readRule, cX1_readRule, 1, some .boolean)
theorem w_X1_readRule : z_mth m_X1_readRule 0 := ⟨zw_738, zw_718, by decide +kernel, ⟨by decide +kernel, by decide +kernel, by decide +kernel⟩, by decide +kernel⟩
theorem s_X1_readRule : Cond.instanceMethod yX1_readRule ∈ z_good ∧ Cond.selects yX1_readRule.cls yX1_readRule yX1_readRule ∈ z_good := ⟨zw_739, zw_740⟩
def m_X6_seeNumber : z_MD := (yX6_seeNumber, cX6_seeNumber, 3, some .int)
theorem w_X6_seeNumber : z_mth m_X6_seeNumber 2 := ⟨zw_741, zw_699, by decide +kernel, ⟨by decide +kernel, by decide +kernel, by decide +kernel⟩, by decide +kernel⟩
theorem s_X6_seeNumber : Cond.instanceMethod yX6_seeNumber ∈ z_good ∧ Cond.selects yX6_seeNumber.cls yX6_seeNumber yX6_seeNumber ∈ z_good := ⟨zw_742, zw_743⟩
def m_X6_passLineEnd : z_MD := (yX6_passLineEnd, cX6_passLineEnd, 1, some .boolean)
theorem w_X6_passLineEnd : z_mth m_X6_passLineEnd 0 := ⟨zw_744, zw_699, by decide +kernel, ⟨by decide +kernel, by decide +kernel, by decide +kernel⟩, by decide +kernel⟩
theorem s_X6_passLineEnd : Cond.instanceMethod yX6_passLineEnd ∈ z_good ∧ Cond.selects yX6_passLineEnd.cls yX6_passLineEnd yX6_passLineEnd ∈ z_good := ⟨zw_745, zw_746⟩
def m_X1_readKey : z_MD := (yX1_readKey, cX1_readKey, 1, some .boolean)
theorem w_X1_readKey : z_mth m_X1_readKey 0 := ⟨zw_747, zw_718, by decide +kernel, ⟨by decide +kernel, by decide +kernel, by decide +kernel⟩, by decide +kernel⟩
theorem s_X1_readKey : Cond.instanceMethod yX1_readKey ∈ z_good ∧ Cond.selects yX1_readKey.cls yX1_readKey yX1_readKey ∈ z_good := ⟨zw_748, zw_749⟩
def m_X1_isNewName : z_MD := (yX1_isNewName, cX1_isNewName, 1, some .boolean)
theorem w_X1_isNewName : z_mth m_X1_isNewName 0 := ⟨zw_750, zw_718, by decide +kernel, ⟨by decide +kernel, by decide +kernel, by decide +kernel⟩, by decide +kernel⟩
theorem s_X1_isNewName : Cond.instanceMethod yX1_isNewName ∈ z_good ∧ Cond.selects yX1_isNewName.cls yX1_isNewName yX1_isNewName ∈ z_good := ⟨zw_751, zw_752⟩
def m_X5_isTold : z_MD := (yX5_isTold, cX5_isTold, 3, some .boolean)
theorem w_X5_isTold : z_mth m_X5_isTold 1 := ⟨zw_753, zw_722, by decide +kernel, ⟨by decide +kernel, by decide +kernel, by decide +kernel⟩, by decide +kernel⟩
theorem s_X5_isTold : Cond.instanceMethod yX5_isTold ∈ z_good ∧ Cond.selects yX5_isTold.cls yX5_isTold yX5_isTold ∈ z_good := ⟨zw_754, zw_755⟩
def m_X5_indexOf : z_MD := (yX5_indexOf, cX5_indexOf, 5, some .int)
theorem w_X5_indexOf : z_mth m_X5_indexOf 3 := ⟨zw_756, zw_722, by decide +kernel, ⟨by decide +kernel, by decide +kernel, by decide +kernel⟩, by decide +kernel⟩
theorem s_X5_indexOf : Cond.static yX5_indexOf ∈ z_good := zw_757
def m_X1_readPeer : z_MD := (yX1_readPeer, cX1_readPeer, 1, some .boolean)
theorem w_X1_readPeer : z_mth m_X1_readPeer 0 := ⟨zw_758, zw_718, by decide +kernel, ⟨by decide +kernel, by decide +kernel, by decide +kernel⟩, by decide +kernel⟩
theorem s_X1_readPeer : Cond.instanceMethod yX1_readPeer ∈ z_good ∧ Cond.selects yX1_readPeer.cls yX1_readPeer yX1_readPeer ∈ z_good := ⟨zw_759, zw_760⟩
def m_X1_readHas : z_MD := (yX1_readHas, cX1_readHas, 4, some .boolean)
theorem w_X1_readHas : z_mth m_X1_readHas 0 := ⟨zw_761, zw_718, by decide +kernel, ⟨by decide +kernel, by decide +kernel, by decide +kernel⟩, by decide +kernel⟩
theorem s_X1_readHas : Cond.instanceMethod yX1_readHas ∈ z_good ∧ Cond.selects yX1_readHas.cls yX1_readHas yX1_readHas ∈ z_good := ⟨zw_762, zw_763⟩
def m_X6_seePeer : z_MD := (yX6_seePeer, cX6_seePeer, 2, some .int)
theorem w_X6_seePeer : z_mth m_X6_seePeer 1 := ⟨zw_764, zw_699, by decide +kernel, ⟨by decide +kernel, by decide +kernel, by decide +kernel⟩, by decide +kernel⟩
theorem s_X6_seePeer : Cond.instanceMethod yX6_seePeer ∈ z_good ∧ Cond.selects yX6_seePeer.cls yX6_seePeer yX6_seePeer ∈ z_good := ⟨zw_765, zw_766⟩
def m_X5_peerNamed : z_MD := (yX5_peerNamed, cX5_peerNamed, 3, some .int)
theorem w_X5_peerNamed : z_mth m_X5_peerNamed 1 := ⟨zw_767, zw_722, by decide +kernel, ⟨by decide +kernel, by decide +kernel, by decide +kernel⟩, by decide +kernel⟩
theorem s_X5_peerNamed : Cond.instanceMethod yX5_peerNamed ∈ z_good ∧ Cond.selects yX5_peerNamed.cls yX5_peerNamed yX5_peerNamed ∈ z_good := ⟨zw_768, zw_769⟩
def m_X6_seen : z_MD := (yX6_seen, cX6_seen, 2, some .int)
theorem w_X6_seen : z_mth m_X6_seen 1 := ⟨zw_770, zw_699, by decide +kernel, ⟨by decide +kernel, by decide +kernel, by decide +kernel⟩, by decide +kernel⟩
theorem s_X6_seen : Cond.instanceMethod yX6_seen ∈ z_good ∧ Cond.selects yX6_seen.cls yX6_seen yX6_seen ∈ z_good := ⟨zw_771, zw_772⟩
def m_X6_seeKey : z_MD := (yX6_seeKey, cX6_seeKey, 2, some .int)
theorem w_X6_seeKey : z_mth m_X6_seeKey 1 := ⟨zw_773, zw_699, by decide +kernel, ⟨by decide +kernel, by decide +kernel, by decide +kernel⟩, by decide +kernel⟩
theorem s_X6_seeKey : Cond.instanceMethod yX6_seeKey ∈ z_good ∧ Cond.selects yX6_seeKey.cls yX6_seeKey yX6_seeKey ∈ z_good := ⟨zw_774, zw_775⟩
def m_X5_keyNamed : z_MD := (yX5_keyNamed, cX5_keyNamed, 3, some .int)
theorem w_X5_keyNamed : z_mth m_X5_keyNamed 1 := ⟨zw_776, zw_722, by decide +kernel, ⟨by decide +kernel, by decide +kernel, by decide +kernel⟩, by decide +kernel⟩
theorem s_X5_keyNamed : Cond.instanceMethod yX5_keyNamed ∈ z_good ∧ Cond.selects yX5_keyNamed.cls yX5_keyNamed yX5_keyNamed ∈ z_good := ⟨zw_777, zw_778⟩
def m_X3_has : z_MD := (yX3_has, cX3_has, 3, some .boolean)
theorem w_X3_has : z_mth m_X3_has 2 := ⟨zw_779, zw_726, by decide +kernel, ⟨by decide +kernel, by decide +kernel, by decide +kernel⟩, by decide +kernel⟩
theorem s_X3_has : Cond.instanceMethod yX3_has ∈ z_good ∧ Cond.selects yX3_has.cls yX3_has yX3_has ∈ z_good := ⟨zw_780, zw_781⟩
def m_X3_write : z_MD := (yX3_write, cX3_write, 4, none)
theorem w_X3_write : z_mth m_X3_write 3 := ⟨zw_782, zw_726, by decide +kernel, ⟨by decide +kernel, by decide +kernel, by decide +kernel⟩, by decide +kernel⟩
theorem s_X3_write : Cond.instanceMethod yX3_write ∈ z_good ∧ Cond.selects yX3_write.cls yX3_write yX3_write ∈ z_good := ⟨zw_783, zw_784⟩
def m_X1_readCut : z_MD := (yX1_readCut, cX1_readCut, 3, some .boolean)
theorem w_X1_readCut : z_mth m_X1_readCut 0 := ⟨zw_785, zw_718, by decide +kernel, ⟨by decide +kernel, by decide +kernel, by decide +kernel⟩, by decide +kernel⟩
theorem s_X1_readCut : Cond.instanceMethod yX1_readCut ∈ z_good ∧ Cond.selects yX1_readCut.cls yX1_readCut yX1_readCut ∈ z_good := ⟨zw_786, zw_787⟩
def m_X3_areCut : z_MD := (yX3_areCut, cX3_areCut, 3, some .boolean)
theorem w_X3_areCut : z_mth m_X3_areCut 2 := ⟨zw_788, zw_726, by decide +kernel, ⟨by decide +kernel, by decide +kernel, by decide +kernel⟩, by decide +kernel⟩
theorem s_X3_areCut : Cond.instanceMethod yX3_areCut ∈ z_good ∧ Cond.selects yX3_areCut.cls yX3_areCut yX3_areCut ∈ z_good := ⟨zw_789, zw_790⟩
def m_X3_turnLink : z_MD := (yX3_turnLink, cX3_turnLink, 3, none)
theorem w_X3_turnLink : z_mth m_X3_turnLink 2 := ⟨zw_791, zw_726, by decide +kernel, ⟨by decide +kernel, by decide +kernel, by decide +kernel⟩, by decide +kernel⟩
theorem s_X3_turnLink : Cond.instanceMethod yX3_turnLink ∈ z_good ∧ Cond.selects yX3_turnLink.cls yX3_turnLink yX3_turnLink ∈ z_good := ⟨zw_792, zw_793⟩
def m_X5_settle : z_MD := (yX5_settle, cX5_settle, 4, none)
theorem w_X5_settle : z_mth m_X5_settle 0 := ⟨zw_794, zw_722, by decide +kernel, ⟨by decide +kernel, by decide +kernel, by decide +kernel⟩, by decide +kernel⟩
theorem s_X5_settle : Cond.instanceMethod yX5_settle ∈ z_good ∧ Cond.selects yX5_settle.cls yX5_settle yX5_settle ∈ z_good := ⟨zw_795, zw_796⟩
def m_X5_digestOf : z_MD := (yX5_digestOf, cX5_digestOf, 5, some .int)
theorem w_X5_digestOf : z_mth m_X5_digestOf 1 := ⟨zw_797, zw_722, by decide +kernel, ⟨by decide +kernel, by decide +kernel, by decide +kernel⟩, by decide +kernel⟩
theorem s_X5_digestOf : Cond.static yX5_digestOf ∈ z_good := zw_798
def m_X5_signOf : z_MD := (yX5_signOf, cX5_signOf, 3, some .int)
theorem w_X5_signOf : z_mth m_X5_signOf 2 := ⟨zw_799, zw_722, by decide +kernel, ⟨by decide +kernel, by decide +kernel, by decide +kernel⟩, by decide +kernel⟩
theorem s_X5_signOf : Cond.static yX5_signOf ∈ z_good := zw_800
def m_X11_mix : z_MD := (yX11_mix, cX11_mix, 3, some .int)
theorem w_X11_mix : z_mth m_X11_mix 2 := ⟨zw_801, zw_686, by decide +kernel, ⟨by decide +kernel, by decide +kernel, by decide +kernel⟩, by decide +kernel⟩
theorem s_X11_mix : Cond.static yX11_mix ∈ z_good := zw_802
def m_X5_levelOf : z_MD := (yX5_levelOf, cX5_levelOf, 3, some .int)
theorem w_X5_levelOf : z_mth m_X5_levelOf 1 := ⟨zw_803, zw_722, by decide +kernel, ⟨by decide +kernel, by decide +kernel, by decide +kernel⟩, by decide +kernel⟩
theorem s_X5_levelOf : Cond.instanceMethod yX5_levelOf ∈ z_good ∧ Cond.selects yX5_levelOf.cls yX5_levelOf yX5_levelOf ∈ z_good := ⟨zw_804, zw_805⟩
def m_X6_isWhole : z_MD := (yX6_isWhole, cX6_isWhole, 1, some .boolean)
theorem w_X6_isWhole : z_mth m_X6_isWhole 0 := ⟨zw_806, zw_699, by decide +kernel, ⟨by decide +kernel, by decide +kernel, by decide +kernel⟩, by decide +kernel⟩
theorem s_X6_isWhole : Cond.instanceMethod yX6_isWhole ∈ z_good ∧ Cond.selects yX6_isWhole.cls yX6_isWhole yX6_isWhole ∈ z_good := ⟨zw_807, zw_808⟩
def m_X11_closeText : z_MD := (yX11_closeText, cX11_closeText, 2, none)
theorem w_X11_closeText : z_mth m_X11_closeText 1 := ⟨zw_809, zw_686, by decide +kernel, ⟨by decide +kernel, by decide +kernel, by decide +kernel⟩, by decide +kernel⟩
theorem s_X11_closeText : Cond.instanceMethod yX11_closeText ∈ z_good ∧ Cond.selects yX11_closeText.cls yX11_closeText yX11_closeText ∈ z_good := ⟨zw_810, zw_811⟩
def m_X7_clear : z_MD := (yX7_clear, cX7_clear, 1, none)
theorem w_X7_clear : z_mth m_X7_clear 0 := ⟨zw_812, zw_813, by decide +kernel, ⟨by decide +kernel, by decide +kernel, by decide +kernel⟩, by decide +kernel⟩
theorem s_X7_clear : Cond.instanceMethod yX7_clear ∈ z_good ∧ Cond.selects yX7_clear.cls yX7_clear yX7_clear ∈ z_good := ⟨zw_814, zw_815⟩
def m_X8_copyFrom : z_MD := (yX8_copyFrom, cX8_copyFrom, 2, none)
theorem w_X8_copyFrom : z_mth m_X8_copyFrom 1 := ⟨zw_816, zw_817, by decide +kernel, ⟨by decide +kernel, by decide +kernel, by decide +kernel⟩, by decide +kernel⟩
theorem s_X8_copyFrom : Cond.instanceMethod yX8_copyFrom ∈ z_good ∧ Cond.selects yX8_copyFrom.cls yX8_copyFrom yX8_copyFrom ∈ z_good := ⟨zw_818, zw_819⟩
def m_X5_copyFrom : z_MD := (yX5_copyFrom, cX5_copyFrom, 2, none)
theorem w_X5_copyFrom : z_mth m_X5_copyFrom 1 := ⟨zw_820, zw_722, by decide +kernel, ⟨by decide +kernel, by decide +kernel, by decide +kernel⟩, by decide +kernel⟩
theorem s_X5_copyFrom : Cond.instanceMethod yX5_copyFrom ∈ z_good ∧ Cond.selects yX5_copyFrom.cls yX5_copyFrom yX5_copyFrom ∈ z_good := ⟨zw_821, zw_822⟩
def m_X3_copyFrom : z_MD := (yX3_copyFrom, cX3_copyFrom, 2, none)
theorem w_X3_copyFrom : z_mth m_X3_copyFrom 1 := ⟨zw_823, zw_726, by decide +kernel, ⟨by decide +kernel, by decide +kernel, by decide +kernel⟩, by decide +kernel⟩
theorem s_X3_copyFrom : Cond.instanceMethod yX3_copyFrom ∈ z_good ∧ Cond.selects yX3_copyFrom.cls yX3_copyFrom yX3_copyFrom ∈ z_good := ⟨zw_824, zw_825⟩
def m_X7_copyFrom : z_MD := (yX7_copyFrom, cX7_copyFrom, 2, none)
theorem w_X7_copyFrom : z_mth m_X7_copyFrom 1 := ⟨zw_826, zw_813, by decide +kernel, ⟨by decide +kernel, by decide +kernel, by decide +kernel⟩, by decide +kernel⟩
theorem s_X7_copyFrom : Cond.instanceMethod yX7_copyFrom ∈ z_good ∧ Cond.selects yX7_copyFrom.cls yX7_copyFrom yX7_copyFrom ∈ z_good := ⟨zw_827, zw_828⟩
def m_X4_growTrees : z_MD := (yX4_growTrees, cX4_growTrees, 2, none)
theorem w_X4_growTrees : z_mth m_X4_growTrees 0 := ⟨zw_829, zw_830, by decide +kernel, ⟨by decide +kernel, by decide +kernel, by decide +kernel⟩, by decide +kernel⟩
theorem s_X4_growTrees : Cond.instanceMethod yX4_growTrees ∈ z_good ∧ Cond.selects yX4_growTrees.cls yX4_growTrees yX4_growTrees ∈ z_good := ⟨zw_831, zw_832⟩
def m_X9_grow : z_MD := (yX9_grow, cX9_grow, 6, none)
theorem w_X9_grow : z_mth m_X9_grow 3 := ⟨zw_833, zw_834, by decide +kernel, ⟨by decide +kernel, by decide +kernel, by decide +kernel⟩, by decide +kernel⟩
theorem s_X9_grow : Cond.instanceMethod yX9_grow ∈ z_good ∧ Cond.selects yX9_grow.cls yX9_grow yX9_grow ∈ z_good := ⟨zw_835, zw_836⟩
def m_X3_digestOf : z_MD := (yX3_digestOf, cX3_digestOf, 4, some .int)
theorem w_X3_digestOf : z_mth m_X3_digestOf 3 := ⟨zw_837, zw_726, by decide +kernel, ⟨by decide +kernel, by decide +kernel, by decide +kernel⟩, by decide +kernel⟩
theorem s_X3_digestOf : Cond.instanceMethod yX3_digestOf ∈ z_good ∧ Cond.selects yX3_digestOf.cls yX3_digestOf yX3_digestOf ∈ z_good := ⟨zw_838, zw_839⟩
def m_X3_stampOf : z_MD := (yX3_stampOf, cX3_stampOf, 3, some .int)
theorem w_X3_stampOf : z_mth m_X3_stampOf 2 := ⟨zw_840, zw_726, by decide +kernel, ⟨by decide +kernel, by decide +kernel, by decide +kernel⟩, by decide +kernel⟩
theorem s_X3_stampOf : Cond.instanceMethod yX3_stampOf ∈ z_good ∧ Cond.selects yX3_stampOf.cls yX3_stampOf yX3_stampOf ∈ z_good := ⟨zw_841, zw_842⟩
def m_X3_valueOf : z_MD := (yX3_valueOf, cX3_valueOf, 3, some .int)
theorem w_X3_valueOf : z_mth m_X3_valueOf 2 := ⟨zw_843, zw_726, by decide +kernel, ⟨by decide +kernel, by decide +kernel, by decide +kernel⟩, by decide +kernel⟩
theorem s_X3_valueOf : Cond.instanceMethod yX3_valueOf ∈ z_good ∧ Cond.selects yX3_valueOf.cls yX3_valueOf yX3_valueOf ∈ z_good := ⟨zw_844, zw_845⟩
def m_X9_growNode : z_MD := (yX9_growNode, cX9_growNode, 6, some .int)
theorem w_X9_growNode : z_mth m_X9_growNode 4 := ⟨zw_846, zw_834, by decide +kernel, ⟨by decide +kernel, by decide +kernel, by decide +kernel⟩, by decide +kernel⟩
theorem s_X9_growNode : Cond.instanceMethod yX9_growNode ∈ z_good ∧ Cond.selects yX9_growNode.cls yX9_growNode yX9_growNode ∈ z_good := ⟨zw_847, zw_848⟩
def m_X9_topLevel : z_MD := (yX9_topLevel, cX9_topLevel, 5, some .int)
theorem w_X9_topLevel : z_mth m_X9_topLevel 2 := ⟨zw_849, zw_834, by decide +kernel, ⟨by decide +kernel, by decide +kernel, by decide +kernel⟩, by decide +kernel⟩
theorem s_X9_topLevel : Cond.instanceMethod yX9_topLevel ∈ z_good ∧ Cond.selects yX9_topLevel.cls yX9_topLevel yX9_topLevel ∈ z_good := ⟨zw_850, zw_851⟩
def m_X9_openNode : z_MD := (yX9_openNode, cX9_openNode, 4, none)
theorem w_X9_openNode : z_mth m_X9_openNode 3 := ⟨zw_852, zw_834, by decide +kernel, ⟨by decide +kernel, by decide +kernel, by decide +kernel⟩, by decide +kernel⟩
theorem s_X9_openNode : Cond.instanceMethod yX9_openNode ∈ z_good ∧ Cond.selects yX9_openNode.cls yX9_openNode yX9_openNode ∈ z_good := ⟨zw_853, zw_854⟩
def m_X9_fillNode : z_MD := (yX9_fillNode, cX9_fillNode, 8, some .int)
theorem w_X9_fillNode : z_mth m_X9_fillNode 4 := ⟨zw_855, zw_834, by decide +kernel, ⟨by decide +kernel, by decide +kernel, by decide +kernel⟩, by decide +kernel⟩
theorem s_X9_fillNode : Cond.instanceMethod yX9_fillNode ∈ z_good ∧ Cond.selects yX9_fillNode.cls yX9_fillNode yX9_fillNode ∈ z_good := ⟨zw_856, zw_857⟩
def m_X9_addKey : z_MD := (yX9_addKey, cX9_addKey, 3, none)
theorem w_X9_addKey : z_mth m_X9_addKey 2 := ⟨zw_858, zw_834, by decide +kernel, ⟨by decide +kernel, by decide +kernel, by decide +kernel⟩, by decide +kernel⟩
theorem s_X9_addKey : Cond.instanceMethod yX9_addKey ∈ z_good ∧ Cond.selects yX9_addKey.cls yX9_addKey yX9_addKey ∈ z_good := ⟨zw_859, zw_860⟩
def m_X10_clear : z_MD := (yX10_clear, cX10_clear, 1, none)
theorem w_X10_clear : z_mth m_X10_clear 0 := ⟨zw_861, zw_862, by decide +kernel, ⟨by decide +kernel, by decide +kernel, by decide +kernel⟩, by decide +kernel⟩
theorem s_X10_clear : Cond.instanceMethod yX10_clear ∈ z_good ∧ Cond.selects yX10_clear.cls yX10_clear yX10_clear ∈ z_good := ⟨zw_863, zw_864⟩
def m_X11_fault : z_MD := (yX11_fault, cX11_fault, 1, some .int)
theorem w_X11_fault : z_mth m_X11_fault 0 := ⟨zw_865, zw_686, by decide +kernel, ⟨by decide +kernel, by decide +kernel, by decide +kernel⟩, by decide +kernel⟩
theorem s_X11_fault : Cond.instanceMethod yX11_fault ∈ z_good ∧ Cond.selects yX11_fault.cls yX11_fault yX11_fault ∈ z_good := ⟨zw_866, zw_867⟩
def m_X11_faultLine : z_MD := (yX11_faultLine, cX11_faultLine, 1, some .int)
theorem w_X11_faultLine : z_mth m_X11_faultLine 0 := ⟨zw_868, zw_686, by decide +kernel, ⟨by decide +kernel, by decide +kernel, by decide +kernel⟩, by decide +kernel⟩
theorem s_X11_faultLine : Cond.instanceMethod yX11_faultLine ∈ z_good ∧ Cond.selects yX11_faultLine.cls yX11_faultLine yX11_faultLine ∈ z_good := ⟨zw_869, zw_870⟩
def m_X11_key : z_MD := (yX11_key, cX11_key, 3, some .int)
theorem w_X11_key : z_mth m_X11_key 2 := ⟨zw_871, zw_686, by decide +kernel, ⟨by decide +kernel, by decide +kernel, by decide +kernel⟩, by decide +kernel⟩
theorem s_X11_key : Cond.instanceMethod yX11_key ∈ z_good ∧ Cond.selects yX11_key.cls yX11_key yX11_key ∈ z_good := ⟨zw_872, zw_873⟩
def m_X11_isKey : z_MD := (yX11_isKey, cX11_isKey, 2, some .boolean)
theorem w_X11_isKey : z_mth m_X11_isKey 1 := ⟨zw_874, zw_686, by decide +kernel, ⟨by decide +kernel, by decide +kernel, by decide +kernel⟩, by decide +kernel⟩
theorem s_X11_isKey : Cond.instanceMethod yX11_isKey ∈ z_good ∧ Cond.selects yX11_isKey.cls yX11_isKey yX11_isKey ∈ z_good := ⟨zw_875, zw_876⟩
def m_X4_holderBits : z_MD := (yX4_holderBits, cX4_holderBits, 4, some .int)
theorem w_X4_holderBits : z_mth m_X4_holderBits 1 := ⟨zw_877, zw_830, by decide +kernel, ⟨by decide +kernel, by decide +kernel, by decide +kernel⟩, by decide +kernel⟩
theorem s_X4_holderBits : Cond.instanceMethod yX4_holderBits ∈ z_good ∧ Cond.selects yX4_holderBits.cls yX4_holderBits yX4_holderBits ∈ z_good := ⟨zw_878, zw_879⟩
def m_X11_peer : z_MD := (yX11_peer, cX11_peer, 3, some .int)
theorem w_X11_peer : z_mth m_X11_peer 2 := ⟨zw_880, zw_686, by decide +kernel, ⟨by decide +kernel, by decide +kernel, by decide +kernel⟩, by decide +kernel⟩
theorem s_X11_peer : Cond.instanceMethod yX11_peer ∈ z_good ∧ Cond.selects yX11_peer.cls yX11_peer yX11_peer ∈ z_good := ⟨zw_881, zw_882⟩
def m_X11_isPeer : z_MD := (yX11_isPeer, cX11_isPeer, 2, some .boolean)
theorem w_X11_isPeer : z_mth m_X11_isPeer 1 := ⟨zw_883, zw_686, by decide +kernel, ⟨by decide +kernel, by decide +kernel, by decide +kernel⟩, by decide +kernel⟩
theorem s_X11_isPeer : Cond.instanceMethod yX11_isPeer ∈ z_good ∧ Cond.selects yX11_isPeer.cls yX11_isPeer yX11_isPeer ∈ z_good := ⟨zw_884, zw_885⟩
def m_X4_goneCount : z_MD := (yX4_goneCount, cX4_goneCount, 4, some .int)
theorem w_X4_goneCount : z_mth m_X4_goneCount 1 := ⟨zw_886, zw_830, by decide +kernel, ⟨by decide +kernel, by decide +kernel, by decide +kernel⟩, by decide +kernel⟩
theorem s_X4_goneCount : Cond.instanceMethod yX4_goneCount ∈ z_good ∧ Cond.selects yX4_goneCount.cls yX4_goneCount yX4_goneCount ∈ z_good := ⟨zw_887, zw_888⟩
def m_X3_isGone : z_MD := (yX3_isGone, cX3_isGone, 3, some .boolean)
theorem w_X3_isGone : z_mth m_X3_isGone 2 := ⟨zw_889, zw_726, by decide +kernel, ⟨by decide +kernel, by decide +kernel, by decide +kernel⟩, by decide +kernel⟩
theorem s_X3_isGone : Cond.instanceMethod yX3_isGone ∈ z_good ∧ Cond.selects yX3_isGone.cls yX3_isGone yX3_isGone ∈ z_good := ⟨zw_890, zw_891⟩
def m_X4_sameRootBits : z_MD := (yX4_sameRootBits, cX4_sameRootBits, 4, some .int)
theorem w_X4_sameRootBits : z_mth m_X4_sameRootBits 1 := ⟨zw_892, zw_830, by decide +kernel, ⟨by decide +kernel, by decide +kernel, by decide +kernel⟩, by decide +kernel⟩
theorem s_X4_sameRootBits : Cond.instanceMethod yX4_sameRootBits ∈ z_good ∧ Cond.selects yX4_sameRootBits.cls yX4_sameRootBits yX4_sameRootBits ∈ z_good := ⟨zw_893, zw_894⟩
def m_X4_rootOf : z_MD := (yX4_rootOf, cX4_rootOf, 2, some .int)
theorem w_X4_rootOf : z_mth m_X4_rootOf 1 := ⟨zw_895, zw_830, by decide +kernel, ⟨by decide +kernel, by decide +kernel, by decide +kernel⟩, by decide +kernel⟩
theorem s_X4_rootOf : Cond.instanceMethod yX4_rootOf ∈ z_good ∧ Cond.selects yX4_rootOf.cls yX4_rootOf yX4_rootOf ∈ z_good := ⟨zw_896, zw_897⟩
def m_X11_now : z_MD := (yX11_now, cX11_now, 2, some .int)
theorem w_X11_now : z_mth m_X11_now 1 := ⟨zw_898, zw_686, by decide +kernel, ⟨by decide +kernel, by decide +kernel, by decide +kernel⟩, by decide +kernel⟩
theorem s_X11_now : Cond.instanceMethod yX11_now ∈ z_good ∧ Cond.selects yX11_now.cls yX11_now yX11_now ∈ z_good := ⟨zw_899, zw_900⟩
def m_X4_tornBits : z_MD := (yX4_tornBits, cX4_tornBits, 3, some .int)
theorem w_X4_tornBits : z_mth m_X4_tornBits 0 := ⟨zw_901, zw_830, by decide +kernel, ⟨by decide +kernel, by decide +kernel, by decide +kernel⟩, by decide +kernel⟩
theorem s_X4_tornBits : Cond.instanceMethod yX4_tornBits ∈ z_good ∧ Cond.selects yX4_tornBits.cls yX4_tornBits yX4_tornBits ∈ z_good := ⟨zw_902, zw_903⟩
def m_X4_differBits : z_MD := (yX4_differBits, cX4_differBits, 5, some .int)
theorem w_X4_differBits : z_mth m_X4_differBits 2 := ⟨zw_904, zw_830, by decide +kernel, ⟨by decide +kernel, by decide +kernel, by decide +kernel⟩, by decide +kernel⟩
theorem s_X4_differBits : Cond.instanceMethod yX4_differBits ∈ z_good ∧ Cond.selects yX4_differBits.cls yX4_differBits yX4_differBits ∈ z_good := ⟨zw_905, zw_906⟩
def m_X3_isSame : z_MD := (yX3_isSame, cX3_isSame, 4, some .boolean)
theorem w_X3_isSame : z_mth m_X3_isSame 3 := ⟨zw_907, zw_726, by decide +kernel, ⟨by decide +kernel, by decide +kernel, by decide +kernel⟩, by decide +kernel⟩
theorem s_X3_isSame : Cond.instanceMethod yX3_isSame ∈ z_good ∧ Cond.selects yX3_isSame.cls yX3_isSame yX3_isSame ∈ z_good := ⟨zw_908, zw_909⟩
def m_X4_rootKinds : z_MD := (yX4_rootKinds, cX4_rootKinds, 3, some .int)
theorem w_X4_rootKinds : z_mth m_X4_rootKinds 0 := ⟨zw_910, zw_830, by decide +kernel, ⟨by decide +kernel, by decide +kernel, by decide +kernel⟩, by decide +kernel⟩
theorem s_X4_rootKinds : Cond.instanceMethod yX4_rootKinds ∈ z_good ∧ Cond.selects yX4_rootKinds.cls yX4_rootKinds yX4_rootKinds ∈ z_good := ⟨zw_911, zw_912⟩
def m_X11_put : z_MD := (yX11_put, cX11_put, 4, some .int)
theorem w_X11_put : z_mth m_X11_put 3 := ⟨zw_913, zw_686, by decide +kernel, ⟨by decide +kernel, by decide +kernel, by decide +kernel⟩, by decide +kernel⟩
theorem s_X11_put : Cond.instanceMethod yX11_put ∈ z_good ∧ Cond.selects yX11_put.cls yX11_put yX11_put ∈ z_good := ⟨zw_914, zw_915⟩
def m_X10_note : z_MD := (yX10_note, cX10_note, 2, none)
theorem w_X10_note : z_mth m_X10_note 1 := ⟨zw_916, zw_862, by decide +kernel, ⟨by decide +kernel, by decide +kernel, by decide +kernel⟩, by decide +kernel⟩
theorem s_X10_note : Cond.instanceMethod yX10_note ∈ z_good ∧ Cond.selects yX10_note.cls yX10_note yX10_note ∈ z_good := ⟨zw_917, zw_918⟩
def m_X4_tryPut : z_MD := (yX4_tryPut, cX4_tryPut, 4, some .int)
theorem w_X4_tryPut : z_mth m_X4_tryPut 3 := ⟨zw_919, zw_830, by decide +kernel, ⟨by decide +kernel, by decide +kernel, by decide +kernel⟩, by decide +kernel⟩
theorem s_X4_tryPut : Cond.instanceMethod yX4_tryPut ∈ z_good ∧ Cond.selects yX4_tryPut.cls yX4_tryPut yX4_tryPut ∈ z_good := ⟨zw_920, zw_921⟩
def m_X11_keepIfDone : z_MD := (yX11_keepIfDone, cX11_keepIfDone, 2, some .int)
theorem w_X11_keepIfDone : z_mth m_X11_keepIfDone 1 := ⟨zw_922, zw_686, by decide +kernel, ⟨by decide +kernel, by decide +kernel, by decide +kernel⟩, by decide +kernel⟩
theorem s_X11_keepIfDone : Cond.instanceMethod yX11_keepIfDone ∈ z_good ∧ Cond.selects yX11_keepIfDone.cls yX11_keepIfDone yX11_keepIfDone ∈ z_good := ⟨zw_923, zw_924⟩
def m_X10_keepNoted : z_MD := (yX10_keepNoted, cX10_keepNoted, 1, none)
theorem w_X10_keepNoted : z_mth m_X10_keepNoted 0 := ⟨zw_925, zw_862, by decide +kernel, ⟨by decide +kernel, by decide +kernel, by decide +kernel⟩, by decide +kernel⟩
theorem s_X10_keepNoted : Cond.instanceMethod yX10_keepNoted ∈ z_good ∧ Cond.selects yX10_keepNoted.cls yX10_keepNoted yX10_keepNoted ∈ z_good := ⟨zw_926, zw_927⟩
def m_X11_drop : z_MD := (yX11_drop, cX11_drop, 3, some .int)
theorem w_X11_drop : z_mth m_X11_drop 2 := ⟨zw_928, zw_686, by decide +kernel, ⟨by decide +kernel, by decide +kernel, by decide +kernel⟩, by decide +kernel⟩
theorem s_X11_drop : Cond.instanceMethod yX11_drop ∈ z_good ∧ Cond.selects yX11_drop.cls yX11_drop yX11_drop ∈ z_good := ⟨zw_929, zw_930⟩
def m_X4_tryDrop : z_MD := (yX4_tryDrop, cX4_tryDrop, 3, some .int)
theorem w_X4_tryDrop : z_mth m_X4_tryDrop 2 := ⟨zw_931, zw_830, by decide +kernel, ⟨by decide +kernel, by decide +kernel, by decide +kernel⟩, by decide +kernel⟩
theorem s_X4_tryDrop : Cond.instanceMethod yX4_tryDrop ∈ z_good ∧ Cond.selects yX4_tryDrop.cls yX4_tryDrop yX4_tryDrop ∈ z_good := ⟨zw_932, zw_933⟩
def m_X11_pull : z_MD := (yX11_pull, cX11_pull, 3, some .int)
theorem w_X11_pull : z_mth m_X11_pull 2 := ⟨zw_934, zw_686, by decide +kernel, ⟨by decide +kernel, by decide +kernel, by decide +kernel⟩, by decide +kernel⟩
theorem s_X11_pull : Cond.instanceMethod yX11_pull ∈ z_good ∧ Cond.selects yX11_pull.cls yX11_pull yX11_pull ∈ z_good := ⟨zw_935, zw_936⟩
def m_X11_areTwo : z_MD := (yX11_areTwo, cX11_areTwo, 3, some .boolean)
theorem w_X11_areTwo : z_mth m_X11_areTwo 2 := ⟨zw_937, zw_686, by decide +kernel, ⟨by decide +kernel, by decide +kernel, by decide +kernel⟩, by decide +kernel⟩
theorem s_X11_areTwo : Cond.instanceMethod yX11_areTwo ∈ z_good ∧ Cond.selects yX11_areTwo.cls yX11_areTwo yX11_areTwo ∈ z_good := ⟨zw_938, zw_939⟩
def m_X4_tryPull : z_MD := (yX4_tryPull, cX4_tryPull, 5, some .int)
theorem w_X4_tryPull : z_mth m_X4_tryPull 2 := ⟨zw_940, zw_830, by decide +kernel, ⟨by decide +kernel, by decide +kernel, by decide +kernel⟩, by decide +kernel⟩
theorem s_X4_tryPull : Cond.instanceMethod yX4_tryPull ∈ z_good ∧ Cond.selects yX4_tryPull.cls yX4_tryPull yX4_tryPull ∈ z_good := ⟨zw_941, zw_942⟩
def m_X4_findOffers : z_MD := (yX4_findOffers, cX4_findOffers, 9, some .int)
theorem w_X4_findOffers : z_mth m_X4_findOffers 2 := ⟨zw_943, zw_830, by decide +kernel, ⟨by decide +kernel, by decide +kernel, by decide +kernel⟩, by decide +kernel⟩
theorem s_X4_findOffers : Cond.instanceMethod yX4_findOffers ∈ z_good ∧ Cond.selects yX4_findOffers.cls yX4_findOffers yX4_findOffers ∈ z_good := ⟨zw_944, zw_945⟩
def m_X4_visitedBits : z_MD := (yX4_visitedBits, cX4_visitedBits, 9, some .int)
theorem w_X4_visitedBits : z_mth m_X4_visitedBits 2 := ⟨zw_946, zw_830, by decide +kernel, ⟨by decide +kernel, by decide +kernel, by decide +kernel⟩, by decide +kernel⟩
theorem s_X4_visitedBits : Cond.instanceMethod yX4_visitedBits ∈ z_good ∧ Cond.selects yX4_visitedBits.cls yX4_visitedBits yX4_visitedBits ∈ z_good := ⟨zw_947, zw_948⟩
def m_X9_hasDigest : z_MD := (yX9_hasDigest, cX9_hasDigest, 3, some .boolean)
theorem w_X9_hasDigest : z_mth m_X9_hasDigest 1 := ⟨zw_949, zw_834, by decide +kernel, ⟨by decide +kernel, by decide +kernel, by decide +kernel⟩, by decide +kernel⟩
theorem s_X9_hasDigest : Cond.instanceMethod yX9_hasDigest ∈ z_good ∧ Cond.selects yX9_hasDigest.cls yX9_hasDigest yX9_hasDigest ∈ z_good := ⟨zw_950, zw_951⟩
def m_X4_winsOver : z_MD := (yX4_winsOver, cX4_winsOver, 8, some .boolean)
theorem w_X4_winsOver : z_mth m_X4_winsOver 3 := ⟨zw_952, zw_830, by decide +kernel, ⟨by decide +kernel, by decide +kernel, by decide +kernel⟩, by decide +kernel⟩
theorem s_X4_winsOver : Cond.instanceMethod yX4_winsOver ∈ z_good ∧ Cond.selects yX4_winsOver.cls yX4_winsOver yX4_winsOver ∈ z_good := ⟨zw_953, zw_954⟩
def m_X3_take : z_MD := (yX3_take, cX3_take, 4, none)
theorem w_X3_take : z_mth m_X3_take 3 := ⟨zw_955, zw_726, by decide +kernel, ⟨by decide +kernel, by decide +kernel, by decide +kernel⟩, by decide +kernel⟩
theorem s_X3_take : Cond.instanceMethod yX3_take ∈ z_good ∧ Cond.selects yX3_take.cls yX3_take yX3_take ∈ z_good := ⟨zw_956, zw_957⟩
def m_X11_cut : z_MD := (yX11_cut, cX11_cut, 3, some .int)
theorem w_X11_cut : z_mth m_X11_cut 2 := ⟨zw_958, zw_686, by decide +kernel, ⟨by decide +kernel, by decide +kernel, by decide +kernel⟩, by decide +kernel⟩
theorem s_X11_cut : Cond.instanceMethod yX11_cut ∈ z_good ∧ Cond.selects yX11_cut.cls yX11_cut yX11_cut ∈ z_good := ⟨zw_959, zw_960⟩
def m_X4_tryCut : z_MD := (yX4_tryCut, cX4_tryCut, 3, some .int)
theorem w_X4_tryCut : z_mth m_X4_tryCut 2 := ⟨zw_961, zw_830, by decide +kernel, ⟨by decide +kernel, by decide +kernel, by decide +kernel⟩, by decide +kernel⟩
theorem s_X4_tryCut : Cond.instanceMethod yX4_tryCut ∈ z_good ∧ Cond.selects yX4_tryCut.cls yX4_tryCut yX4_tryCut ∈ z_good := ⟨zw_962, zw_963⟩
def m_X11_heal : z_MD := (yX11_heal, cX11_heal, 3, some .int)
theorem w_X11_heal : z_mth m_X11_heal 2 := ⟨zw_964, zw_686, by decide +kernel, ⟨by decide +kernel, by decide +kernel, by decide +kernel⟩, by decide +kernel⟩
theorem s_X11_heal : Cond.instanceMethod yX11_heal ∈ z_good ∧ Cond.selects yX11_heal.cls yX11_heal yX11_heal ∈ z_good := ⟨zw_965, zw_966⟩
def m_X4_tryHeal : z_MD := (yX4_tryHeal, cX4_tryHeal, 3, some .int)
theorem w_X4_tryHeal : z_mth m_X4_tryHeal 2 := ⟨zw_967, zw_830, by decide +kernel, ⟨by decide +kernel, by decide +kernel, by decide +kernel⟩, by decide +kernel⟩
theorem s_X4_tryHeal : Cond.instanceMethod yX4_tryHeal ∈ z_good ∧ Cond.selects yX4_tryHeal.cls yX4_tryHeal yX4_tryHeal ∈ z_good := ⟨zw_968, zw_969⟩
def m_X11_undo : z_MD := (yX11_undo, cX11_undo, 1, some .int)
theorem w_X11_undo : z_mth m_X11_undo 0 := ⟨zw_970, zw_686, by decide +kernel, ⟨by decide +kernel, by decide +kernel, by decide +kernel⟩, by decide +kernel⟩
theorem s_X11_undo : Cond.instanceMethod yX11_undo ∈ z_good ∧ Cond.selects yX11_undo.cls yX11_undo yX11_undo ∈ z_good := ⟨zw_971, zw_972⟩
def m_X10_takeBack : z_MD := (yX10_takeBack, cX10_takeBack, 2, none)
theorem w_X10_takeBack : z_mth m_X10_takeBack 1 := ⟨zw_973, zw_862, by decide +kernel, ⟨by decide +kernel, by decide +kernel, by decide +kernel⟩, by decide +kernel⟩
theorem s_X10_takeBack : Cond.instanceMethod yX10_takeBack ∈ z_good ∧ Cond.selects yX10_takeBack.cls yX10_takeBack yX10_takeBack ∈ z_good := ⟨zw_974, zw_975⟩
def m_X11_visits : z_MD := (yX11_visits, cX11_visits, 3, some .int)
theorem w_X11_visits : z_mth m_X11_visits 2 := ⟨zw_976, zw_686, by decide +kernel, ⟨by decide +kernel, by decide +kernel, by decide +kernel⟩, by decide +kernel⟩
theorem s_X11_visits : Cond.instanceMethod yX11_visits ∈ z_good ∧ Cond.selects yX11_visits.cls yX11_visits yX11_visits ∈ z_good := ⟨zw_977, zw_978⟩
def m_J6_bitCount_0f7a4 : z_MD := (yJ6_bitCount_0f7a4, cJ6_bitCount_0f7a4, 1, some .int)
theorem w_J6_bitCount_0f7a4 : z_mth m_J6_bitCount_0f7a4 1 := ⟨zw_979, zw_980, by decide +kernel, ⟨by decide +kernel, by decide +kernel, by decide +kernel⟩, by decide +kernel⟩
theorem s_J6_bitCount_0f7a4 : Cond.static yJ6_bitCount_0f7a4 ∈ z_good := zw_981
def m_X11_differs : z_MD := (yX11_differs, cX11_differs, 3, some .int)
theorem w_X11_differs : z_mth m_X11_differs 2 := ⟨zw_982, zw_686, by decide +kernel, ⟨by decide +kernel, by decide +kernel, by decide +kernel⟩, by decide +kernel⟩
theorem s_X11_differs : Cond.instanceMethod yX11_differs ∈ z_good ∧ Cond.selects yX11_differs.cls yX11_differs yX11_differs ∈ z_good := ⟨zw_983, zw_984⟩
def m_X11_offers : z_MD := (yX11_offers, cX11_offers, 3, some .int)
theorem w_X11_offers : z_mth m_X11_offers 2 := ⟨zw_985, zw_686, by decide +kernel, ⟨by decide +kernel, by decide +kernel, by decide +kernel⟩, by decide +kernel⟩
theorem s_X11_offers : Cond.instanceMethod yX11_offers ∈ z_good ∧ Cond.selects yX11_offers.cls yX11_offers yX11_offers ∈ z_good := ⟨zw_986, zw_987⟩
def m_X11_offerAt : z_MD := (yX11_offerAt, cX11_offerAt, 2, some .int)
theorem w_X11_offerAt : z_mth m_X11_offerAt 1 := ⟨zw_988, zw_686, by decide +kernel, ⟨by decide +kernel, by decide +kernel, by decide +kernel⟩, by decide +kernel⟩
theorem s_X11_offerAt : Cond.instanceMethod yX11_offerAt ∈ z_good ∧ Cond.selects yX11_offerAt.cls yX11_offerAt yX11_offerAt ∈ z_good := ⟨zw_989, zw_990⟩
def m_X11_fresh : z_MD := (yX11_fresh, cX11_fresh, 4, some .int)
theorem w_X11_fresh : z_mth m_X11_fresh 3 := ⟨zw_991, zw_686, by decide +kernel, ⟨by decide +kernel, by decide +kernel, by decide +kernel⟩, by decide +kernel⟩
theorem s_X11_fresh : Cond.instanceMethod yX11_fresh ∈ z_good ∧ Cond.selects yX11_fresh.cls yX11_fresh yX11_fresh ∈ z_good := ⟨zw_992, zw_993⟩
def m_X4_copyFrom : z_MD := (yX4_copyFrom, cX4_copyFrom, 3, none)
theorem w_X4_copyFrom : z_mth m_X4_copyFrom 1 := ⟨zw_994, zw_830, by decide +kernel, ⟨by decide +kernel, by decide +kernel, by decide +kernel⟩, by decide +kernel⟩
theorem s_X4_copyFrom : Cond.instanceMethod yX4_copyFrom ∈ z_good ∧ Cond.selects yX4_copyFrom.cls yX4_copyFrom yX4_copyFrom ∈ z_good := ⟨zw_995, zw_996⟩
def m_X9_copyFrom : z_MD := (yX9_copyFrom, cX9_copyFrom, 2, none)
theorem w_X9_copyFrom : z_mth m_X9_copyFrom 1 := ⟨zw_997, zw_834, by decide +kernel, ⟨by decide +kernel, by decide +kernel, by decide +kernel⟩, by decide +kernel⟩
theorem s_X9_copyFrom : Cond.instanceMethod yX9_copyFrom ∈ z_good ∧ Cond.selects yX9_copyFrom.cls yX9_copyFrom yX9_copyFrom ∈ z_good := ⟨zw_998, zw_999⟩
def m_X9_countMissing : z_MD := (yX9_countMissing, cX9_countMissing, 4, some .int)
theorem w_X9_countMissing : z_mth m_X9_countMissing 1 := ⟨zw_1000, zw_834, by decide +kernel, ⟨by decide +kernel, by decide +kernel, by decide +kernel⟩, by decide +kernel⟩
theorem s_X9_countMissing : Cond.instanceMethod yX9_countMissing ∈ z_good ∧ Cond.selects yX9_countMissing.cls yX9_countMissing yX9_countMissing ∈ z_good := ⟨zw_1001, zw_1002⟩
def m_X11_pulls : z_MD := (yX11_pulls, cX11_pulls, 4, some .int)
theorem w_X11_pulls : z_mth m_X11_pulls 2 := ⟨zw_1003, zw_686, by decide +kernel, ⟨by decide +kernel, by decide +kernel, by decide +kernel⟩, by decide +kernel⟩
theorem s_X11_pulls : Cond.instanceMethod yX11_pulls ∈ z_good ∧ Cond.selects yX11_pulls.cls yX11_pulls yX11_pulls ∈ z_good := ⟨zw_1004, zw_1005⟩
def m_X11_path : z_MD := (yX11_path, cX11_path, 3, some .int)
theorem w_X11_path : z_mth m_X11_path 2 := ⟨zw_1006, zw_686, by decide +kernel, ⟨by decide +kernel, by decide +kernel, by decide +kernel⟩, by decide +kernel⟩
theorem s_X11_path : Cond.instanceMethod yX11_path ∈ z_good ∧ Cond.selects yX11_path.cls yX11_path yX11_path ∈ z_good := ⟨zw_1007, zw_1008⟩
def m_X9_depthOf : z_MD := (yX9_depthOf, cX9_depthOf, 4, some .int)
theorem w_X9_depthOf : z_mth m_X9_depthOf 1 := ⟨zw_1009, zw_834, by decide +kernel, ⟨by decide +kernel, by decide +kernel, by decide +kernel⟩, by decide +kernel⟩
theorem s_X9_depthOf : Cond.instanceMethod yX9_depthOf ∈ z_good ∧ Cond.selects yX9_depthOf.cls yX9_depthOf yX9_depthOf ∈ z_good := ⟨zw_1010, zw_1011⟩
def m_X11_tag : z_MD := (yX11_tag, cX11_tag, 3, some .int)
theorem w_X11_tag : z_mth m_X11_tag 1 := ⟨zw_1012, zw_686, by decide +kernel, ⟨by decide +kernel, by decide +kernel, by decide +kernel⟩, by decide +kernel⟩
theorem s_X11_tag : Cond.instanceMethod yX11_tag ∈ z_good ∧ Cond.selects yX11_tag.cls yX11_tag yX11_tag ∈ z_good := ⟨zw_1013, zw_1014⟩
def m_X11_addName : z_MD := (yX11_addName, cX11_addName, 5, none)
theorem w_X11_addName : z_mth m_X11_addName 1 := ⟨zw_1015, zw_686, by decide +kernel, ⟨by decide +kernel, by decide +kernel, by decide +kernel⟩, by decide +kernel⟩
theorem s_X11_addName : Cond.instanceMethod yX11_addName ∈ z_good ∧ Cond.selects yX11_addName.cls yX11_addName yX11_addName ∈ z_good := ⟨zw_1016, zw_1017⟩
def m_X11_addByte : z_MD := (yX11_addByte, cX11_addByte, 2, none)
theorem w_X11_addByte : z_mth m_X11_addByte 1 := ⟨zw_1018, zw_686, by decide +kernel, ⟨by decide +kernel, by decide +kernel, by decide +kernel⟩, by decide +kernel⟩
theorem s_X11_addByte : Cond.instanceMethod yX11_addByte ∈ z_good ∧ Cond.selects yX11_addByte.cls yX11_addByte yX11_addByte ∈ z_good := ⟨zw_1019, zw_1020⟩
def m_X11_addText : z_MD := (yX11_addText, cX11_addText, 3, none)
theorem w_X11_addText : z_mth m_X11_addText 1 := ⟨zw_1021, zw_686, by decide +kernel, ⟨by decide +kernel, by decide +kernel, by decide +kernel⟩, by decide +kernel⟩
theorem s_X11_addText : Cond.instanceMethod yX11_addText ∈ z_good ∧ Cond.selects yX11_addText.cls yX11_addText yX11_addText ∈ z_good := ⟨zw_1022, zw_1023⟩
def m_X11_addNumber : z_MD := (yX11_addNumber, cX11_addNumber, 2, none)
theorem w_X11_addNumber : z_mth m_X11_addNumber 1 := ⟨zw_1024, zw_686, by decide +kernel, ⟨by decide +kernel, by decide +kernel, by decide +kernel⟩, by decide +kernel⟩
theorem s_X11_addNumber : Cond.instanceMethod yX11_addNumber ∈ z_good ∧ Cond.selects yX11_addNumber.cls yX11_addNumber yX11_addNumber ∈ z_good := ⟨zw_1025, zw_1026⟩
def m_X3_firstCut : z_MD := (yX3_firstCut, cX3_firstCut, 3, some .int)
theorem w_X3_firstCut : z_mth m_X3_firstCut 1 := ⟨zw_1027, zw_726, by decide +kernel, ⟨by decide +kernel, by decide +kernel, by decide +kernel⟩, by decide +kernel⟩
theorem s_X3_firstCut : Cond.instanceMethod yX3_firstCut ∈ z_good ∧ Cond.selects yX3_firstCut.cls yX3_firstCut yX3_firstCut ∈ z_good := ⟨zw_1028, zw_1029⟩
def m_X11_byteAt : z_MD := (yX11_byteAt, cX11_byteAt, 2, some .int)
theorem w_X11_byteAt : z_mth m_X11_byteAt 1 := ⟨zw_1030, zw_686, by decide +kernel, ⟨by decide +kernel, by decide +kernel, by decide +kernel⟩, by decide +kernel⟩
theorem s_X11_byteAt : Cond.instanceMethod yX11_byteAt ∈ z_good ∧ Cond.selects yX11_byteAt.cls yX11_byteAt yX11_byteAt ∈ z_good := ⟨zw_1031, zw_1032⟩
def m_X11_drawn : z_MD := (yX11_drawn, cX11_drawn, 3, some .int)
theorem w_X11_drawn : z_mth m_X11_drawn 2 := ⟨zw_1033, zw_686, by decide +kernel, ⟨by decide +kernel, by decide +kernel, by decide +kernel⟩, by decide +kernel⟩
theorem s_X11_drawn : Cond.instanceMethod yX11_drawn ∈ z_good ∧ Cond.selects yX11_drawn.cls yX11_drawn yX11_drawn ∈ z_good := ⟨zw_1034, zw_1035⟩
def m_X5_hasBoth : z_MD := (yX5_hasBoth, cX5_hasBoth, 1, some .boolean)
theorem w_X5_hasBoth : z_mth m_X5_hasBoth 0 := ⟨zw_1036, zw_722, by decide +kernel, ⟨by decide +kernel, by decide +kernel, by decide +kernel⟩, by decide +kernel⟩
theorem s_X5_hasBoth : Cond.instanceMethod yX5_hasBoth ∈ z_good ∧ Cond.selects yX5_hasBoth.cls yX5_hasBoth yX5_hasBoth ∈ z_good := ⟨zw_1037, zw_1038⟩
def m_X2_begin : z_MD := (yX2_begin, cX2_begin, 3, none)
theorem w_X2_begin : z_mth m_X2_begin 1 := ⟨zw_1039, zw_1040, by decide +kernel, ⟨by decide +kernel, by decide +kernel, by decide +kernel⟩, by decide +kernel⟩
theorem s_X2_begin : Cond.instanceMethod yX2_begin ∈ z_good ∧ Cond.selects yX2_begin.cls yX2_begin yX2_begin ∈ z_good := ⟨zw_1041, zw_1042⟩
def m_X2_runRounds : z_MD := (yX2_runRounds, cX2_runRounds, 4, none)
theorem w_X2_runRounds : z_mth m_X2_runRounds 2 := ⟨zw_1043, zw_1040, by decide +kernel, ⟨by decide +kernel, by decide +kernel, by decide +kernel⟩, by decide +kernel⟩
theorem s_X2_runRounds : Cond.instanceMethod yX2_runRounds ∈ z_good ∧ Cond.selects yX2_runRounds.cls yX2_runRounds yX2_runRounds ∈ z_good := ⟨zw_1044, zw_1045⟩
def m_X2_runRound : z_MD := (yX2_runRound, cX2_runRound, 5, none)
theorem w_X2_runRound : z_mth m_X2_runRound 1 := ⟨zw_1046, zw_1040, by decide +kernel, ⟨by decide +kernel, by decide +kernel, by decide +kernel⟩, by decide +kernel⟩
theorem s_X2_runRound : Cond.instanceMethod yX2_runRound ∈ z_good ∧ Cond.selects yX2_runRound.cls yX2_runRound yX2_runRound ∈ z_good := ⟨zw_1047, zw_1048⟩
def m_X2_draw : z_MD := (yX2_draw, cX2_draw, 2, some .int)
theorem w_X2_draw : z_mth m_X2_draw 1 := ⟨zw_1049, zw_1040, by decide +kernel, ⟨by decide +kernel, by decide +kernel, by decide +kernel⟩, by decide +kernel⟩
theorem s_X2_draw : Cond.instanceMethod yX2_draw ∈ z_good ∧ Cond.selects yX2_draw.cls yX2_draw yX2_draw ∈ z_good := ⟨zw_1050, zw_1051⟩
def m_X2_countRefusal : z_MD := (yX2_countRefusal, cX2_countRefusal, 2, none)
theorem w_X2_countRefusal : z_mth m_X2_countRefusal 1 := ⟨zw_1052, zw_1040, by decide +kernel, ⟨by decide +kernel, by decide +kernel, by decide +kernel⟩, by decide +kernel⟩
theorem s_X2_countRefusal : Cond.instanceMethod yX2_countRefusal ∈ z_good ∧ Cond.selects yX2_countRefusal.cls yX2_countRefusal yX2_countRefusal ∈ z_good := ⟨zw_1053, zw_1054⟩
def m_X2_keepRefusals : z_MD := (yX2_keepRefusals, cX2_keepRefusals, 1, none)
theorem w_X2_keepRefusals : z_mth m_X2_keepRefusals 0 := ⟨zw_1055, zw_1040, by decide +kernel, ⟨by decide +kernel, by decide +kernel, by decide +kernel⟩, by decide +kernel⟩
theorem s_X2_keepRefusals : Cond.instanceMethod yX2_keepRefusals ∈ z_good ∧ Cond.selects yX2_keepRefusals.cls yX2_keepRefusals yX2_keepRefusals ∈ z_good := ⟨zw_1056, zw_1057⟩
def m_X11_refused : z_MD := (yX11_refused, cX11_refused, 2, some .int)
theorem w_X11_refused : z_mth m_X11_refused 1 := ⟨zw_1058, zw_686, by decide +kernel, ⟨by decide +kernel, by decide +kernel, by decide +kernel⟩, by decide +kernel⟩
theorem s_X11_refused : Cond.instanceMethod yX11_refused ∈ z_good ∧ Cond.selects yX11_refused.cls yX11_refused yX11_refused ∈ z_good := ⟨zw_1059, zw_1060⟩
def m_X2_refusedBy : z_MD := (yX2_refusedBy, cX2_refusedBy, 2, some .int)
theorem w_X2_refusedBy : z_mth m_X2_refusedBy 1 := ⟨zw_1061, zw_1040, by decide +kernel, ⟨by decide +kernel, by decide +kernel, by decide +kernel⟩, by decide +kernel⟩
theorem s_X2_refusedBy : Cond.instanceMethod yX2_refusedBy ∈ z_good ∧ Cond.selects yX2_refusedBy.cls yX2_refusedBy yX2_refusedBy ∈ z_good := ⟨zw_1062, zw_1063⟩
def m_X11_odds : z_MD := (yX11_odds, cX11_odds, 5, some .int)
theorem w_X11_odds : z_mth m_X11_odds 2 := ⟨zw_1064, zw_686, by decide +kernel, ⟨by decide +kernel, by decide +kernel, by decide +kernel⟩, by decide +kernel⟩
theorem s_X11_odds : Cond.instanceMethod yX11_odds ∈ z_good ∧ Cond.selects yX11_odds.cls yX11_odds yX11_odds ∈ z_good := ⟨zw_1065, zw_1066⟩
def m_X11_book : z_MD := (yX11_book, cX11_book, 4, some .int)
theorem w_X11_book : z_mth m_X11_book 1 := ⟨zw_1067, zw_686, by decide +kernel, ⟨by decide +kernel, by decide +kernel, by decide +kernel⟩, by decide +kernel⟩
theorem s_X11_book : Cond.instanceMethod yX11_book ∈ z_good ∧ Cond.selects yX11_book.cls yX11_book yX11_book ∈ z_good := ⟨zw_1068, zw_1069⟩
def m_X0_read : z_MD := (yX0_read, cX0_read, 2, some .boolean)
theorem w_X0_read : z_mth m_X0_read 0 := ⟨zw_1070, zw_1071, by decide +kernel, ⟨by decide +kernel, by decide +kernel, by decide +kernel⟩, by decide +kernel⟩
theorem s_X0_read : Cond.instanceMethod yX0_read ∈ z_good ∧ Cond.selects yX0_read.cls yX0_read yX0_read ∈ z_good := ⟨zw_1072, zw_1073⟩
def m_X0_readLine : z_MD := (yX0_readLine, cX0_readLine, 4, some .boolean)
theorem w_X0_readLine : z_mth m_X0_readLine 0 := ⟨zw_1074, zw_1071, by decide +kernel, ⟨by decide +kernel, by decide +kernel, by decide +kernel⟩, by decide +kernel⟩
theorem s_X0_readLine : Cond.instanceMethod yX0_readLine ∈ z_good ∧ Cond.selects yX0_readLine.cls yX0_readLine yX0_readLine ∈ z_good := ⟨zw_1075, zw_1076⟩
def m_X0_readKeyPart : z_MD := (yX0_readKeyPart, cX0_readKeyPart, 4, some .boolean)
theorem w_X0_readKeyPart : z_mth m_X0_readKeyPart 1 := ⟨zw_1077, zw_1071, by decide +kernel, ⟨by decide +kernel, by decide +kernel, by decide +kernel⟩, by decide +kernel⟩
theorem s_X0_readKeyPart : Cond.instanceMethod yX0_readKeyPart ∈ z_good ∧ Cond.selects yX0_readKeyPart.cls yX0_readKeyPart yX0_readKeyPart ∈ z_good := ⟨zw_1078, zw_1079⟩
def m_X0_readOtherPeer : z_MD := (yX0_readOtherPeer, cX0_readOtherPeer, 3, some .boolean)
theorem w_X0_readOtherPeer : z_mth m_X0_readOtherPeer 1 := ⟨zw_1080, zw_1071, by decide +kernel, ⟨by decide +kernel, by decide +kernel, by decide +kernel⟩, by decide +kernel⟩
theorem s_X0_readOtherPeer : Cond.instanceMethod yX0_readOtherPeer ∈ z_good ∧ Cond.selects yX0_readOtherPeer.cls yX0_readOtherPeer yX0_readOtherPeer ∈ z_good := ⟨zw_1081, zw_1082⟩
def m_X0_judge : z_MD := (yX0_judge, cX0_judge, 3, some .int)
theorem w_X0_judge : z_mth m_X0_judge 1 := ⟨zw_1083, zw_1071, by decide +kernel, ⟨by decide +kernel, by decide +kernel, by decide +kernel⟩, by decide +kernel⟩
theorem s_X0_judge : Cond.instanceMethod yX0_judge ∈ z_good ∧ Cond.selects yX0_judge.cls yX0_judge yX0_judge ∈ z_good := ⟨zw_1084, zw_1085⟩
def m_X0_liveLine : z_MD := (yX0_liveLine, cX0_liveLine, 5, some .int)
theorem w_X0_liveLine : z_mth m_X0_liveLine 2 := ⟨zw_1086, zw_1071, by decide +kernel, ⟨by decide +kernel, by decide +kernel, by decide +kernel⟩, by decide +kernel⟩
theorem s_X0_liveLine : Cond.instanceMethod yX0_liveLine ∈ z_good ∧ Cond.selects yX0_liveLine.cls yX0_liveLine yX0_liveLine ∈ z_good := ⟨zw_1087, zw_1088⟩
def m_X0_whyOf : z_MD := (yX0_whyOf, cX0_whyOf, 2, some .int)
theorem w_X0_whyOf : z_mth m_X0_whyOf 2 := ⟨zw_1089, zw_1071, by decide +kernel, ⟨by decide +kernel, by decide +kernel, by decide +kernel⟩, by decide +kernel⟩
theorem s_X0_whyOf : Cond.static yX0_whyOf ∈ z_good := zw_1090
def m_X11_told : z_MD := (yX11_told, cX11_told, 2, some .int)
theorem w_X11_told : z_mth m_X11_told 1 := ⟨zw_1091, zw_686, by decide +kernel, ⟨by decide +kernel, by decide +kernel, by decide +kernel⟩, by decide +kernel⟩
theorem s_X11_told : Cond.instanceMethod yX11_told ∈ z_good ∧ Cond.selects yX11_told.cls yX11_told yX11_told ∈ z_good := ⟨zw_1092, zw_1093⟩
def m_X0_tell : z_MD := (yX0_tell, cX0_tell, 2, some .int)
theorem w_X0_tell : z_mth m_X0_tell 1 := ⟨zw_1094, zw_1071, by decide +kernel, ⟨by decide +kernel, by decide +kernel, by decide +kernel⟩, by decide +kernel⟩
theorem s_X0_tell : Cond.instanceMethod yX0_tell ∈ z_good ∧ Cond.selects yX0_tell.cls yX0_tell yX0_tell ∈ z_good := ⟨zw_1095, zw_1096⟩
def m_X11_sentence : z_MD := (yX11_sentence, cX11_sentence, 2, some .int)
theorem w_X11_sentence : z_mth m_X11_sentence 0 := ⟨zw_1097, zw_686, by decide +kernel, ⟨by decide +kernel, by decide +kernel, by decide +kernel⟩, by decide +kernel⟩
theorem s_X11_sentence : Cond.instanceMethod yX11_sentence ∈ z_good ∧ Cond.selects yX11_sentence.cls yX11_sentence yX11_sentence ∈ z_good := ⟨zw_1098, zw_1099⟩
def m_X7_read : z_MD := (yX7_read, cX7_read, 3, some .boolean)
theorem w_X7_read : z_mth m_X7_read 2 := ⟨zw_1100, zw_813, by decide +kernel, ⟨by decide +kernel, by decide +kernel, by decide +kernel⟩, by decide +kernel⟩
theorem s_X7_read : Cond.instanceMethod yX7_read ∈ z_good ∧ Cond.selects yX7_read.cls yX7_read yX7_read ∈ z_good := ⟨zw_1101, zw_1102⟩
def m_X7_readCond : z_MD := (yX7_readCond, cX7_readCond, 5, some .boolean)
theorem w_X7_readCond : z_mth m_X7_readCond 3 := ⟨zw_1103, zw_813, by decide +kernel, ⟨by decide +kernel, by decide +kernel, by decide +kernel⟩, by decide +kernel⟩
theorem s_X7_readCond : Cond.instanceMethod yX7_readCond ∈ z_good ∧ Cond.selects yX7_readCond.cls yX7_readCond yX7_readCond ∈ z_good := ⟨zw_1104, zw_1105⟩
def m_X7_readAll : z_MD := (yX7_readAll, cX7_readAll, 5, some .boolean)
theorem w_X7_readAll : z_mth m_X7_readAll 3 := ⟨zw_1106, zw_813, by decide +kernel, ⟨by decide +kernel, by decide +kernel, by decide +kernel⟩, by decide +kernel⟩
theorem s_X7_readAll : Cond.instanceMethod yX7_readAll ∈ z_good ∧ Cond.selects yX7_readAll.cls yX7_readAll yX7_readAll ∈ z_good := ⟨zw_1107, zw_1108⟩
def m_X7_readOne : z_MD := (yX7_readOne, cX7_readOne, 6, some .boolean)
theorem w_X7_readOne : z_mth m_X7_readOne 3 := ⟨zw_1109, zw_813, by decide +kernel, ⟨by decide +kernel, by decide +kernel, by decide +kernel⟩, by decide +kernel⟩
theorem s_X7_readOne : Cond.instanceMethod yX7_readOne ∈ z_good ∧ Cond.selects yX7_readOne.cls yX7_readOne yX7_readOne ∈ z_good := ⟨zw_1110, zw_1111⟩
def m_X6_passSign : z_MD := (yX6_passSign, cX6_passSign, 2, some .boolean)
theorem w_X6_passSign : z_mth m_X6_passSign 1 := ⟨zw_1112, zw_699, by decide +kernel, ⟨by decide +kernel, by decide +kernel, by decide +kernel⟩, by decide +kernel⟩
theorem s_X6_passSign : Cond.instanceMethod yX6_passSign ∈ z_good ∧ Cond.selects yX6_passSign.cls yX6_passSign yX6_passSign ∈ z_good := ⟨zw_1113, zw_1114⟩
def m_X7_readDenied : z_MD := (yX7_readDenied, cX7_readDenied, 4, some .boolean)
theorem w_X7_readDenied : z_mth m_X7_readDenied 3 := ⟨zw_1115, zw_813, by decide +kernel, ⟨by decide +kernel, by decide +kernel, by decide +kernel⟩, by decide +kernel⟩
theorem s_X7_readDenied : Cond.instanceMethod yX7_readDenied ∈ z_good ∧ Cond.selects yX7_readDenied.cls yX7_readDenied yX7_readDenied ∈ z_good := ⟨zw_1116, zw_1117⟩
def m_X7_add : z_MD := (yX7_add, cX7_add, 4, none)
theorem w_X7_add : z_mth m_X7_add 3 := ⟨zw_1118, zw_813, by decide +kernel, ⟨by decide +kernel, by decide +kernel, by decide +kernel⟩, by decide +kernel⟩
theorem s_X7_add : Cond.instanceMethod yX7_add ∈ z_good ∧ Cond.selects yX7_add.cls yX7_add yX7_add ∈ z_good := ⟨zw_1119, zw_1120⟩
def m_X7_readPlainOne : z_MD := (yX7_readPlainOne, cX7_readPlainOne, 6, some .boolean)
theorem w_X7_readPlainOne : z_mth m_X7_readPlainOne 3 := ⟨zw_1121, zw_813, by decide +kernel, ⟨by decide +kernel, by decide +kernel, by decide +kernel⟩, by decide +kernel⟩
theorem s_X7_readPlainOne : Cond.instanceMethod yX7_readPlainOne ∈ z_good ∧ Cond.selects yX7_readPlainOne.cls yX7_readPlainOne yX7_readPlainOne ∈ z_good := ⟨zw_1122, zw_1123⟩
def m_X11_said : z_MD := (yX11_said, cX11_said, 4, some .int)
theorem w_X11_said : z_mth m_X11_said 1 := ⟨zw_1124, zw_686, by decide +kernel, ⟨by decide +kernel, by decide +kernel, by decide +kernel⟩, by decide +kernel⟩
theorem s_X11_said : Cond.instanceMethod yX11_said ∈ z_good ∧ Cond.selects yX11_said.cls yX11_said yX11_said ∈ z_good := ⟨zw_1125, zw_1126⟩
def m_X7_holdsOf : z_MD := (yX7_holdsOf, cX7_holdsOf, 7, some .boolean)
theorem w_X7_holdsOf : z_mth m_X7_holdsOf 2 := ⟨zw_1127, zw_813, by decide +kernel, ⟨by decide +kernel, by decide +kernel, by decide +kernel⟩, by decide +kernel⟩
theorem s_X7_holdsOf : Cond.instanceMethod yX7_holdsOf ∈ z_good ∧ Cond.selects yX7_holdsOf.cls yX7_holdsOf yX7_holdsOf ∈ z_good := ⟨zw_1128, zw_1129⟩
def m_X7_oneHolds : z_MD := (yX7_oneHolds, cX7_oneHolds, 5, some .boolean)
theorem w_X7_oneHolds : z_mth m_X7_oneHolds 3 := ⟨zw_1130, zw_813, by decide +kernel, ⟨by decide +kernel, by decide +kernel, by decide +kernel⟩, by decide +kernel⟩
theorem s_X7_oneHolds : Cond.static yX7_oneHolds ∈ z_good := zw_1131
def m_X7_compares : z_MD := (yX7_compares, cX7_compares, 3, some .boolean)
theorem w_X7_compares : z_mth m_X7_compares 3 := ⟨zw_1132, zw_813, by decide +kernel, ⟨by decide +kernel, by decide +kernel, by decide +kernel⟩, by decide +kernel⟩
theorem s_X7_compares : Cond.static yX7_compares ∈ z_good := zw_1133
def m_X4_greatestStamp : z_MD := (yX4_greatestStamp, cX4_greatestStamp, 4, some .int)
theorem w_X4_greatestStamp : z_mth m_X4_greatestStamp 1 := ⟨zw_1134, zw_830, by decide +kernel, ⟨by decide +kernel, by decide +kernel, by decide +kernel⟩, by decide +kernel⟩
theorem s_X4_greatestStamp : Cond.instanceMethod yX4_greatestStamp ∈ z_good ∧ Cond.selects yX4_greatestStamp.cls yX4_greatestStamp yX4_greatestStamp ∈ z_good := ⟨zw_1135, zw_1136⟩
def m_X11_image : z_MD := (yX11_image, cX11_image, 2, some .boolean)
theorem w_X11_image : z_mth m_X11_image 1 := ⟨zw_1137, zw_686, by decide +kernel, ⟨by decide +kernel, by decide +kernel, by decide +kernel⟩, by decide +kernel⟩
theorem s_X11_image : Cond.instanceMethod yX11_image ∈ z_good ∧ Cond.selects yX11_image.cls yX11_image yX11_image ∈ z_good := ⟨zw_1138, zw_1139⟩
def m_X11_restore : z_MD := (yX11_restore, cX11_restore, 2, some .boolean)
theorem w_X11_restore : z_mth m_X11_restore 1 := ⟨zw_1140, zw_686, by decide +kernel, ⟨by decide +kernel, by decide +kernel, by decide +kernel⟩, by decide +kernel⟩
theorem s_X11_restore : Cond.instanceMethod yX11_restore ∈ z_good ∧ Cond.selects yX11_restore.cls yX11_restore yX11_restore ∈ z_good := ⟨zw_1141, zw_1142⟩
def m_X11_count : z_MD := (yX11_count, cX11_count, 2, some .int)
theorem w_X11_count : z_mth m_X11_count 1 := ⟨zw_1143, zw_686, by decide +kernel, ⟨by decide +kernel, by decide +kernel, by decide +kernel⟩, by decide +kernel⟩
theorem s_X11_count : Cond.instanceMethod yX11_count ∈ z_good ∧ Cond.selects yX11_count.cls yX11_count yX11_count ∈ z_good := ⟨zw_1144, zw_1145⟩
def m_X11_digest : z_MD := (yX11_digest, cX11_digest, 2, some .int)
theorem w_X11_digest : z_mth m_X11_digest 1 := ⟨zw_1146, zw_686, by decide +kernel, ⟨by decide +kernel, by decide +kernel, by decide +kernel⟩, by decide +kernel⟩
theorem s_X11_digest : Cond.instanceMethod yX11_digest ∈ z_good ∧ Cond.selects yX11_digest.cls yX11_digest yX11_digest ∈ z_good := ⟨zw_1147, zw_1148⟩
def m_X11_root : z_MD := (yX11_root, cX11_root, 2, some .int)
theorem w_X11_root : z_mth m_X11_root 1 := ⟨zw_1149, zw_686, by decide +kernel, ⟨by decide +kernel, by decide +kernel, by decide +kernel⟩, by decide +kernel⟩
theorem s_X11_root : Cond.instanceMethod yX11_root ∈ z_good ∧ Cond.selects yX11_root.cls yX11_root yX11_root ∈ z_good := ⟨zw_1150, zw_1151⟩
def m_X11_entry : z_MD := (yX11_entry, cX11_entry, 4, some .int)
theorem w_X11_entry : z_mth m_X11_entry 3 := ⟨zw_1152, zw_686, by decide +kernel, ⟨by decide +kernel, by decide +kernel, by decide +kernel⟩, by decide +kernel⟩
theorem s_X11_entry : Cond.instanceMethod yX11_entry ∈ z_good ∧ Cond.selects yX11_entry.cls yX11_entry yX11_entry ∈ z_good := ⟨zw_1153, zw_1154⟩
def m_X11_node : z_MD := (yX11_node, cX11_node, 4, some .int)
theorem w_X11_node : z_mth m_X11_node 3 := ⟨zw_1155, zw_686, by decide +kernel, ⟨by decide +kernel, by decide +kernel, by decide +kernel⟩, by decide +kernel⟩
theorem s_X11_node : Cond.instanceMethod yX11_node ∈ z_good ∧ Cond.selects yX11_node.cls yX11_node yX11_node ∈ z_good := ⟨zw_1156, zw_1157⟩
def m_X9_tell : z_MD := (yX9_tell, cX9_tell, 3, some .int)
theorem w_X9_tell : z_mth m_X9_tell 2 := ⟨zw_1158, zw_834, by decide +kernel, ⟨by decide +kernel, by decide +kernel, by decide +kernel⟩, by decide +kernel⟩
theorem s_X9_tell : Cond.instanceMethod yX9_tell ∈ z_good ∧ Cond.selects yX9_tell.cls yX9_tell yX9_tell ∈ z_good := ⟨zw_1159, zw_1160⟩
def m_X11_mean : z_MD := (yX11_mean, cX11_mean, 3, some .int)
theorem w_X11_mean : z_mth m_X11_mean 2 := ⟨zw_1161, zw_686, by decide +kernel, ⟨by decide +kernel, by decide +kernel, by decide +kernel⟩, by decide +kernel⟩
theorem s_X11_mean : Cond.instanceMethod yX11_mean ∈ z_good ∧ Cond.selects yX11_mean.cls yX11_mean yX11_mean ∈ z_good := ⟨zw_1162, zw_1163⟩
def m_X11_termOf : z_MD := (yX11_termOf, cX11_termOf, 7, some .int)
theorem w_X11_termOf : z_mth m_X11_termOf 3 := ⟨zw_1164, zw_686, by decide +kernel, ⟨by decide +kernel, by decide +kernel, by decide +kernel⟩, by decide +kernel⟩
theorem s_X11_termOf : Cond.static yX11_termOf ∈ z_good := zw_1165
def m_X11_part : z_MD := (yX11_part, cX11_part, 4, some .int)
theorem w_X11_part : z_mth m_X11_part 3 := ⟨zw_1166, zw_686, by decide +kernel, ⟨by decide +kernel, by decide +kernel, by decide +kernel⟩, by decide +kernel⟩
theorem s_X11_part : Cond.instanceMethod yX11_part ∈ z_good ∧ Cond.selects yX11_part.cls yX11_part yX11_part ∈ z_good := ⟨zw_1167, zw_1168⟩
def m_X12_thrown : z_MD := (yX12_thrown, cX12_thrown, 1, some .int)
theorem w_X12_thrown : z_mth m_X12_thrown 0 := ⟨zw_1169, zw_1170, by decide +kernel, ⟨by decide +kernel, by decide +kernel, by decide +kernel⟩, by decide +kernel⟩
theorem s_X12_thrown : Cond.instanceMethod yX12_thrown ∈ z_good ∧ Cond.selects yX12_thrown.cls yX12_thrown yX12_thrown ∈ z_good := ⟨zw_1171, zw_1172⟩
def m_X12_feed : z_MD := (yX12_feed, cX12_feed, 6, some .int)
theorem w_X12_feed : z_mth m_X12_feed 5 := ⟨zw_1173, zw_1170, by decide +kernel, ⟨by decide +kernel, by decide +kernel, by decide +kernel⟩, by decide +kernel⟩
theorem s_X12_feed : Cond.instanceMethod yX12_feed ∈ z_good ∧ Cond.selects yX12_feed.cls yX12_feed yX12_feed ∈ z_good := ⟨zw_1174, zw_1175⟩
def m_X12_come : z_MD := (yX12_come, cX12_come, 3, none)
theorem w_X12_come : z_mth m_X12_come 1 := ⟨zw_1176, zw_1170, by decide +kernel, ⟨by decide +kernel, by decide +kernel, by decide +kernel⟩, by decide +kernel⟩
theorem s_X12_come : Cond.instanceMethod yX12_come ∈ z_good ∧ Cond.selects yX12_come.cls yX12_come yX12_come ∈ z_good := ⟨zw_1177, zw_1178⟩
def m_X12_end : z_MD := (yX12_end, cX12_end, 2, some .boolean)
theorem w_X12_end : z_mth m_X12_end 1 := ⟨zw_1179, zw_1170, by decide +kernel, ⟨by decide +kernel, by decide +kernel, by decide +kernel⟩, by decide +kernel⟩
theorem s_X12_end : Cond.instanceMethod yX12_end ∈ z_good ∧ Cond.selects yX12_end.cls yX12_end yX12_end ∈ z_good := ⟨zw_1180, zw_1181⟩
def m_X12_cluster : z_MD := (yX12_cluster, cX12_cluster, 3, some .int)
theorem w_X12_cluster : z_mth m_X12_cluster 0 := ⟨zw_1182, zw_1170, by decide +kernel, ⟨by decide +kernel, by decide +kernel, by decide +kernel⟩, by decide +kernel⟩
theorem s_X12_cluster : Cond.instanceMethod yX12_cluster ∈ z_good ∧ Cond.selects yX12_cluster.cls yX12_cluster yX12_cluster ∈ z_good := ⟨zw_1183, zw_1184⟩
def m_X12_begin : z_MD := (yX12_begin, cX12_begin, 2, none)
theorem w_X12_begin : z_mth m_X12_begin 1 := ⟨zw_1185, zw_1170, by decide +kernel, ⟨by decide +kernel, by decide +kernel, by decide +kernel⟩, by decide +kernel⟩
theorem s_X12_begin : Cond.instanceMethod yX12_begin ∈ z_good ∧ Cond.selects yX12_begin.cls yX12_begin yX12_begin ∈ z_good := ⟨zw_1186, zw_1187⟩
def m_X12_take : z_MD := (yX12_take, cX12_take, 2, some .int)
theorem w_X12_take : z_mth m_X12_take 0 := ⟨zw_1188, zw_1170, by decide +kernel, ⟨by decide +kernel, by decide +kernel, by decide +kernel⟩, by decide +kernel⟩
theorem s_X12_take : Cond.instanceMethod yX12_take ∈ z_good ∧ Cond.selects yX12_take.cls yX12_take yX12_take ∈ z_good := ⟨zw_1189, zw_1190⟩
def m_X12_go : z_MD := (yX12_go, cX12_go, 5, none)
theorem w_X12_go : z_mth m_X12_go 0 := ⟨zw_1191, zw_1170, by decide +kernel, ⟨by decide +kernel, by decide +kernel, by decide +kernel⟩, by decide +kernel⟩
theorem s_X12_go : Cond.instanceMethod yX12_go ∈ z_good ∧ Cond.selects yX12_go.cls yX12_go yX12_go ∈ z_good := ⟨zw_1192, zw_1193⟩
def m_X12_isLetter : z_MD := (yX12_isLetter, cX12_isLetter, 1, some .boolean)
theorem w_X12_isLetter : z_mth m_X12_isLetter 1 := ⟨zw_1194, zw_1170, by decide +kernel, ⟨by decide +kernel, by decide +kernel, by decide +kernel⟩, by decide +kernel⟩
theorem s_X12_isLetter : Cond.static yX12_isLetter ∈ z_good := zw_1195
def m_X12_isDigit : z_MD := (yX12_isDigit, cX12_isDigit, 1, some .boolean)
theorem w_X12_isDigit : z_mth m_X12_isDigit 1 := ⟨zw_1196, zw_1170, by decide +kernel, ⟨by decide +kernel, by decide +kernel, by decide +kernel⟩, by decide +kernel⟩
theorem s_X12_isDigit : Cond.static yX12_isDigit ∈ z_good := zw_1197
def m_X12_tapeAt : z_MD := (yX12_tapeAt, cX12_tapeAt, 2, some .int)
theorem w_X12_tapeAt : z_mth m_X12_tapeAt 1 := ⟨zw_1198, zw_1170, by decide +kernel, ⟨by decide +kernel, by decide +kernel, by decide +kernel⟩, by decide +kernel⟩
theorem s_X12_tapeAt : Cond.instanceMethod yX12_tapeAt ∈ z_good ∧ Cond.selects yX12_tapeAt.cls yX12_tapeAt yX12_tapeAt ∈ z_good := ⟨zw_1199, zw_1200⟩
def m_X12_readLine : z_MD := (yX12_readLine, cX12_readLine, 1, some .boolean)
theorem w_X12_readLine : z_mth m_X12_readLine 0 := ⟨zw_1201, zw_1170, by decide +kernel, ⟨by decide +kernel, by decide +kernel, by decide +kernel⟩, by decide +kernel⟩
theorem s_X12_readLine : Cond.instanceMethod yX12_readLine ∈ z_good ∧ Cond.selects yX12_readLine.cls yX12_readLine yX12_readLine ∈ z_good := ⟨zw_1202, zw_1203⟩
def m_X12_isWord : z_MD := (yX12_isWord, cX12_isWord, 2, some .boolean)
theorem w_X12_isWord : z_mth m_X12_isWord 1 := ⟨zw_1204, zw_1170, by decide +kernel, ⟨by decide +kernel, by decide +kernel, by decide +kernel⟩, by decide +kernel⟩
theorem s_X12_isWord : Cond.instanceMethod yX12_isWord ∈ z_good ∧ Cond.selects yX12_isWord.cls yX12_isWord yX12_isWord ∈ z_good := ⟨zw_1205, zw_1206⟩
def m_X12_wordOf : z_MD := (yX12_wordOf, cX12_wordOf, 1, some .long)
theorem w_X12_wordOf : z_mth m_X12_wordOf 1 := ⟨zw_1207, zw_1170, by decide +kernel, ⟨by decide +kernel, by decide +kernel, by decide +kernel⟩, by decide +kernel⟩
theorem s_X12_wordOf : Cond.static yX12_wordOf ∈ z_good := zw_1208
def m_X12_spelt : z_MD := (yX12_spelt, cX12_spelt, 8, some .long)
theorem w_X12_spelt : z_mth m_X12_spelt 6 := ⟨zw_1209, zw_1170, by decide +kernel, ⟨by decide +kernel, by decide +kernel, by decide +kernel⟩, by decide +kernel⟩
theorem s_X12_spelt : Cond.static yX12_spelt ∈ z_good := zw_1210
def m_X12_isFresh : z_MD := (yX12_isFresh, cX12_isFresh, 2, some .boolean)
theorem w_X12_isFresh : z_mth m_X12_isFresh 1 := ⟨zw_1211, zw_1170, by decide +kernel, ⟨by decide +kernel, by decide +kernel, by decide +kernel⟩, by decide +kernel⟩
theorem s_X12_isFresh : Cond.instanceMethod yX12_isFresh ∈ z_good ∧ Cond.selects yX12_isFresh.cls yX12_isFresh yX12_isFresh ∈ z_good := ⟨zw_1212, zw_1213⟩
def m_X12_bad : z_MD := (yX12_bad, cX12_bad, 2, some .boolean)
theorem w_X12_bad : z_mth m_X12_bad 1 := ⟨zw_1214, zw_1170, by decide +kernel, ⟨by decide +kernel, by decide +kernel, by decide +kernel⟩, by decide +kernel⟩
theorem s_X12_bad : Cond.instanceMethod yX12_bad ∈ z_good ∧ Cond.selects yX12_bad.cls yX12_bad yX12_bad ∈ z_good := ⟨zw_1215, zw_1216⟩
def m_X12_readNumber : z_MD := (yX12_readNumber, cX12_readNumber, 3, some .boolean)
theorem w_X12_readNumber : z_mth m_X12_readNumber 2 := ⟨zw_1217, zw_1170, by decide +kernel, ⟨by decide +kernel, by decide +kernel, by decide +kernel⟩, by decide +kernel⟩
theorem s_X12_readNumber : Cond.instanceMethod yX12_readNumber ∈ z_good ∧ Cond.selects yX12_readNumber.cls yX12_readNumber yX12_readNumber ∈ z_good := ⟨zw_1218, zw_1219⟩
def m_X12_isIn : z_MD := (yX12_isIn, cX12_isIn, 3, some .boolean)
theorem w_X12_isIn : z_mth m_X12_isIn 3 := ⟨zw_1220, zw_1170, by decide +kernel, ⟨by decide +kernel, by decide +kernel, by decide +kernel⟩, by decide +kernel⟩
theorem s_X12_isIn : Cond.static yX12_isIn ∈ z_good := zw_1221
def m_X12_noted : z_MD := (yX12_noted, cX12_noted, 3, some .boolean)
theorem w_X12_noted : z_mth m_X12_noted 2 := ⟨zw_1222, zw_1170, by decide +kernel, ⟨by decide +kernel, by decide +kernel, by decide +kernel⟩, by decide +kernel⟩
theorem s_X12_noted : Cond.instanceMethod yX12_noted ∈ z_good ∧ Cond.selects yX12_noted.cls yX12_noted yX12_noted ∈ z_good := ⟨zw_1223, zw_1224⟩
def m_X12_readRule : z_MD := (yX12_readRule, cX12_readRule, 3, some .boolean)
theorem w_X12_readRule : z_mth m_X12_readRule 0 := ⟨zw_1225, zw_1170, by decide +kernel, ⟨by decide +kernel, by decide +kernel, by decide +kernel⟩, by decide +kernel⟩
theorem s_X12_readRule : Cond.instanceMethod yX12_readRule ∈ z_good ∧ Cond.selects yX12_readRule.cls yX12_readRule yX12_readRule ∈ z_good := ⟨zw_1226, zw_1227⟩
def m_X12_readKey : z_MD := (yX12_readKey, cX12_readKey, 1, some .boolean)
theorem w_X12_readKey : z_mth m_X12_readKey 0 := ⟨zw_1228, zw_1170, by decide +kernel, ⟨by decide +kernel, by decide +kernel, by decide +kernel⟩, by decide +kernel⟩
theorem s_X12_readKey : Cond.instanceMethod yX12_readKey ∈ z_good ∧ Cond.selects yX12_readKey.cls yX12_readKey yX12_readKey ∈ z_good := ⟨zw_1229, zw_1230⟩
def m_X12_readFirst : z_MD := (yX12_readFirst, cX12_readFirst, 3, some .boolean)
theorem w_X12_readFirst : z_mth m_X12_readFirst 2 := ⟨zw_1231, zw_1170, by decide +kernel, ⟨by decide +kernel, by decide +kernel, by decide +kernel⟩, by decide +kernel⟩
theorem s_X12_readFirst : Cond.instanceMethod yX12_readFirst ∈ z_good ∧ Cond.selects yX12_readFirst.cls yX12_readFirst yX12_readFirst ∈ z_good := ⟨zw_1232, zw_1233⟩
def m_X12_readNew : z_MD := (yX12_readNew, cX12_readNew, 2, some .boolean)
theorem w_X12_readNew : z_mth m_X12_readNew 1 := ⟨zw_1234, zw_1170, by decide +kernel, ⟨by decide +kernel, by decide +kernel, by decide +kernel⟩, by decide +kernel⟩
theorem s_X12_readNew : Cond.instanceMethod yX12_readNew ∈ z_good ∧ Cond.selects yX12_readNew.cls yX12_readNew yX12_readNew ∈ z_good := ⟨zw_1235, zw_1236⟩
def m_X12_isName : z_MD := (yX12_isName, cX12_isName, 2, some .boolean)
theorem w_X12_isName : z_mth m_X12_isName 0 := ⟨zw_1237, zw_1170, by decide +kernel, ⟨by decide +kernel, by decide +kernel, by decide +kernel⟩, by decide +kernel⟩
theorem s_X12_isName : Cond.instanceMethod yX12_isName ∈ z_good ∧ Cond.selects yX12_isName.cls yX12_isName yX12_isName ∈ z_good := ⟨zw_1238, zw_1239⟩
def m_X12_findIn : z_MD := (yX12_findIn, cX12_findIn, 6, some .int)
theorem w_X12_findIn : z_mth m_X12_findIn 4 := ⟨zw_1240, zw_1170, by decide +kernel, ⟨by decide +kernel, by decide +kernel, by decide +kernel⟩, by decide +kernel⟩
theorem s_X12_findIn : Cond.static yX12_findIn ∈ z_good := zw_1241
def m_X12_readPeer : z_MD := (yX12_readPeer, cX12_readPeer, 1, some .boolean)
theorem w_X12_readPeer : z_mth m_X12_readPeer 0 := ⟨zw_1242, zw_1170, by decide +kernel, ⟨by decide +kernel, by decide +kernel, by decide +kernel⟩, by decide +kernel⟩
theorem s_X12_readPeer : Cond.instanceMethod yX12_readPeer ∈ z_good ∧ Cond.selects yX12_readPeer.cls yX12_readPeer yX12_readPeer ∈ z_good := ⟨zw_1243, zw_1244⟩
def m_X12_readHas : z_MD := (yX12_readHas, cX12_readHas, 2, some .boolean)
theorem w_X12_readHas : z_mth m_X12_readHas 0 := ⟨zw_1245, zw_1170, by decide +kernel, ⟨by decide +kernel, by decide +kernel, by decide +kernel⟩, by decide +kernel⟩
theorem s_X12_readHas : Cond.instanceMethod yX12_readHas ∈ z_good ∧ Cond.selects yX12_readHas.cls yX12_readHas yX12_readHas ∈ z_good := ⟨zw_1246, zw_1247⟩
def m_X12_isHere : z_MD := (yX12_isHere, cX12_isHere, 3, some .boolean)
theorem w_X12_isHere : z_mth m_X12_isHere 2 := ⟨zw_1248, zw_1170, by decide +kernel, ⟨by decide +kernel, by decide +kernel, by decide +kernel⟩, by decide +kernel⟩
theorem s_X12_isHere : Cond.instanceMethod yX12_isHere ∈ z_good ∧ Cond.selects yX12_isHere.cls yX12_isHere yX12_isHere ∈ z_good := ⟨zw_1249, zw_1250⟩
def m_X12_readCut : z_MD := (yX12_readCut, cX12_readCut, 2, some .boolean)
theorem w_X12_readCut : z_mth m_X12_readCut 0 := ⟨zw_1251, zw_1170, by decide +kernel, ⟨by decide +kernel, by decide +kernel, by decide +kernel⟩, by decide +kernel⟩
theorem s_X12_readCut : Cond.instanceMethod yX12_readCut ∈ z_good ∧ Cond.selects yX12_readCut.cls yX12_readCut yX12_readCut ∈ z_good := ⟨zw_1252, zw_1253⟩
def m_X12_has : z_MD := (yX12_has, cX12_has, 2, some .boolean)
theorem w_X12_has : z_mth m_X12_has 2 := ⟨zw_1254, zw_1170, by decide +kernel, ⟨by decide +kernel, by decide +kernel, by decide +kernel⟩, by decide +kernel⟩
theorem s_X12_has : Cond.static yX12_has ∈ z_good := zw_1255
def m_X12_readEnd : z_MD := (yX12_readEnd, cX12_readEnd, 1, some .boolean)
theorem w_X12_readEnd : z_mth m_X12_readEnd 0 := ⟨zw_1256, zw_1170, by decide +kernel, ⟨by decide +kernel, by decide +kernel, by decide +kernel⟩, by decide +kernel⟩
theorem s_X12_readEnd : Cond.instanceMethod yX12_readEnd ∈ z_good ∧ Cond.selects yX12_readEnd.cls yX12_readEnd yX12_readEnd ∈ z_good := ⟨zw_1257, zw_1258⟩
def m_X12_isSign : z_MD := (yX12_isSign, cX12_isSign, 2, some .boolean)
theorem w_X12_isSign : z_mth m_X12_isSign 1 := ⟨zw_1259, zw_1170, by decide +kernel, ⟨by decide +kernel, by decide +kernel, by decide +kernel⟩, by decide +kernel⟩
theorem s_X12_isSign : Cond.instanceMethod yX12_isSign ∈ z_good ∧ Cond.selects yX12_isSign.cls yX12_isSign yX12_isSign ∈ z_good := ⟨zw_1260, zw_1261⟩
def m_X12_startSo : z_MD := (yX12_startSo, cX12_startSo, 2, none)
theorem w_X12_startSo : z_mth m_X12_startSo 0 := ⟨zw_1262, zw_1170, by decide +kernel, ⟨by decide +kernel, by decide +kernel, by decide +kernel⟩, by decide +kernel⟩
theorem s_X12_startSo : Cond.instanceMethod yX12_startSo ∈ z_good ∧ Cond.selects yX12_startSo.cls yX12_startSo yX12_startSo ∈ z_good := ⟨zw_1263, zw_1264⟩
def m_X12_layKeys : z_MD := (yX12_layKeys, cX12_layKeys, 5, none)
theorem w_X12_layKeys : z_mth m_X12_layKeys 0 := ⟨zw_1265, zw_1170, by decide +kernel, ⟨by decide +kernel, by decide +kernel, by decide +kernel⟩, by decide +kernel⟩
theorem s_X12_layKeys : Cond.instanceMethod yX12_layKeys ∈ z_good ∧ Cond.selects yX12_layKeys.cls yX12_layKeys yX12_layKeys ∈ z_good := ⟨zw_1266, zw_1267⟩
def m_X12_digestOf : z_MD := (yX12_digestOf, cX12_digestOf, 8, some .int)
theorem w_X12_digestOf : z_mth m_X12_digestOf 1 := ⟨zw_1268, zw_1170, by decide +kernel, ⟨by decide +kernel, by decide +kernel, by decide +kernel⟩, by decide +kernel⟩
theorem s_X12_digestOf : Cond.static yX12_digestOf ∈ z_good := zw_1269
def m_X12_long7 : z_MD := (yX12_long7, cX12_long7, 5, some .long)
theorem w_X12_long7 : z_mth m_X12_long7 1 := ⟨zw_1270, zw_1170, by decide +kernel, ⟨by decide +kernel, by decide +kernel, by decide +kernel⟩, by decide +kernel⟩
theorem s_X12_long7 : Cond.static yX12_long7 ∈ z_good := zw_1271
def m_X12_letters : z_MD := (yX12_letters, cX12_letters, 5, some .int)
theorem w_X12_letters : z_mth m_X12_letters 1 := ⟨zw_1272, zw_1170, by decide +kernel, ⟨by decide +kernel, by decide +kernel, by decide +kernel⟩, by decide +kernel⟩
theorem s_X12_letters : Cond.static yX12_letters ∈ z_good := zw_1273
def m_X12_mix : z_MD := (yX12_mix, cX12_mix, 3, some .int)
theorem w_X12_mix : z_mth m_X12_mix 2 := ⟨zw_1274, zw_1170, by decide +kernel, ⟨by decide +kernel, by decide +kernel, by decide +kernel⟩, by decide +kernel⟩
theorem s_X12_mix : Cond.static yX12_mix ∈ z_good := zw_1275
def m_X12_zeros : z_MD := (yX12_zeros, cX12_zeros, 2, some .int)
theorem w_X12_zeros : z_mth m_X12_zeros 1 := ⟨zw_1276, zw_1170, by decide +kernel, ⟨by decide +kernel, by decide +kernel, by decide +kernel⟩, by decide +kernel⟩
theorem s_X12_zeros : Cond.static yX12_zeros ∈ z_good := zw_1277
def m_X12_fault : z_MD := (yX12_fault, cX12_fault, 1, some .int)
theorem w_X12_fault : z_mth m_X12_fault 0 := ⟨zw_1278, zw_1170, by decide +kernel, ⟨by decide +kernel, by decide +kernel, by decide +kernel⟩, by decide +kernel⟩
theorem s_X12_fault : Cond.instanceMethod yX12_fault ∈ z_good ∧ Cond.selects yX12_fault.cls yX12_fault yX12_fault ∈ z_good := ⟨zw_1279, zw_1280⟩
def m_X12_faultLine : z_MD := (yX12_faultLine, cX12_faultLine, 1, some .int)
theorem w_X12_faultLine : z_mth m_X12_faultLine 0 := ⟨zw_1281, zw_1170, by decide +kernel, ⟨by decide +kernel, by decide +kernel, by decide +kernel⟩, by decide +kernel⟩
theorem s_X12_faultLine : Cond.instanceMethod yX12_faultLine ∈ z_good ∧ Cond.selects yX12_faultLine.cls yX12_faultLine yX12_faultLine ∈ z_good := ⟨zw_1282, zw_1283⟩
def m_X12_key : z_MD := (yX12_key, cX12_key, 5, some .int)
theorem w_X12_key : z_mth m_X12_key 2 := ⟨zw_1284, zw_1170, by decide +kernel, ⟨by decide +kernel, by decide +kernel, by decide +kernel⟩, by decide +kernel⟩
theorem s_X12_key : Cond.instanceMethod yX12_key ∈ z_good ∧ Cond.selects yX12_key.cls yX12_key yX12_key ∈ z_good := ⟨zw_1285, zw_1286⟩
def m_X12_isKey : z_MD := (yX12_isKey, cX12_isKey, 2, some .boolean)
theorem w_X12_isKey : z_mth m_X12_isKey 1 := ⟨zw_1287, zw_1170, by decide +kernel, ⟨by decide +kernel, by decide +kernel, by decide +kernel⟩, by decide +kernel⟩
theorem s_X12_isKey : Cond.instanceMethod yX12_isKey ∈ z_good ∧ Cond.selects yX12_isKey.cls yX12_isKey yX12_isKey ∈ z_good := ⟨zw_1288, zw_1289⟩
def m_X12_hasEntry : z_MD := (yX12_hasEntry, cX12_hasEntry, 3, some .boolean)
theorem w_X12_hasEntry : z_mth m_X12_hasEntry 2 := ⟨zw_1290, zw_1170, by decide +kernel, ⟨by decide +kernel, by decide +kernel, by decide +kernel⟩, by decide +kernel⟩
theorem s_X12_hasEntry : Cond.instanceMethod yX12_hasEntry ∈ z_good ∧ Cond.selects yX12_hasEntry.cls yX12_hasEntry yX12_hasEntry ∈ z_good := ⟨zw_1291, zw_1292⟩
def m_X12_at : z_MD := (yX12_at, cX12_at, 2, some .int)
theorem w_X12_at : z_mth m_X12_at 2 := ⟨zw_1293, zw_1170, by decide +kernel, ⟨by decide +kernel, by decide +kernel, by decide +kernel⟩, by decide +kernel⟩
theorem s_X12_at : Cond.static yX12_at ∈ z_good := zw_1294
def m_X12_digest : z_MD := (yX12_digest, cX12_digest, 2, some .int)
theorem w_X12_digest : z_mth m_X12_digest 1 := ⟨zw_1295, zw_1170, by decide +kernel, ⟨by decide +kernel, by decide +kernel, by decide +kernel⟩, by decide +kernel⟩
theorem s_X12_digest : Cond.instanceMethod yX12_digest ∈ z_good ∧ Cond.selects yX12_digest.cls yX12_digest yX12_digest ∈ z_good := ⟨zw_1296, zw_1297⟩
def m_X12_refuse : z_MD := (yX12_refuse, cX12_refuse, 1, some .int)
theorem w_X12_refuse : z_mth m_X12_refuse 0 := ⟨zw_1298, zw_1170, by decide +kernel, ⟨by decide +kernel, by decide +kernel, by decide +kernel⟩, by decide +kernel⟩
theorem s_X12_refuse : Cond.instanceMethod yX12_refuse ∈ z_good ∧ Cond.selects yX12_refuse.cls yX12_refuse yX12_refuse ∈ z_good := ⟨zw_1299, zw_1300⟩
def m_X12_peer : z_MD := (yX12_peer, cX12_peer, 3, some .int)
theorem w_X12_peer : z_mth m_X12_peer 2 := ⟨zw_1301, zw_1170, by decide +kernel, ⟨by decide +kernel, by decide +kernel, by decide +kernel⟩, by decide +kernel⟩
theorem s_X12_peer : Cond.instanceMethod yX12_peer ∈ z_good ∧ Cond.selects yX12_peer.cls yX12_peer yX12_peer ∈ z_good := ⟨zw_1302, zw_1303⟩
def m_X12_isPeer : z_MD := (yX12_isPeer, cX12_isPeer, 2, some .boolean)
theorem w_X12_isPeer : z_mth m_X12_isPeer 1 := ⟨zw_1304, zw_1170, by decide +kernel, ⟨by decide +kernel, by decide +kernel, by decide +kernel⟩, by decide +kernel⟩
theorem s_X12_isPeer : Cond.instanceMethod yX12_isPeer ∈ z_good ∧ Cond.selects yX12_isPeer.cls yX12_isPeer yX12_isPeer ∈ z_good := ⟨zw_1305, zw_1306⟩
def m_X12_layTree : z_MD := (yX12_layTree, cX12_layTree, 3, some .int)
theorem w_X12_layTree : z_mth m_X12_layTree 2 := ⟨zw_1307, zw_1170, by decide +kernel, ⟨by decide +kernel, by decide +kernel, by decide +kernel⟩, by decide +kernel⟩
theorem s_X12_layTree : Cond.instanceMethod yX12_layTree ∈ z_good ∧ Cond.selects yX12_layTree.cls yX12_layTree yX12_layTree ∈ z_good := ⟨zw_1308, zw_1309⟩
def m_X12_layNodes : z_MD := (yX12_layNodes, cX12_layNodes, 13, some .int)
theorem w_X12_layNodes : z_mth m_X12_layNodes 6 := ⟨zw_1310, zw_1170, by decide +kernel, ⟨by decide +kernel, by decide +kernel, by decide +kernel⟩, by decide +kernel⟩
theorem s_X12_layNodes : Cond.instanceMethod yX12_layNodes ∈ z_good ∧ Cond.selects yX12_layNodes.cls yX12_layNodes yX12_layNodes ∈ z_good := ⟨zw_1311, zw_1312⟩
def m_X12_greatest : z_MD := (yX12_greatest, cX12_greatest, 6, some .int)
theorem w_X12_greatest : z_mth m_X12_greatest 3 := ⟨zw_1313, zw_1170, by decide +kernel, ⟨by decide +kernel, by decide +kernel, by decide +kernel⟩, by decide +kernel⟩
theorem s_X12_greatest : Cond.instanceMethod yX12_greatest ∈ z_good ∧ Cond.selects yX12_greatest.cls yX12_greatest yX12_greatest ∈ z_good := ⟨zw_1314, zw_1315⟩
def m_X12_entryDigest : z_MD := (yX12_entryDigest, cX12_entryDigest, 3, some .int)
theorem w_X12_entryDigest : z_mth m_X12_entryDigest 2 := ⟨zw_1316, zw_1170, by decide +kernel, ⟨by decide +kernel, by decide +kernel, by decide +kernel⟩, by decide +kernel⟩
theorem s_X12_entryDigest : Cond.instanceMethod yX12_entryDigest ∈ z_good ∧ Cond.selects yX12_entryDigest.cls yX12_entryDigest yX12_entryDigest ∈ z_good := ⟨zw_1317, zw_1318⟩
def m_X12_entriesOf : z_MD := (yX12_entriesOf, cX12_entriesOf, 4, some .int)
theorem w_X12_entriesOf : z_mth m_X12_entriesOf 1 := ⟨zw_1319, zw_1170, by decide +kernel, ⟨by decide +kernel, by decide +kernel, by decide +kernel⟩, by decide +kernel⟩
theorem s_X12_entriesOf : Cond.instanceMethod yX12_entriesOf ∈ z_good ∧ Cond.selects yX12_entriesOf.cls yX12_entriesOf yX12_entriesOf ∈ z_good := ⟨zw_1320, zw_1321⟩
def m_X12_goneOf : z_MD := (yX12_goneOf, cX12_goneOf, 4, some .int)
theorem w_X12_goneOf : z_mth m_X12_goneOf 1 := ⟨zw_1322, zw_1170, by decide +kernel, ⟨by decide +kernel, by decide +kernel, by decide +kernel⟩, by decide +kernel⟩
theorem s_X12_goneOf : Cond.instanceMethod yX12_goneOf ∈ z_good ∧ Cond.selects yX12_goneOf.cls yX12_goneOf yX12_goneOf ∈ z_good := ⟨zw_1323, zw_1324⟩
def m_X12_rootsLike : z_MD := (yX12_rootsLike, cX12_rootsLike, 5, some .int)
theorem w_X12_rootsLike : z_mth m_X12_rootsLike 1 := ⟨zw_1325, zw_1170, by decide +kernel, ⟨by decide +kernel, by decide +kernel, by decide +kernel⟩, by decide +kernel⟩
theorem s_X12_rootsLike : Cond.instanceMethod yX12_rootsLike ∈ z_good ∧ Cond.selects yX12_rootsLike.cls yX12_rootsLike yX12_rootsLike ∈ z_good := ⟨zw_1326, zw_1327⟩
def m_X12_rootOf : z_MD := (yX12_rootOf, cX12_rootOf, 2, some .int)
theorem w_X12_rootOf : z_mth m_X12_rootOf 1 := ⟨zw_1328, zw_1170, by decide +kernel, ⟨by decide +kernel, by decide +kernel, by decide +kernel⟩, by decide +kernel⟩
theorem s_X12_rootOf : Cond.instanceMethod yX12_rootOf ∈ z_good ∧ Cond.selects yX12_rootOf.cls yX12_rootOf yX12_rootOf ∈ z_good := ⟨zw_1329, zw_1330⟩
def m_X12_root : z_MD := (yX12_root, cX12_root, 2, some .int)
theorem w_X12_root : z_mth m_X12_root 1 := ⟨zw_1331, zw_1170, by decide +kernel, ⟨by decide +kernel, by decide +kernel, by decide +kernel⟩, by decide +kernel⟩
theorem s_X12_root : Cond.instanceMethod yX12_root ∈ z_good ∧ Cond.selects yX12_root.cls yX12_root yX12_root ∈ z_good := ⟨zw_1332, zw_1333⟩
def m_X12_entry : z_MD := (yX12_entry, cX12_entry, 4, some .int)
theorem w_X12_entry : z_mth m_X12_entry 3 := ⟨zw_1334, zw_1170, by decide +kernel, ⟨by decide +kernel, by decide +kernel, by decide +kernel⟩, by decide +kernel⟩
theorem s_X12_entry : Cond.instanceMethod yX12_entry ∈ z_good ∧ Cond.selects yX12_entry.cls yX12_entry yX12_entry ∈ z_good := ⟨zw_1335, zw_1336⟩
def m_X12_node : z_MD := (yX12_node, cX12_node, 4, some .int)
theorem w_X12_node : z_mth m_X12_node 3 := ⟨zw_1337, zw_1170, by decide +kernel, ⟨by decide +kernel, by decide +kernel, by decide +kernel⟩, by decide +kernel⟩
theorem s_X12_node : Cond.instanceMethod yX12_node ∈ z_good ∧ Cond.selects yX12_node.cls yX12_node yX12_node ∈ z_good := ⟨zw_1338, zw_1339⟩
def m_X12_bits : z_MD := (yX12_bits, cX12_bits, 3, some .int)
theorem w_X12_bits : z_mth m_X12_bits 1 := ⟨zw_1340, zw_1170, by decide +kernel, ⟨by decide +kernel, by decide +kernel, by decide +kernel⟩, by decide +kernel⟩
theorem s_X12_bits : Cond.static yX12_bits ∈ z_good := zw_1341
def m_X12_now : z_MD := (yX12_now, cX12_now, 4, some .int)
theorem w_X12_now : z_mth m_X12_now 1 := ⟨zw_1342, zw_1170, by decide +kernel, ⟨by decide +kernel, by decide +kernel, by decide +kernel⟩, by decide +kernel⟩
theorem s_X12_now : Cond.instanceMethod yX12_now ∈ z_good ∧ Cond.selects yX12_now.cls yX12_now yX12_now ∈ z_good := ⟨zw_1343, zw_1344⟩
def m_X12_isTorn : z_MD := (yX12_isTorn, cX12_isTorn, 3, some .boolean)
theorem w_X12_isTorn : z_mth m_X12_isTorn 1 := ⟨zw_1345, zw_1170, by decide +kernel, ⟨by decide +kernel, by decide +kernel, by decide +kernel⟩, by decide +kernel⟩
theorem s_X12_isTorn : Cond.instanceMethod yX12_isTorn ∈ z_good ∧ Cond.selects yX12_isTorn.cls yX12_isTorn yX12_isTorn ∈ z_good := ⟨zw_1346, zw_1347⟩
def m_X12_areSame : z_MD := (yX12_areSame, cX12_areSame, 4, some .boolean)
theorem w_X12_areSame : z_mth m_X12_areSame 3 := ⟨zw_1348, zw_1170, by decide +kernel, ⟨by decide +kernel, by decide +kernel, by decide +kernel⟩, by decide +kernel⟩
theorem s_X12_areSame : Cond.instanceMethod yX12_areSame ∈ z_good ∧ Cond.selects yX12_areSame.cls yX12_areSame yX12_areSame ∈ z_good := ⟨zw_1349, zw_1350⟩
def m_X12_rootMany : z_MD := (yX12_rootMany, cX12_rootMany, 3, some .int)
theorem w_X12_rootMany : z_mth m_X12_rootMany 0 := ⟨zw_1351, zw_1170, by decide +kernel, ⟨by decide +kernel, by decide +kernel, by decide +kernel⟩, by decide +kernel⟩
theorem s_X12_rootMany : Cond.instanceMethod yX12_rootMany ∈ z_good ∧ Cond.selects yX12_rootMany.cls yX12_rootMany yX12_rootMany ∈ z_good := ⟨zw_1352, zw_1353⟩
def m_X12_offers : z_MD := (yX12_offers, cX12_offers, 4, some .int)
theorem w_X12_offers : z_mth m_X12_offers 2 := ⟨zw_1354, zw_1170, by decide +kernel, ⟨by decide +kernel, by decide +kernel, by decide +kernel⟩, by decide +kernel⟩
theorem s_X12_offers : Cond.instanceMethod yX12_offers ∈ z_good ∧ Cond.selects yX12_offers.cls yX12_offers yX12_offers ∈ z_good := ⟨zw_1355, zw_1356⟩
def m_X12_areTwo : z_MD := (yX12_areTwo, cX12_areTwo, 3, some .boolean)
theorem w_X12_areTwo : z_mth m_X12_areTwo 2 := ⟨zw_1357, zw_1170, by decide +kernel, ⟨by decide +kernel, by decide +kernel, by decide +kernel⟩, by decide +kernel⟩
theorem s_X12_areTwo : Cond.instanceMethod yX12_areTwo ∈ z_good ∧ Cond.selects yX12_areTwo.cls yX12_areTwo yX12_areTwo ∈ z_good := ⟨zw_1358, zw_1359⟩
def m_X12_layOffers : z_MD := (yX12_layOffers, cX12_layOffers, 7, none)
theorem w_X12_layOffers : z_mth m_X12_layOffers 2 := ⟨zw_1360, zw_1170, by decide +kernel, ⟨by decide +kernel, by decide +kernel, by decide +kernel⟩, by decide +kernel⟩
theorem s_X12_layOffers : Cond.instanceMethod yX12_layOffers ∈ z_good ∧ Cond.selects yX12_layOffers.cls yX12_layOffers yX12_layOffers ∈ z_good := ⟨zw_1361, zw_1362⟩
def m_X12_visitedOf : z_MD := (yX12_visitedOf, cX12_visitedOf, 3, some .int)
theorem w_X12_visitedOf : z_mth m_X12_visitedOf 2 := ⟨zw_1363, zw_1170, by decide +kernel, ⟨by decide +kernel, by decide +kernel, by decide +kernel⟩, by decide +kernel⟩
theorem s_X12_visitedOf : Cond.instanceMethod yX12_visitedOf ∈ z_good ∧ Cond.selects yX12_visitedOf.cls yX12_visitedOf yX12_visitedOf ∈ z_good := ⟨zw_1364, zw_1365⟩
def m_X12_visited : z_MD := (yX12_visited, cX12_visited, 3, some .int)
theorem w_X12_visited : z_mth m_X12_visited 0 := ⟨zw_1366, zw_1170, by decide +kernel, ⟨by decide +kernel, by decide +kernel, by decide +kernel⟩, by decide +kernel⟩
theorem s_X12_visited : Cond.instanceMethod yX12_visited ∈ z_good ∧ Cond.selects yX12_visited.cls yX12_visited yX12_visited ∈ z_good := ⟨zw_1367, zw_1368⟩
def m_X12_isDigest : z_MD := (yX12_isDigest, cX12_isDigest, 4, some .boolean)
theorem w_X12_isDigest : z_mth m_X12_isDigest 2 := ⟨zw_1369, zw_1170, by decide +kernel, ⟨by decide +kernel, by decide +kernel, by decide +kernel⟩, by decide +kernel⟩
theorem s_X12_isDigest : Cond.instanceMethod yX12_isDigest ∈ z_good ∧ Cond.selects yX12_isDigest.cls yX12_isDigest yX12_isDigest ∈ z_good := ⟨zw_1370, zw_1371⟩
def m_X12_isOffer : z_MD := (yX12_isOffer, cX12_isOffer, 4, some .boolean)
theorem w_X12_isOffer : z_mth m_X12_isOffer 3 := ⟨zw_1372, zw_1170, by decide +kernel, ⟨by decide +kernel, by decide +kernel, by decide +kernel⟩, by decide +kernel⟩
theorem s_X12_isOffer : Cond.instanceMethod yX12_isOffer ∈ z_good ∧ Cond.selects yX12_isOffer.cls yX12_isOffer yX12_isOffer ∈ z_good := ⟨zw_1373, zw_1374⟩
def m_X12_wins : z_MD := (yX12_wins, cX12_wins, 7, some .boolean)
theorem w_X12_wins : z_mth m_X12_wins 4 := ⟨zw_1375, zw_1170, by decide +kernel, ⟨by decide +kernel, by decide +kernel, by decide +kernel⟩, by decide +kernel⟩
theorem s_X12_wins : Cond.instanceMethod yX12_wins ∈ z_good ∧ Cond.selects yX12_wins.cls yX12_wins yX12_wins ∈ z_good := ⟨zw_1376, zw_1377⟩
def m_X12_worthLeast : z_MD := (yX12_worthLeast, cX12_worthLeast, 1, some .int)
theorem w_X12_worthLeast : z_mth m_X12_worthLeast 1 := ⟨zw_1378, zw_1170, by decide +kernel, ⟨by decide +kernel, by decide +kernel, by decide +kernel⟩, by decide +kernel⟩
theorem s_X12_worthLeast : Cond.static yX12_worthLeast ∈ z_good := zw_1379
def m_X12_offerAt : z_MD := (yX12_offerAt, cX12_offerAt, 2, some .int)
theorem w_X12_offerAt : z_mth m_X12_offerAt 1 := ⟨zw_1380, zw_1170, by decide +kernel, ⟨by decide +kernel, by decide +kernel, by decide +kernel⟩, by decide +kernel⟩
theorem s_X12_offerAt : Cond.instanceMethod yX12_offerAt ∈ z_good ∧ Cond.selects yX12_offerAt.cls yX12_offerAt yX12_offerAt ∈ z_good := ⟨zw_1381, zw_1382⟩
def m_X12_visits : z_MD := (yX12_visits, cX12_visits, 3, some .int)
theorem w_X12_visits : z_mth m_X12_visits 2 := ⟨zw_1383, zw_1170, by decide +kernel, ⟨by decide +kernel, by decide +kernel, by decide +kernel⟩, by decide +kernel⟩
theorem s_X12_visits : Cond.instanceMethod yX12_visits ∈ z_good ∧ Cond.selects yX12_visits.cls yX12_visits yX12_visits ∈ z_good := ⟨zw_1384, zw_1385⟩
def m_X12_differs : z_MD := (yX12_differs, cX12_differs, 5, some .int)
theorem w_X12_differs : z_mth m_X12_differs 2 := ⟨zw_1386, zw_1170, by decide +kernel, ⟨by decide +kernel, by decide +kernel, by decide +kernel⟩, by decide +kernel⟩
theorem s_X12_differs : Cond.instanceMethod yX12_differs ∈ z_good ∧ Cond.selects yX12_differs.cls yX12_differs yX12_differs ∈ z_good := ⟨zw_1387, zw_1388⟩
def m_X12_put : z_MD := (yX12_put, cX12_put, 4, some .int)
theorem w_X12_put : z_mth m_X12_put 3 := ⟨zw_1389, zw_1170, by decide +kernel, ⟨by decide +kernel, by decide +kernel, by decide +kernel⟩, by decide +kernel⟩
theorem s_X12_put : Cond.instanceMethod yX12_put ∈ z_good ∧ Cond.selects yX12_put.cls yX12_put yX12_put ∈ z_good := ⟨zw_1390, zw_1391⟩
def m_X12_act : z_MD := (yX12_act, cX12_act, 7, some .int)
theorem w_X12_act : z_mth m_X12_act 5 := ⟨zw_1392, zw_1170, by decide +kernel, ⟨by decide +kernel, by decide +kernel, by decide +kernel⟩, by decide +kernel⟩
theorem s_X12_act : Cond.instanceMethod yX12_act ∈ z_good ∧ Cond.selects yX12_act.cls yX12_act yX12_act ∈ z_good := ⟨zw_1393, zw_1394⟩
def m_X12_why : z_MD := (yX12_why, cX12_why, 5, some .int)
theorem w_X12_why : z_mth m_X12_why 4 := ⟨zw_1395, zw_1170, by decide +kernel, ⟨by decide +kernel, by decide +kernel, by decide +kernel⟩, by decide +kernel⟩
theorem s_X12_why : Cond.instanceMethod yX12_why ∈ z_good ∧ Cond.selects yX12_why.cls yX12_why yX12_why ∈ z_good := ⟨zw_1396, zw_1397⟩
def m_X12_whyPull : z_MD := (yX12_whyPull, cX12_whyPull, 3, some .int)
theorem w_X12_whyPull : z_mth m_X12_whyPull 2 := ⟨zw_1398, zw_1170, by decide +kernel, ⟨by decide +kernel, by decide +kernel, by decide +kernel⟩, by decide +kernel⟩
theorem s_X12_whyPull : Cond.instanceMethod yX12_whyPull ∈ z_good ∧ Cond.selects yX12_whyPull.cls yX12_whyPull yX12_whyPull ∈ z_good := ⟨zw_1399, zw_1400⟩
def m_X12_areCut : z_MD := (yX12_areCut, cX12_areCut, 3, some .boolean)
theorem w_X12_areCut : z_mth m_X12_areCut 2 := ⟨zw_1401, zw_1170, by decide +kernel, ⟨by decide +kernel, by decide +kernel, by decide +kernel⟩, by decide +kernel⟩
theorem s_X12_areCut : Cond.instanceMethod yX12_areCut ∈ z_good ∧ Cond.selects yX12_areCut.cls yX12_areCut yX12_areCut ∈ z_good := ⟨zw_1402, zw_1403⟩
def m_X12_snap : z_MD := (yX12_snap, cX12_snap, 2, none)
theorem w_X12_snap : z_mth m_X12_snap 0 := ⟨zw_1404, zw_1170, by decide +kernel, ⟨by decide +kernel, by decide +kernel, by decide +kernel⟩, by decide +kernel⟩
theorem s_X12_snap : Cond.instanceMethod yX12_snap ∈ z_good ∧ Cond.selects yX12_snap.cls yX12_snap yX12_snap ∈ z_good := ⟨zw_1405, zw_1406⟩
def m_X12_save : z_MD := (yX12_save, cX12_save, 4, none)
theorem w_X12_save : z_mth m_X12_save 2 := ⟨zw_1407, zw_1170, by decide +kernel, ⟨by decide +kernel, by decide +kernel, by decide +kernel⟩, by decide +kernel⟩
theorem s_X12_save : Cond.instanceMethod yX12_save ∈ z_good ∧ Cond.selects yX12_save.cls yX12_save yX12_save ∈ z_good := ⟨zw_1408, zw_1409⟩
def m_X12_live : z_MD := (yX12_live, cX12_live, 5, none)
theorem w_X12_live : z_mth m_X12_live 4 := ⟨zw_1410, zw_1170, by decide +kernel, ⟨by decide +kernel, by decide +kernel, by decide +kernel⟩, by decide +kernel⟩
theorem s_X12_live : Cond.instanceMethod yX12_live ∈ z_good ∧ Cond.selects yX12_live.cls yX12_live yX12_live ∈ z_good := ⟨zw_1411, zw_1412⟩
def m_X12_write : z_MD := (yX12_write, cX12_write, 4, none)
theorem w_X12_write : z_mth m_X12_write 3 := ⟨zw_1413, zw_1170, by decide +kernel, ⟨by decide +kernel, by decide +kernel, by decide +kernel⟩, by decide +kernel⟩
theorem s_X12_write : Cond.instanceMethod yX12_write ∈ z_good ∧ Cond.selects yX12_write.cls yX12_write yX12_write ∈ z_good := ⟨zw_1414, zw_1415⟩
def m_X12_comesOver : z_MD := (yX12_comesOver, cX12_comesOver, 5, none)
theorem w_X12_comesOver : z_mth m_X12_comesOver 2 := ⟨zw_1416, zw_1170, by decide +kernel, ⟨by decide +kernel, by decide +kernel, by decide +kernel⟩, by decide +kernel⟩
theorem s_X12_comesOver : Cond.instanceMethod yX12_comesOver ∈ z_good ∧ Cond.selects yX12_comesOver.cls yX12_comesOver yX12_comesOver ∈ z_good := ⟨zw_1417, zw_1418⟩
def m_X12_least : z_MD := (yX12_least, cX12_least, 2, some .int)
theorem w_X12_least : z_mth m_X12_least 2 := ⟨zw_1419, zw_1170, by decide +kernel, ⟨by decide +kernel, by decide +kernel, by decide +kernel⟩, by decide +kernel⟩
theorem s_X12_least : Cond.static yX12_least ∈ z_good := zw_1420
def m_X12_drop : z_MD := (yX12_drop, cX12_drop, 3, some .int)
theorem w_X12_drop : z_mth m_X12_drop 2 := ⟨zw_1421, zw_1170, by decide +kernel, ⟨by decide +kernel, by decide +kernel, by decide +kernel⟩, by decide +kernel⟩
theorem s_X12_drop : Cond.instanceMethod yX12_drop ∈ z_good ∧ Cond.selects yX12_drop.cls yX12_drop yX12_drop ∈ z_good := ⟨zw_1422, zw_1423⟩
def m_X12_pull : z_MD := (yX12_pull, cX12_pull, 3, some .int)
theorem w_X12_pull : z_mth m_X12_pull 2 := ⟨zw_1424, zw_1170, by decide +kernel, ⟨by decide +kernel, by decide +kernel, by decide +kernel⟩, by decide +kernel⟩
theorem s_X12_pull : Cond.instanceMethod yX12_pull ∈ z_good ∧ Cond.selects yX12_pull.cls yX12_pull yX12_pull ∈ z_good := ⟨zw_1425, zw_1426⟩
def m_X12_cut : z_MD := (yX12_cut, cX12_cut, 3, some .int)
theorem w_X12_cut : z_mth m_X12_cut 2 := ⟨zw_1427, zw_1170, by decide +kernel, ⟨by decide +kernel, by decide +kernel, by decide +kernel⟩, by decide +kernel⟩
theorem s_X12_cut : Cond.instanceMethod yX12_cut ∈ z_good ∧ Cond.selects yX12_cut.cls yX12_cut yX12_cut ∈ z_good := ⟨zw_1428, zw_1429⟩
def m_X12_heal : z_MD := (yX12_heal, cX12_heal, 3, some .int)
theorem w_X12_heal : z_mth m_X12_heal 2 := ⟨zw_1430, zw_1170, by decide +kernel, ⟨by decide +kernel, by decide +kernel, by decide +kernel⟩, by decide +kernel⟩
theorem s_X12_heal : Cond.instanceMethod yX12_heal ∈ z_good ∧ Cond.selects yX12_heal.cls yX12_heal yX12_heal ∈ z_good := ⟨zw_1431, zw_1432⟩
def m_X12_undo : z_MD := (yX12_undo, cX12_undo, 1, some .int)
theorem w_X12_undo : z_mth m_X12_undo 0 := ⟨zw_1433, zw_1170, by decide +kernel, ⟨by decide +kernel, by decide +kernel, by decide +kernel⟩, by decide +kernel⟩
theorem s_X12_undo : Cond.instanceMethod yX12_undo ∈ z_good ∧ Cond.selects yX12_undo.cls yX12_undo yX12_undo ∈ z_good := ⟨zw_1434, zw_1435⟩
def m_X12_comeBack : z_MD := (yX12_comeBack, cX12_comeBack, 4, none)
theorem w_X12_comeBack : z_mth m_X12_comeBack 2 := ⟨zw_1436, zw_1170, by decide +kernel, ⟨by decide +kernel, by decide +kernel, by decide +kernel⟩, by decide +kernel⟩
theorem s_X12_comeBack : Cond.instanceMethod yX12_comeBack ∈ z_good ∧ Cond.selects yX12_comeBack.cls yX12_comeBack yX12_comeBack ∈ z_good := ⟨zw_1437, zw_1438⟩
def m_X12_fresh : z_MD := (yX12_fresh, cX12_fresh, 8, some .int)
theorem w_X12_fresh : z_mth m_X12_fresh 3 := ⟨zw_1439, zw_1170, by decide +kernel, ⟨by decide +kernel, by decide +kernel, by decide +kernel⟩, by decide +kernel⟩
theorem s_X12_fresh : Cond.instanceMethod yX12_fresh ∈ z_good ∧ Cond.selects yX12_fresh.cls yX12_fresh yX12_fresh ∈ z_good := ⟨zw_1440, zw_1441⟩
def m_X12_pulls : z_MD := (yX12_pulls, cX12_pulls, 5, some .int)
theorem w_X12_pulls : z_mth m_X12_pulls 2 := ⟨zw_1442, zw_1170, by decide +kernel, ⟨by decide +kernel, by decide +kernel, by decide +kernel⟩, by decide +kernel⟩
theorem s_X12_pulls : Cond.instanceMethod yX12_pulls ∈ z_good ∧ Cond.selects yX12_pulls.cls yX12_pulls yX12_pulls ∈ z_good := ⟨zw_1443, zw_1444⟩
def m_X12_path : z_MD := (yX12_path, cX12_path, 3, some .int)
theorem w_X12_path : z_mth m_X12_path 2 := ⟨zw_1445, zw_1170, by decide +kernel, ⟨by decide +kernel, by decide +kernel, by decide +kernel⟩, by decide +kernel⟩
theorem s_X12_path : Cond.instanceMethod yX12_path ∈ z_good ∧ Cond.selects yX12_path.cls yX12_path yX12_path ∈ z_good := ⟨zw_1446, zw_1447⟩
def m_X12_mean : z_MD := (yX12_mean, cX12_mean, 3, some .int)
theorem w_X12_mean : z_mth m_X12_mean 2 := ⟨zw_1448, zw_1170, by decide +kernel, ⟨by decide +kernel, by decide +kernel, by decide +kernel⟩, by decide +kernel⟩
theorem s_X12_mean : Cond.instanceMethod yX12_mean ∈ z_good ∧ Cond.selects yX12_mean.cls yX12_mean yX12_mean ∈ z_good := ⟨zw_1449, zw_1450⟩
def m_X12_fraction : z_MD := (yX12_fraction, cX12_fraction, 4, some .int)
theorem w_X12_fraction : z_mth m_X12_fraction 3 := ⟨zw_1451, zw_1170, by decide +kernel, ⟨by decide +kernel, by decide +kernel, by decide +kernel⟩, by decide +kernel⟩
theorem s_X12_fraction : Cond.instanceMethod yX12_fraction ∈ z_good ∧ Cond.selects yX12_fraction.cls yX12_fraction yX12_fraction ∈ z_good := ⟨zw_1452, zw_1453⟩
def m_X12_common : z_MD := (yX12_common, cX12_common, 5, some .int)
theorem w_X12_common : z_mth m_X12_common 2 := ⟨zw_1454, zw_1170, by decide +kernel, ⟨by decide +kernel, by decide +kernel, by decide +kernel⟩, by decide +kernel⟩
theorem s_X12_common : Cond.static yX12_common ∈ z_good := zw_1455
def m_X12_part : z_MD := (yX12_part, cX12_part, 5, some .int)
theorem w_X12_part : z_mth m_X12_part 3 := ⟨zw_1456, zw_1170, by decide +kernel, ⟨by decide +kernel, by decide +kernel, by decide +kernel⟩, by decide +kernel⟩
theorem s_X12_part : Cond.instanceMethod yX12_part ∈ z_good ∧ Cond.selects yX12_part.cls yX12_part yX12_part ∈ z_good := ⟨zw_1457, zw_1458⟩
def m_X12_tag : z_MD := (yX12_tag, cX12_tag, 3, some .int)
theorem w_X12_tag : z_mth m_X12_tag 1 := ⟨zw_1459, zw_1170, by decide +kernel, ⟨by decide +kernel, by decide +kernel, by decide +kernel⟩, by decide +kernel⟩
theorem s_X12_tag : Cond.instanceMethod yX12_tag ∈ z_good ∧ Cond.selects yX12_tag.cls yX12_tag yX12_tag ∈ z_good := ⟨zw_1460, zw_1461⟩
def m_X12_sayWord : z_MD := (yX12_sayWord, cX12_sayWord, 3, none)
theorem w_X12_sayWord : z_mth m_X12_sayWord 1 := ⟨zw_1462, zw_1170, by decide +kernel, ⟨by decide +kernel, by decide +kernel, by decide +kernel⟩, by decide +kernel⟩
theorem s_X12_sayWord : Cond.instanceMethod yX12_sayWord ∈ z_good ∧ Cond.selects yX12_sayWord.cls yX12_sayWord yX12_sayWord ∈ z_good := ⟨zw_1463, zw_1464⟩
def m_X12_say : z_MD := (yX12_say, cX12_say, 2, none)
theorem w_X12_say : z_mth m_X12_say 1 := ⟨zw_1465, zw_1170, by decide +kernel, ⟨by decide +kernel, by decide +kernel, by decide +kernel⟩, by decide +kernel⟩
theorem s_X12_say : Cond.instanceMethod yX12_say ∈ z_good ∧ Cond.selects yX12_say.cls yX12_say yX12_say ∈ z_good := ⟨zw_1466, zw_1467⟩
def m_X12_sayNext : z_MD := (yX12_sayNext, cX12_sayNext, 3, none)
theorem w_X12_sayNext : z_mth m_X12_sayNext 1 := ⟨zw_1468, zw_1170, by decide +kernel, ⟨by decide +kernel, by decide +kernel, by decide +kernel⟩, by decide +kernel⟩
theorem s_X12_sayNext : Cond.instanceMethod yX12_sayNext ∈ z_good ∧ Cond.selects yX12_sayNext.cls yX12_sayNext yX12_sayNext ∈ z_good := ⟨zw_1469, zw_1470⟩
def m_X12_sayNumber : z_MD := (yX12_sayNumber, cX12_sayNumber, 2, none)
theorem w_X12_sayNumber : z_mth m_X12_sayNumber 1 := ⟨zw_1471, zw_1170, by decide +kernel, ⟨by decide +kernel, by decide +kernel, by decide +kernel⟩, by decide +kernel⟩
theorem s_X12_sayNumber : Cond.instanceMethod yX12_sayNumber ∈ z_good ∧ Cond.selects yX12_sayNumber.cls yX12_sayNumber yX12_sayNumber ∈ z_good := ⟨zw_1472, zw_1473⟩
def m_X12_byteAt : z_MD := (yX12_byteAt, cX12_byteAt, 2, some .int)
theorem w_X12_byteAt : z_mth m_X12_byteAt 1 := ⟨zw_1474, zw_1170, by decide +kernel, ⟨by decide +kernel, by decide +kernel, by decide +kernel⟩, by decide +kernel⟩
theorem s_X12_byteAt : Cond.instanceMethod yX12_byteAt ∈ z_good ∧ Cond.selects yX12_byteAt.cls yX12_byteAt yX12_byteAt ∈ z_good := ⟨zw_1475, zw_1476⟩
def m_X12_drawn : z_MD := (yX12_drawn, cX12_drawn, 4, some .int)
theorem w_X12_drawn : z_mth m_X12_drawn 2 := ⟨zw_1477, zw_1170, by decide +kernel, ⟨by decide +kernel, by decide +kernel, by decide +kernel⟩, by decide +kernel⟩
theorem s_X12_drawn : Cond.instanceMethod yX12_drawn ∈ z_good ∧ Cond.selects yX12_drawn.cls yX12_drawn yX12_drawn ∈ z_good := ⟨zw_1478, zw_1479⟩
def m_X12_isBare : z_MD := (yX12_isBare, cX12_isBare, 1, some .boolean)
theorem w_X12_isBare : z_mth m_X12_isBare 0 := ⟨zw_1480, zw_1170, by decide +kernel, ⟨by decide +kernel, by decide +kernel, by decide +kernel⟩, by decide +kernel⟩
theorem s_X12_isBare : Cond.instanceMethod yX12_isBare ∈ z_good ∧ Cond.selects yX12_isBare.cls yX12_isBare yX12_isBare ∈ z_good := ⟨zw_1481, zw_1482⟩
def m_X12_drawRounds : z_MD := (yX12_drawRounds, cX12_drawRounds, 4, none)
theorem w_X12_drawRounds : z_mth m_X12_drawRounds 2 := ⟨zw_1483, zw_1170, by decide +kernel, ⟨by decide +kernel, by decide +kernel, by decide +kernel⟩, by decide +kernel⟩
theorem s_X12_drawRounds : Cond.instanceMethod yX12_drawRounds ∈ z_good ∧ Cond.selects yX12_drawRounds.cls yX12_drawRounds yX12_drawRounds ∈ z_good := ⟨zw_1484, zw_1485⟩
def m_X12_drawsRound : z_MD := (yX12_drawsRound, cX12_drawsRound, 4, none)
theorem w_X12_drawsRound : z_mth m_X12_drawsRound 0 := ⟨zw_1486, zw_1170, by decide +kernel, ⟨by decide +kernel, by decide +kernel, by decide +kernel⟩, by decide +kernel⟩
theorem s_X12_drawsRound : Cond.instanceMethod yX12_drawsRound ∈ z_good ∧ Cond.selects yX12_drawsRound.cls yX12_drawsRound yX12_drawsRound ∈ z_good := ⟨zw_1487, zw_1488⟩
def m_X12_draw : z_MD := (yX12_draw, cX12_draw, 2, some .int)
theorem w_X12_draw : z_mth m_X12_draw 1 := ⟨zw_1489, zw_1170, by decide +kernel, ⟨by decide +kernel, by decide +kernel, by decide +kernel⟩, by decide +kernel⟩
theorem s_X12_draw : Cond.instanceMethod yX12_draw ∈ z_good ∧ Cond.selects yX12_draw.cls yX12_draw yX12_draw ∈ z_good := ⟨zw_1490, zw_1491⟩
def m_X12_doIf : z_MD := (yX12_doIf, cX12_doIf, 6, none)
theorem w_X12_doIf : z_mth m_X12_doIf 4 := ⟨zw_1492, zw_1170, by decide +kernel, ⟨by decide +kernel, by decide +kernel, by decide +kernel⟩, by decide +kernel⟩
theorem s_X12_doIf : Cond.instanceMethod yX12_doIf ∈ z_good ∧ Cond.selects yX12_doIf.cls yX12_doIf yX12_doIf ∈ z_good := ⟨zw_1493, zw_1494⟩
def m_X12_refused : z_MD := (yX12_refused, cX12_refused, 2, some .int)
theorem w_X12_refused : z_mth m_X12_refused 1 := ⟨zw_1495, zw_1170, by decide +kernel, ⟨by decide +kernel, by decide +kernel, by decide +kernel⟩, by decide +kernel⟩
theorem s_X12_refused : Cond.instanceMethod yX12_refused ∈ z_good ∧ Cond.selects yX12_refused.cls yX12_refused yX12_refused ∈ z_good := ⟨zw_1496, zw_1497⟩
def m_X12_odds : z_MD := (yX12_odds, cX12_odds, 5, some .int)
theorem w_X12_odds : z_mth m_X12_odds 2 := ⟨zw_1498, zw_1170, by decide +kernel, ⟨by decide +kernel, by decide +kernel, by decide +kernel⟩, by decide +kernel⟩
theorem s_X12_odds : Cond.instanceMethod yX12_odds ∈ z_good ∧ Cond.selects yX12_odds.cls yX12_odds yX12_odds ∈ z_good := ⟨zw_1499, zw_1500⟩
def m_X12_book : z_MD := (yX12_book, cX12_book, 4, some .int)
theorem w_X12_book : z_mth m_X12_book 1 := ⟨zw_1501, zw_1170, by decide +kernel, ⟨by decide +kernel, by decide +kernel, by decide +kernel⟩, by decide +kernel⟩
theorem s_X12_book : Cond.instanceMethod yX12_book ∈ z_good ∧ Cond.selects yX12_book.cls yX12_book yX12_book ∈ z_good := ⟨zw_1502, zw_1503⟩
def m_X12_readBookLine : z_MD := (yX12_readBookLine, cX12_readBookLine, 3, some .boolean)
theorem w_X12_readBookLine : z_mth m_X12_readBookLine 0 := ⟨zw_1504, zw_1170, by decide +kernel, ⟨by decide +kernel, by decide +kernel, by decide +kernel⟩, by decide +kernel⟩
theorem s_X12_readBookLine : Cond.instanceMethod yX12_readBookLine ∈ z_good ∧ Cond.selects yX12_readBookLine.cls yX12_readBookLine yX12_readBookLine ∈ z_good := ⟨zw_1505, zw_1506⟩
def m_X12_readPeerName : z_MD := (yX12_readPeerName, cX12_readPeerName, 1, some .boolean)
theorem w_X12_readPeerName : z_mth m_X12_readPeerName 0 := ⟨zw_1507, zw_1170, by decide +kernel, ⟨by decide +kernel, by decide +kernel, by decide +kernel⟩, by decide +kernel⟩
theorem s_X12_readPeerName : Cond.instanceMethod yX12_readPeerName ∈ z_good ∧ Cond.selects yX12_readPeerName.cls yX12_readPeerName yX12_readPeerName ∈ z_good := ⟨zw_1508, zw_1509⟩
def m_X12_readNamed : z_MD := (yX12_readNamed, cX12_readNamed, 3, some .boolean)
theorem w_X12_readNamed : z_mth m_X12_readNamed 2 := ⟨zw_1510, zw_1170, by decide +kernel, ⟨by decide +kernel, by decide +kernel, by decide +kernel⟩, by decide +kernel⟩
theorem s_X12_readNamed : Cond.instanceMethod yX12_readNamed ∈ z_good ∧ Cond.selects yX12_readNamed.cls yX12_readNamed yX12_readNamed ∈ z_good := ⟨zw_1511, zw_1512⟩
def m_X12_keep : z_MD := (yX12_keep, cX12_keep, 3, some .boolean)
theorem w_X12_keep : z_mth m_X12_keep 2 := ⟨zw_1513, zw_1170, by decide +kernel, ⟨by decide +kernel, by decide +kernel, by decide +kernel⟩, by decide +kernel⟩
theorem s_X12_keep : Cond.instanceMethod yX12_keep ∈ z_good ∧ Cond.selects yX12_keep.cls yX12_keep yX12_keep ∈ z_good := ⟨zw_1514, zw_1515⟩
def m_X12_readOther : z_MD := (yX12_readOther, cX12_readOther, 2, some .boolean)
theorem w_X12_readOther : z_mth m_X12_readOther 1 := ⟨zw_1516, zw_1170, by decide +kernel, ⟨by decide +kernel, by decide +kernel, by decide +kernel⟩, by decide +kernel⟩
theorem s_X12_readOther : Cond.instanceMethod yX12_readOther ∈ z_good ∧ Cond.selects yX12_readOther.cls yX12_readOther yX12_readOther ∈ z_good := ⟨zw_1517, zw_1518⟩
def m_X12_goBy : z_MD := (yX12_goBy, cX12_goBy, 4, some .int)
theorem w_X12_goBy : z_mth m_X12_goBy 1 := ⟨zw_1519, zw_1170, by decide +kernel, ⟨by decide +kernel, by decide +kernel, by decide +kernel⟩, by decide +kernel⟩
theorem s_X12_goBy : Cond.instanceMethod yX12_goBy ∈ z_good ∧ Cond.selects yX12_goBy.cls yX12_goBy yX12_goBy ∈ z_good := ⟨zw_1520, zw_1521⟩
def m_X12_stay : z_MD := (yX12_stay, cX12_stay, 2, none)
theorem w_X12_stay : z_mth m_X12_stay 1 := ⟨zw_1522, zw_1170, by decide +kernel, ⟨by decide +kernel, by decide +kernel, by decide +kernel⟩, by decide +kernel⟩
theorem s_X12_stay : Cond.instanceMethod yX12_stay ∈ z_good ∧ Cond.selects yX12_stay.cls yX12_stay yX12_stay ∈ z_good := ⟨zw_1523, zw_1524⟩
def m_X12_told : z_MD := (yX12_told, cX12_told, 2, some .int)
theorem w_X12_told : z_mth m_X12_told 1 := ⟨zw_1525, zw_1170, by decide +kernel, ⟨by decide +kernel, by decide +kernel, by decide +kernel⟩, by decide +kernel⟩
theorem s_X12_told : Cond.instanceMethod yX12_told ∈ z_good ∧ Cond.selects yX12_told.cls yX12_told yX12_told ∈ z_good := ⟨zw_1526, zw_1527⟩
def m_X12_sentence : z_MD := (yX12_sentence, cX12_sentence, 2, some .int)
theorem w_X12_sentence : z_mth m_X12_sentence 0 := ⟨zw_1528, zw_1170, by decide +kernel, ⟨by decide +kernel, by decide +kernel, by decide +kernel⟩, by decide +kernel⟩
theorem s_X12_sentence : Cond.instanceMethod yX12_sentence ∈ z_good ∧ Cond.selects yX12_sentence.cls yX12_sentence yX12_sentence ∈ z_good := ⟨zw_1529, zw_1530⟩
def m_X12_readOr : z_MD := (yX12_readOr, cX12_readOr, 2, some .boolean)
theorem w_X12_readOr : z_mth m_X12_readOr 0 := ⟨zw_1531, zw_1170, by decide +kernel, ⟨by decide +kernel, by decide +kernel, by decide +kernel⟩, by decide +kernel⟩
theorem s_X12_readOr : Cond.instanceMethod yX12_readOr ∈ z_good ∧ Cond.selects yX12_readOr.cls yX12_readOr yX12_readOr ∈ z_good := ⟨zw_1532, zw_1533⟩
def m_X12_readAnd : z_MD := (yX12_readAnd, cX12_readAnd, 2, some .boolean)
theorem w_X12_readAnd : z_mth m_X12_readAnd 0 := ⟨zw_1534, zw_1170, by decide +kernel, ⟨by decide +kernel, by decide +kernel, by decide +kernel⟩, by decide +kernel⟩
theorem s_X12_readAnd : Cond.instanceMethod yX12_readAnd ∈ z_good ∧ Cond.selects yX12_readAnd.cls yX12_readAnd yX12_readAnd ∈ z_good := ⟨zw_1535, zw_1536⟩
def m_X12_readSaid : z_MD := (yX12_readSaid, cX12_readSaid, 4, some .boolean)
theorem w_X12_readSaid : z_mth m_X12_readSaid 0 := ⟨zw_1537, zw_1170, by decide +kernel, ⟨by decide +kernel, by decide +kernel, by decide +kernel⟩, by decide +kernel⟩
theorem s_X12_readSaid : Cond.instanceMethod yX12_readSaid ∈ z_good ∧ Cond.selects yX12_readSaid.cls yX12_readSaid yX12_readSaid ∈ z_good := ⟨zw_1538, zw_1539⟩
def m_X12_readBracket : z_MD := (yX12_readBracket, cX12_readBracket, 1, some .boolean)
theorem w_X12_readBracket : z_mth m_X12_readBracket 0 := ⟨zw_1540, zw_1170, by decide +kernel, ⟨by decide +kernel, by decide +kernel, by decide +kernel⟩, by decide +kernel⟩
theorem s_X12_readBracket : Cond.instanceMethod yX12_readBracket ∈ z_good ∧ Cond.selects yX12_readBracket.cls yX12_readBracket yX12_readBracket ∈ z_good := ⟨zw_1541, zw_1542⟩
def m_X12_readNot : z_MD := (yX12_readNot, cX12_readNot, 1, some .boolean)
theorem w_X12_readNot : z_mth m_X12_readNot 0 := ⟨zw_1543, zw_1170, by decide +kernel, ⟨by decide +kernel, by decide +kernel, by decide +kernel⟩, by decide +kernel⟩
theorem s_X12_readNot : Cond.instanceMethod yX12_readNot ∈ z_good ∧ Cond.selects yX12_readNot.cls yX12_readNot yX12_readNot ∈ z_good := ⟨zw_1544, zw_1545⟩
def m_X12_saysOne : z_MD := (yX12_saysOne, cX12_saysOne, 6, some .int)
theorem w_X12_saysOne : z_mth m_X12_saysOne 4 := ⟨zw_1546, zw_1170, by decide +kernel, ⟨by decide +kernel, by decide +kernel, by decide +kernel⟩, by decide +kernel⟩
theorem s_X12_saysOne : Cond.instanceMethod yX12_saysOne ∈ z_good ∧ Cond.selects yX12_saysOne.cls yX12_saysOne yX12_saysOne ∈ z_good := ⟨zw_1547, zw_1548⟩
def m_X12_readOf : z_MD := (yX12_readOf, cX12_readOf, 2, some .boolean)
theorem w_X12_readOf : z_mth m_X12_readOf 1 := ⟨zw_1549, zw_1170, by decide +kernel, ⟨by decide +kernel, by decide +kernel, by decide +kernel⟩, by decide +kernel⟩
theorem s_X12_readOf : Cond.instanceMethod yX12_readOf ∈ z_good ∧ Cond.selects yX12_readOf.cls yX12_readOf yX12_readOf ∈ z_good := ⟨zw_1550, zw_1551⟩
def m_X12_readCompare : z_MD := (yX12_readCompare, cX12_readCompare, 3, some .boolean)
theorem w_X12_readCompare : z_mth m_X12_readCompare 1 := ⟨zw_1552, zw_1170, by decide +kernel, ⟨by decide +kernel, by decide +kernel, by decide +kernel⟩, by decide +kernel⟩
theorem s_X12_readCompare : Cond.instanceMethod yX12_readCompare ∈ z_good ∧ Cond.selects yX12_readCompare.cls yX12_readCompare yX12_readCompare ∈ z_good := ⟨zw_1553, zw_1554⟩
def m_X12_said : z_MD := (yX12_said, cX12_said, 4, some .int)
theorem w_X12_said : z_mth m_X12_said 1 := ⟨zw_1555, zw_1170, by decide +kernel, ⟨by decide +kernel, by decide +kernel, by decide +kernel⟩, by decide +kernel⟩
theorem s_X12_said : Cond.instanceMethod yX12_said ∈ z_good ∧ Cond.selects yX12_said.cls yX12_said yX12_said ∈ z_good := ⟨zw_1556, zw_1557⟩
def m_X12_holds : z_MD := (yX12_holds, cX12_holds, 8, some .boolean)
theorem w_X12_holds : z_mth m_X12_holds 2 := ⟨zw_1558, zw_1170, by decide +kernel, ⟨by decide +kernel, by decide +kernel, by decide +kernel⟩, by decide +kernel⟩
theorem s_X12_holds : Cond.instanceMethod yX12_holds ∈ z_good ∧ Cond.selects yX12_holds.cls yX12_holds yX12_holds ∈ z_good := ⟨zw_1559, zw_1560⟩
def m_X12_copiesOf : z_MD := (yX12_copiesOf, cX12_copiesOf, 4, some .int)
theorem w_X12_copiesOf : z_mth m_X12_copiesOf 1 := ⟨zw_1561, zw_1170, by decide +kernel, ⟨by decide +kernel, by decide +kernel, by decide +kernel⟩, by decide +kernel⟩
theorem s_X12_copiesOf : Cond.instanceMethod yX12_copiesOf ∈ z_good ∧ Cond.selects yX12_copiesOf.cls yX12_copiesOf yX12_copiesOf ∈ z_good := ⟨zw_1562, zw_1563⟩
def m_X12_latestOf : z_MD := (yX12_latestOf, cX12_latestOf, 4, some .int)
theorem w_X12_latestOf : z_mth m_X12_latestOf 1 := ⟨zw_1564, zw_1170, by decide +kernel, ⟨by decide +kernel, by decide +kernel, by decide +kernel⟩, by decide +kernel⟩
theorem s_X12_latestOf : Cond.instanceMethod yX12_latestOf ∈ z_good ∧ Cond.selects yX12_latestOf.cls yX12_latestOf yX12_latestOf ∈ z_good := ⟨zw_1565, zw_1566⟩
def m_X12_image : z_MD := (yX12_image, cX12_image, 3, some .boolean)
theorem w_X12_image : z_mth m_X12_image 1 := ⟨zw_1567, zw_1170, by decide +kernel, ⟨by decide +kernel, by decide +kernel, by decide +kernel⟩, by decide +kernel⟩
theorem s_X12_image : Cond.instanceMethod yX12_image ∈ z_good ∧ Cond.selects yX12_image.cls yX12_image yX12_image ∈ z_good := ⟨zw_1568, zw_1569⟩
def m_X12_restore : z_MD := (yX12_restore, cX12_restore, 3, some .boolean)
theorem w_X12_restore : z_mth m_X12_restore 1 := ⟨zw_1570, zw_1170, by decide +kernel, ⟨by decide +kernel, by decide +kernel, by decide +kernel⟩, by decide +kernel⟩
theorem s_X12_restore : Cond.instanceMethod yX12_restore ∈ z_good ∧ Cond.selects yX12_restore.cls yX12_restore yX12_restore ∈ z_good := ⟨zw_1571, zw_1572⟩
def m_X12_count : z_MD := (yX12_count, cX12_count, 2, some .int)
theorem w_X12_count : z_mth m_X12_count 1 := ⟨zw_1573, zw_1170, by decide +kernel, ⟨by decide +kernel, by decide +kernel, by decide +kernel⟩, by decide +kernel⟩
theorem s_X12_count : Cond.instanceMethod yX12_count ∈ z_good ∧ Cond.selects yX12_count.cls yX12_count yX12_count ∈ z_good := ⟨zw_1574, zw_1575⟩
