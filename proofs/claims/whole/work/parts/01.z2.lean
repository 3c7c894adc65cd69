theorem dX11_faultOf_68 : decode cX11_faultOf 68 = .ok (.istore_n 2, 1) := by decide +kernel
theorem dX11_faultOf_69 : decode cX11_faultOf 69 = .ok (.iload_n 1, 1) := by decide +kernel
theorem dX11_faultOf_70 : decode cX11_faultOf 70 = .ok (.iload_n 2, 1) := by decide +kernel
theorem dX11_faultOf_71 : decode cX11_faultOf 71 = .ok (.ifCond .eq 7, 3) := by decide +kernel
theorem dX11_faultOf_74 : decode cX11_faultOf 74 = .ok (.iconst 1, 1) := by decide +kernel
theorem dX11_faultOf_75 : decode cX11_faultOf 75 = .ok (.goto 4, 3) := by decide +kernel
theorem dX11_faultOf_78 : decode cX11_faultOf 78 = .ok (.iconst 0, 1) := by decide +kernel
theorem dX11_faultOf_79 : decode cX11_faultOf 79 = .ok (.iadd, 1) := by decide +kernel
theorem dX11_faultOf_80 : decode cX11_faultOf 80 = .ok (.istore_n 1, 1) := by decide +kernel
theorem dX11_faultOf_81 : decode cX11_faultOf 81 = .ok (.goto (-77), 3) := by decide +kernel
theorem dX11_faultOf_84 : decode cX11_faultOf 84 = .ok (.iload_n 1, 1) := by decide +kernel
theorem dX11_faultOf_85 : decode cX11_faultOf 85 = .ok (.ireturn, 1) := by decide +kernel
theorem dX11_fault_0 : decode cX11_fault 0 = .ok (.aload_n 0, 1) := by decide +kernel
theorem dX11_fault_1 : decode cX11_fault 1 = .ok (.invokevirtual 101, 3) := by decide +kernel
theorem dX11_fault_4 : decode cX11_fault 4 = .ok (.ireturn, 1) := by decide +kernel
theorem dX11_city_0 : decode cX11_city 0 = .ok (.aload_n 0, 1) := by decide +kernel
theorem dX11_city_1 : decode cX11_city 1 = .ok (.getfield 77, 3) := by decide +kernel
theorem dX11_city_4 : decode cX11_city 4 = .ok (.bipush 11, 2) := by decide +kernel
theorem dX11_city_6 : decode cX11_city 6 = .ok (.if_icmp .lt 24, 3) := by decide +kernel
theorem dX11_city_9 : decode cX11_city 9 = .ok (.aload_n 0, 1) := by decide +kernel
theorem dX11_city_10 : decode cX11_city 10 = .ok (.getfield 77, 3) := by decide +kernel
theorem dX11_city_13 : decode cX11_city 13 = .ok (.iconst 5, 1) := by decide +kernel
theorem dX11_city_14 : decode cX11_city 14 = .ok (.irem, 1) := by decide +kernel
theorem dX11_city_15 : decode cX11_city 15 = .ok (.iconst 1, 1) := by decide +kernel
theorem dX11_city_16 : decode cX11_city 16 = .ok (.if_icmp .ne 14, 3) := by decide +kernel
theorem dX11_city_19 : decode cX11_city 19 = .ok (.aload_n 0, 1) := by decide +kernel
theorem dX11_city_20 : decode cX11_city 20 = .ok (.invokevirtual 101, 3) := by decide +kernel
theorem dX11_city_23 : decode cX11_city 23 = .ok (.aload_n 0, 1) := by decide +kernel
theorem dX11_city_24 : decode cX11_city 24 = .ok (.getfield 77, 3) := by decide +kernel
theorem dX11_city_27 : decode cX11_city 27 = .ok (.if_icmp .ge 6, 3) := by decide +kernel
theorem dX11_city_30 : decode cX11_city 30 = .ok (.bipush (-103), 2) := by decide +kernel
theorem dX11_city_32 : decode cX11_city 32 = .ok (.ireturn, 1) := by decide +kernel
theorem dX11_city_33 : decode cX11_city 33 = .ok (.aload_n 0, 1) := by decide +kernel
theorem dX11_city_34 : decode cX11_city 34 = .ok (.aload_n 0, 1) := by decide +kernel
theorem dX11_city_35 : decode cX11_city 35 = .ok (.getfield 7, 3) := by decide +kernel
theorem dX11_city_38 : decode cX11_city 38 = .ok (.iconst 0, 1) := by decide +kernel
theorem dX11_city_39 : decode cX11_city 39 = .ok (.iaload, 1) := by decide +kernel
theorem dX11_city_40 : decode cX11_city 40 = .ok (.bipush 48, 2) := by decide +kernel
theorem dX11_city_42 : decode cX11_city 42 = .ok (.isub, 1) := by decide +kernel
theorem dX11_city_43 : decode cX11_city 43 = .ok (.putfield 105, 3) := by decide +kernel
theorem dX11_city_46 : decode cX11_city 46 = .ok (.aload_n 0, 1) := by decide +kernel
theorem dX11_city_47 : decode cX11_city 47 = .ok (.aload_n 0, 1) := by decide +kernel
theorem dX11_city_48 : decode cX11_city 48 = .ok (.getfield 77, 3) := by decide +kernel
theorem dX11_city_51 : decode cX11_city 51 = .ok (.iconst 1, 1) := by decide +kernel
theorem dX11_city_52 : decode cX11_city 52 = .ok (.isub, 1) := by decide +kernel
theorem dX11_city_53 : decode cX11_city 53 = .ok (.iconst 5, 1) := by decide +kernel
theorem dX11_city_54 : decode cX11_city 54 = .ok (.idiv, 1) := by decide +kernel
theorem dX11_city_55 : decode cX11_city 55 = .ok (.putfield 108, 3) := by decide +kernel
theorem dX11_city_58 : decode cX11_city 58 = .ok (.iconst 0, 1) := by decide +kernel
theorem dX11_city_59 : decode cX11_city 59 = .ok (.istore_n 1, 1) := by decide +kernel
theorem dX11_city_60 : decode cX11_city 60 = .ok (.iload_n 1, 1) := by decide +kernel
theorem dX11_city_61 : decode cX11_city 61 = .ok (.aload_n 0, 1) := by decide +kernel
theorem dX11_city_62 : decode cX11_city 62 = .ok (.getfield 108, 3) := by decide +kernel
theorem dX11_city_65 : decode cX11_city 65 = .ok (.if_icmp .ge 98, 3) := by decide +kernel
theorem dX11_city_68 : decode cX11_city 68 = .ok (.iconst 2, 1) := by decide +kernel
theorem dX11_city_69 : decode cX11_city 69 = .ok (.iconst 5, 1) := by decide +kernel
theorem dX11_city_70 : decode cX11_city 70 = .ok (.iload_n 1, 1) := by decide +kernel
theorem dX11_city_71 : decode cX11_city 71 = .ok (.imul, 1) := by decide +kernel
theorem dX11_city_72 : decode cX11_city 72 = .ok (.iadd, 1) := by decide +kernel
theorem dX11_city_73 : decode cX11_city 73 = .ok (.istore_n 2, 1) := by decide +kernel
theorem dX11_city_74 : decode cX11_city 74 = .ok (.aload_n 0, 1) := by decide +kernel
theorem dX11_city_75 : decode cX11_city 75 = .ok (.getfield 13, 3) := by decide +kernel
theorem dX11_city_78 : decode cX11_city 78 = .ok (.iconst 3, 1) := by decide +kernel
theorem dX11_city_79 : decode cX11_city 79 = .ok (.iload_n 1, 1) := by decide +kernel
theorem dX11_city_80 : decode cX11_city 80 = .ok (.imul, 1) := by decide +kernel
theorem dX11_city_81 : decode cX11_city 81 = .ok (.aload_n 0, 1) := by decide +kernel
theorem dX11_city_82 : decode cX11_city 82 = .ok (.getfield 7, 3) := by decide +kernel
theorem dX11_city_85 : decode cX11_city 85 = .ok (.iload_n 2, 1) := by decide +kernel
theorem dX11_city_86 : decode cX11_city 86 = .ok (.iaload, 1) := by decide +kernel
theorem dX11_city_87 : decode cX11_city 87 = .ok (.invokestatic 82, 3) := by decide +kernel
theorem dX11_city_90 : decode cX11_city 90 = .ok (.iastore, 1) := by decide +kernel
theorem dX11_city_91 : decode cX11_city 91 = .ok (.aload_n 0, 1) := by decide +kernel
theorem dX11_city_92 : decode cX11_city 92 = .ok (.getfield 13, 3) := by decide +kernel
theorem dX11_city_95 : decode cX11_city 95 = .ok (.iconst 3, 1) := by decide +kernel
theorem dX11_city_96 : decode cX11_city 96 = .ok (.iload_n 1, 1) := by decide +kernel
theorem dX11_city_97 : decode cX11_city 97 = .ok (.imul, 1) := by decide +kernel
theorem dX11_city_98 : decode cX11_city 98 = .ok (.iconst 1, 1) := by decide +kernel
theorem dX11_city_99 : decode cX11_city 99 = .ok (.iadd, 1) := by decide +kernel
theorem dX11_city_100 : decode cX11_city 100 = .ok (.aload_n 0, 1) := by decide +kernel
theorem dX11_city_101 : decode cX11_city 101 = .ok (.getfield 7, 3) := by decide +kernel
theorem dX11_city_104 : decode cX11_city 104 = .ok (.iload_n 2, 1) := by decide +kernel
theorem dX11_city_105 : decode cX11_city 105 = .ok (.iconst 1, 1) := by decide +kernel
theorem dX11_city_106 : decode cX11_city 106 = .ok (.iadd, 1) := by decide +kernel
theorem dX11_city_107 : decode cX11_city 107 = .ok (.iaload, 1) := by decide +kernel
theorem dX11_city_108 : decode cX11_city 108 = .ok (.bipush 48, 2) := by decide +kernel
theorem dX11_city_110 : decode cX11_city 110 = .ok (.isub, 1) := by decide +kernel
theorem dX11_city_111 : decode cX11_city 111 = .ok (.iastore, 1) := by decide +kernel
theorem dX11_city_112 : decode cX11_city 112 = .ok (.aload_n 0, 1) := by decide +kernel
theorem dX11_city_113 : decode cX11_city 113 = .ok (.getfield 13, 3) := by decide +kernel
theorem dX11_city_116 : decode cX11_city 116 = .ok (.iconst 3, 1) := by decide +kernel
theorem dX11_city_117 : decode cX11_city 117 = .ok (.iload_n 1, 1) := by decide +kernel
theorem dX11_city_118 : decode cX11_city 118 = .ok (.imul, 1) := by decide +kernel
theorem dX11_city_119 : decode cX11_city 119 = .ok (.iconst 2, 1) := by decide +kernel
theorem dX11_city_120 : decode cX11_city 120 = .ok (.iadd, 1) := by decide +kernel
theorem dX11_city_121 : decode cX11_city 121 = .ok (.aload_n 0, 1) := by decide +kernel
theorem dX11_city_122 : decode cX11_city 122 = .ok (.getfield 7, 3) := by decide +kernel
theorem dX11_city_125 : decode cX11_city 125 = .ok (.iload_n 2, 1) := by decide +kernel
theorem dX11_city_126 : decode cX11_city 126 = .ok (.iconst 2, 1) := by decide +kernel
theorem dX11_city_127 : decode cX11_city 127 = .ok (.iadd, 1) := by decide +kernel
theorem dX11_city_128 : decode cX11_city 128 = .ok (.iaload, 1) := by decide +kernel
theorem dX11_city_129 : decode cX11_city 129 = .ok (.bipush 48, 2) := by decide +kernel
theorem dX11_city_131 : decode cX11_city 131 = .ok (.isub, 1) := by decide +kernel
theorem dX11_city_132 : decode cX11_city 132 = .ok (.iastore, 1) := by decide +kernel
theorem dX11_city_133 : decode cX11_city 133 = .ok (.aload_n 0, 1) := by decide +kernel
theorem dX11_city_134 : decode cX11_city 134 = .ok (.getfield 16, 3) := by decide +kernel
theorem dX11_city_137 : decode cX11_city 137 = .ok (.iload_n 1, 1) := by decide +kernel
theorem dX11_city_138 : decode cX11_city 138 = .ok (.aload_n 0, 1) := by decide +kernel
theorem dX11_city_139 : decode cX11_city 139 = .ok (.getfield 7, 3) := by decide +kernel
theorem dX11_city_142 : decode cX11_city 142 = .ok (.iload_n 2, 1) := by decide +kernel
theorem dX11_city_143 : decode cX11_city 143 = .ok (.iconst 3, 1) := by decide +kernel
theorem dX11_city_144 : decode cX11_city 144 = .ok (.iadd, 1) := by decide +kernel
theorem dX11_city_145 : decode cX11_city 145 = .ok (.iaload, 1) := by decide +kernel
theorem dX11_city_146 : decode cX11_city 146 = .ok (.bipush 97, 2) := by decide +kernel
theorem dX11_city_148 : decode cX11_city 148 = .ok (.isub, 1) := by decide +kernel
theorem dX11_city_149 : decode cX11_city 149 = .ok (.iastore, 1) := by decide +kernel
theorem dX11_city_150 : decode cX11_city 150 = .ok (.aload_n 0, 1) := by decide +kernel
theorem dX11_city_151 : decode cX11_city 151 = .ok (.getfield 19, 3) := by decide +kernel
theorem dX11_city_154 : decode cX11_city 154 = .ok (.iload_n 1, 1) := by decide +kernel
theorem dX11_city_155 : decode cX11_city 155 = .ok (.iconst 0, 1) := by decide +kernel
theorem dX11_city_156 : decode cX11_city 156 = .ok (.iastore, 1) := by decide +kernel
theorem dX11_city_157 : decode cX11_city 157 = .ok (.iinc 1 1, 3) := by decide +kernel
theorem dX11_city_160 : decode cX11_city 160 = .ok (.goto (-100), 3) := by decide +kernel
theorem dX11_city_163 : decode cX11_city 163 = .ok (.aload_n 0, 1) := by decide +kernel
theorem dX11_city_164 : decode cX11_city 164 = .ok (.iconst 0, 1) := by decide +kernel
theorem dX11_city_165 : decode cX11_city 165 = .ok (.putfield 111, 3) := by decide +kernel
theorem dX11_city_168 : decode cX11_city 168 = .ok (.aload_n 0, 1) := by decide +kernel
theorem dX11_city_169 : decode cX11_city 169 = .ok (.iconst 0, 1) := by decide +kernel
theorem dX11_city_170 : decode cX11_city 170 = .ok (.putfield 114, 3) := by decide +kernel
theorem dX11_city_173 : decode cX11_city 173 = .ok (.aload_n 0, 1) := by decide +kernel
theorem dX11_city_174 : decode cX11_city 174 = .ok (.iconst 0, 1) := by decide +kernel
theorem dX11_city_175 : decode cX11_city 175 = .ok (.putfield 118, 3) := by decide +kernel
theorem dX11_city_178 : decode cX11_city 178 = .ok (.aload_n 0, 1) := by decide +kernel
theorem dX11_city_179 : decode cX11_city 179 = .ok (.iconst 0, 1) := by decide +kernel
theorem dX11_city_180 : decode cX11_city 180 = .ok (.putfield 121, 3) := by decide +kernel
theorem dX11_city_183 : decode cX11_city 183 = .ok (.aload_n 0, 1) := by decide +kernel
theorem dX11_city_184 : decode cX11_city 184 = .ok (.dup, 1) := by decide +kernel
theorem dX11_city_185 : decode cX11_city 185 = .ok (.getfield 124, 3) := by decide +kernel
theorem dX11_city_188 : decode cX11_city 188 = .ok (.iconst 1, 1) := by decide +kernel
theorem dX11_city_189 : decode cX11_city 189 = .ok (.iadd, 1) := by decide +kernel
theorem dX11_city_190 : decode cX11_city 190 = .ok (.putfield 124, 3) := by decide +kernel
theorem dX11_city_193 : decode cX11_city 193 = .ok (.aload_n 0, 1) := by decide +kernel
theorem dX11_city_194 : decode cX11_city 194 = .ok (.iconst 0, 1) := by decide +kernel
theorem dX11_city_195 : decode cX11_city 195 = .ok (.putfield 77, 3) := by decide +kernel
theorem dX11_city_198 : decode cX11_city 198 = .ok (.aload_n 0, 1) := by decide +kernel
theorem dX11_city_199 : decode cX11_city 199 = .ok (.getfield 108, 3) := by decide +kernel
theorem dX11_city_202 : decode cX11_city 202 = .ok (.ireturn, 1) := by decide +kernel
theorem dX11_lacks_0 : decode cX11_lacks 0 = .ok (.aload_n 0, 1) := by decide +kernel
theorem dX11_lacks_1 : decode cX11_lacks 1 = .ok (.getfield 108, 3) := by decide +kernel
theorem dX11_lacks_4 : decode cX11_lacks 4 = .ok (.ifCond .ne 7, 3) := by decide +kernel
theorem dX11_lacks_7 : decode cX11_lacks 7 = .ok (.iconst 1, 1) := by decide +kernel
theorem dX11_lacks_8 : decode cX11_lacks 8 = .ok (.goto 4, 3) := by decide +kernel
theorem dX11_lacks_11 : decode cX11_lacks 11 = .ok (.iconst 0, 1) := by decide +kernel
theorem dX11_lacks_12 : decode cX11_lacks 12 = .ok (.ireturn, 1) := by decide +kernel
theorem dX11_isStreet_0 : decode cX11_isStreet 0 = .ok (.iload_n 1, 1) := by decide +kernel
theorem dX11_isStreet_1 : decode cX11_isStreet 1 = .ok (.i2l, 1) := by decide +kernel
theorem dX11_isStreet_2 : decode cX11_isStreet 2 = .ok (.lconst 0, 1) := by decide +kernel
theorem dX11_isStreet_3 : decode cX11_isStreet 3 = .ok (.aload_n 0, 1) := by decide +kernel
theorem dX11_isStreet_4 : decode cX11_isStreet 4 = .ok (.getfield 108, 3) := by decide +kernel
theorem dX11_isStreet_7 : decode cX11_isStreet 7 = .ok (.iconst 1, 1) := by decide +kernel
theorem dX11_isStreet_8 : decode cX11_isStreet 8 = .ok (.isub, 1) := by decide +kernel
theorem dX11_isStreet_9 : decode cX11_isStreet 9 = .ok (.i2l, 1) := by decide +kernel
theorem dX11_isStreet_10 : decode cX11_isStreet 10 = .ok (.invokestatic 73, 3) := by decide +kernel
theorem dX11_isStreet_13 : decode cX11_isStreet 13 = .ok (.ireturn, 1) := by decide +kernel
theorem dX11_isNote_0 : decode cX11_isNote 0 = .ok (.iload_n 0, 1) := by decide +kernel
theorem dX11_isNote_1 : decode cX11_isNote 1 = .ok (.i2l, 1) := by decide +kernel
theorem dX11_isNote_2 : decode cX11_isNote 2 = .ok (.lconst 0, 1) := by decide +kernel
theorem dX11_isNote_3 : decode cX11_isNote 3 = .ok (.ldc2_w 127, 3) := by decide +kernel
theorem dX11_isNote_6 : decode cX11_isNote 6 = .ok (.invokestatic 73, 3) := by decide +kernel
theorem dX11_isNote_9 : decode cX11_isNote 9 = .ok (.ireturn, 1) := by decide +kernel
theorem dX11_isTuneText_0 : decode cX11_isTuneText 0 = .ok (.aload_n 0, 1) := by decide +kernel
theorem dX11_isTuneText_1 : decode cX11_isTuneText 1 = .ok (.getfield 77, 3) := by decide +kernel
theorem dX11_isTuneText_4 : decode cX11_isTuneText 4 = .ok (.i2l, 1) := by decide +kernel
theorem dX11_isTuneText_5 : decode cX11_isTuneText 5 = .ok (.lconst 1, 1) := by decide +kernel
theorem dX11_isTuneText_6 : decode cX11_isTuneText 6 = .ok (.ldc2_w 129, 3) := by decide +kernel
theorem dX11_isTuneText_9 : decode cX11_isTuneText 9 = .ok (.invokestatic 73, 3) := by decide +kernel
theorem dX11_isTuneText_12 : decode cX11_isTuneText 12 = .ok (.istore_n 1, 1) := by decide +kernel
theorem dX11_isTuneText_13 : decode cX11_isTuneText 13 = .ok (.iconst 0, 1) := by decide +kernel
theorem dX11_isTuneText_14 : decode cX11_isTuneText 14 = .ok (.istore_n 2, 1) := by decide +kernel
theorem dX11_isTuneText_15 : decode cX11_isTuneText 15 = .ok (.iload_n 2, 1) := by decide +kernel
theorem dX11_isTuneText_16 : decode cX11_isTuneText 16 = .ok (.aload_n 0, 1) := by decide +kernel
theorem dX11_isTuneText_17 : decode cX11_isTuneText 17 = .ok (.getfield 77, 3) := by decide +kernel
theorem dX11_isTuneText_20 : decode cX11_isTuneText 20 = .ok (.if_icmp .ge 38, 3) := by decide +kernel
theorem dX11_isTuneText_23 : decode cX11_isTuneText 23 = .ok (.iload_n 1, 1) := by decide +kernel
theorem dX11_isTuneText_24 : decode cX11_isTuneText 24 = .ok (.ifCond .eq 26, 3) := by decide +kernel
theorem dX11_isTuneText_27 : decode cX11_isTuneText 27 = .ok (.aload_n 0, 1) := by decide +kernel
theorem dX11_isTuneText_28 : decode cX11_isTuneText 28 = .ok (.getfield 7, 3) := by decide +kernel
theorem dX11_isTuneText_31 : decode cX11_isTuneText 31 = .ok (.iload_n 2, 1) := by decide +kernel
theorem dX11_isTuneText_32 : decode cX11_isTuneText 32 = .ok (.iaload, 1) := by decide +kernel
theorem dX11_isTuneText_33 : decode cX11_isTuneText 33 = .ok (.i2l, 1) := by decide +kernel
theorem dX11_isTuneText_34 : decode cX11_isTuneText 34 = .ok (.ldc2_w 90, 3) := by decide +kernel
theorem dX11_isTuneText_37 : decode cX11_isTuneText 37 = .ok (.ldc2_w 92, 3) := by decide +kernel
theorem dX11_isTuneText_40 : decode cX11_isTuneText 40 = .ok (.invokestatic 73, 3) := by decide +kernel
theorem dX11_isTuneText_43 : decode cX11_isTuneText 43 = .ok (.ifCond .eq 7, 3) := by decide +kernel
theorem dX11_isTuneText_46 : decode cX11_isTuneText 46 = .ok (.iconst 1, 1) := by decide +kernel
theorem dX11_isTuneText_47 : decode cX11_isTuneText 47 = .ok (.goto 4, 3) := by decide +kernel
theorem dX11_isTuneText_50 : decode cX11_isTuneText 50 = .ok (.iconst 0, 1) := by decide +kernel
theorem dX11_isTuneText_51 : decode cX11_isTuneText 51 = .ok (.istore_n 1, 1) := by decide +kernel
theorem dX11_isTuneText_52 : decode cX11_isTuneText 52 = .ok (.iinc 2 1, 3) := by decide +kernel
theorem dX11_isTuneText_55 : decode cX11_isTuneText 55 = .ok (.goto (-40), 3) := by decide +kernel
theorem dX11_isTuneText_58 : decode cX11_isTuneText 58 = .ok (.iload_n 1, 1) := by decide +kernel
theorem dX11_isTuneText_59 : decode cX11_isTuneText 59 = .ok (.ireturn, 1) := by decide +kernel
theorem dX11_tune_0 : decode cX11_tune 0 = .ok (.iload_n 1, 1) := by decide +kernel
theorem dX11_tune_1 : decode cX11_tune 1 = .ok (.i2l, 1) := by decide +kernel
theorem dX11_tune_2 : decode cX11_tune 2 = .ok (.lconst 0, 1) := by decide +kernel
theorem dX11_tune_3 : decode cX11_tune 3 = .ok (.lconst 1, 1) := by decide +kernel
theorem dX11_tune_4 : decode cX11_tune 4 = .ok (.invokestatic 73, 3) := by decide +kernel
theorem dX11_tune_7 : decode cX11_tune 7 = .ok (.ifCond .ne 6, 3) := by decide +kernel
theorem dX11_tune_10 : decode cX11_tune 10 = .ok (.bipush (-101), 2) := by decide +kernel
theorem dX11_tune_12 : decode cX11_tune 12 = .ok (.ireturn, 1) := by decide +kernel
theorem dX11_tune_13 : decode cX11_tune 13 = .ok (.aload_n 0, 1) := by decide +kernel
theorem dX11_tune_14 : decode cX11_tune 14 = .ok (.invokevirtual 131, 3) := by decide +kernel
theorem dX11_tune_17 : decode cX11_tune 17 = .ok (.ifCond .ne 6, 3) := by decide +kernel
theorem dX11_tune_20 : decode cX11_tune 20 = .ok (.bipush (-103), 2) := by decide +kernel
theorem dX11_tune_22 : decode cX11_tune 22 = .ok (.ireturn, 1) := by decide +kernel
theorem dX11_tune_23 : decode cX11_tune 23 = .ok (.aload_n 0, 1) := by decide +kernel
theorem dX11_tune_24 : decode cX11_tune 24 = .ok (.getfield 77, 3) := by decide +kernel
theorem dX11_tune_27 : decode cX11_tune 27 = .ok (.istore_n 2, 1) := by decide +kernel
theorem dX11_tune_28 : decode cX11_tune 28 = .ok (.iconst 0, 1) := by decide +kernel
theorem dX11_tune_29 : decode cX11_tune 29 = .ok (.istore_n 3, 1) := by decide +kernel
theorem dX11_tune_30 : decode cX11_tune 30 = .ok (.iload_n 3, 1) := by decide +kernel
theorem dX11_tune_31 : decode cX11_tune 31 = .ok (.iload_n 2, 1) := by decide +kernel
theorem dX11_tune_32 : decode cX11_tune 32 = .ok (.if_icmp .ge 46, 3) := by decide +kernel
theorem dX11_tune_35 : decode cX11_tune 35 = .ok (.iload_n 1, 1) := by decide +kernel
theorem dX11_tune_36 : decode cX11_tune 36 = .ok (.ifCond .ne 21, 3) := by decide +kernel
theorem dX11_tune_39 : decode cX11_tune 39 = .ok (.aload_n 0, 1) := by decide +kernel
theorem dX11_tune_40 : decode cX11_tune 40 = .ok (.getfield 22, 3) := by decide +kernel
theorem dX11_tune_43 : decode cX11_tune 43 = .ok (.iload_n 3, 1) := by decide +kernel
theorem dX11_tune_44 : decode cX11_tune 44 = .ok (.aload_n 0, 1) := by decide +kernel
theorem dX11_tune_45 : decode cX11_tune 45 = .ok (.getfield 7, 3) := by decide +kernel
theorem dX11_tune_48 : decode cX11_tune 48 = .ok (.iload_n 3, 1) := by decide +kernel
theorem dX11_tune_49 : decode cX11_tune 49 = .ok (.iaload, 1) := by decide +kernel
theorem dX11_tune_50 : decode cX11_tune 50 = .ok (.bipush 97, 2) := by decide +kernel
theorem dX11_tune_52 : decode cX11_tune 52 = .ok (.isub, 1) := by decide +kernel
theorem dX11_tune_53 : decode cX11_tune 53 = .ok (.iastore, 1) := by decide +kernel
theorem dX11_tune_54 : decode cX11_tune 54 = .ok (.goto 18, 3) := by decide +kernel
theorem dX11_tune_57 : decode cX11_tune 57 = .ok (.aload_n 0, 1) := by decide +kernel
theorem dX11_tune_58 : decode cX11_tune 58 = .ok (.getfield 25, 3) := by decide +kernel
theorem dX11_tune_61 : decode cX11_tune 61 = .ok (.iload_n 3, 1) := by decide +kernel
theorem dX11_tune_62 : decode cX11_tune 62 = .ok (.aload_n 0, 1) := by decide +kernel
theorem dX11_tune_63 : decode cX11_tune 63 = .ok (.getfield 7, 3) := by decide +kernel
theorem dX11_tune_66 : decode cX11_tune 66 = .ok (.iload_n 3, 1) := by decide +kernel
theorem dX11_tune_67 : decode cX11_tune 67 = .ok (.iaload, 1) := by decide +kernel
theorem dX11_tune_68 : decode cX11_tune 68 = .ok (.bipush 97, 2) := by decide +kernel
theorem dX11_tune_70 : decode cX11_tune 70 = .ok (.isub, 1) := by decide +kernel
theorem dX11_tune_71 : decode cX11_tune 71 = .ok (.iastore, 1) := by decide +kernel
theorem dX11_tune_72 : decode cX11_tune 72 = .ok (.iinc 3 1, 3) := by decide +kernel
theorem dX11_tune_75 : decode cX11_tune 75 = .ok (.goto (-45), 3) := by decide +kernel
theorem dX11_tune_78 : decode cX11_tune 78 = .ok (.iload_n 1, 1) := by decide +kernel
theorem dX11_tune_79 : decode cX11_tune 79 = .ok (.ifCond .ne 11, 3) := by decide +kernel
theorem dX11_tune_82 : decode cX11_tune 82 = .ok (.aload_n 0, 1) := by decide +kernel
theorem dX11_tune_83 : decode cX11_tune 83 = .ok (.iload_n 2, 1) := by decide +kernel
theorem dX11_tune_84 : decode cX11_tune 84 = .ok (.putfield 135, 3) := by decide +kernel
theorem dX11_tune_87 : decode cX11_tune 87 = .ok (.goto 8, 3) := by decide +kernel
theorem dX11_tune_90 : decode cX11_tune 90 = .ok (.aload_n 0, 1) := by decide +kernel
theorem dX11_tune_91 : decode cX11_tune 91 = .ok (.iload_n 2, 1) := by decide +kernel
theorem dX11_tune_92 : decode cX11_tune 92 = .ok (.putfield 138, 3) := by decide +kernel
theorem dX11_tune_95 : decode cX11_tune 95 = .ok (.aload_n 0, 1) := by decide +kernel
theorem dX11_tune_96 : decode cX11_tune 96 = .ok (.iconst 0, 1) := by decide +kernel
theorem dX11_tune_97 : decode cX11_tune 97 = .ok (.putfield 77, 3) := by decide +kernel
theorem dX11_tune_100 : decode cX11_tune 100 = .ok (.iload_n 2, 1) := by decide +kernel
theorem dX11_tune_101 : decode cX11_tune 101 = .ok (.ireturn, 1) := by decide +kernel
theorem dX11_manyOf_0 : decode cX11_manyOf 0 = .ok (.iload_n 1, 1) := by decide +kernel
theorem dX11_manyOf_1 : decode cX11_manyOf 1 = .ok (.ifCond .ne 10, 3) := by decide +kernel
theorem dX11_manyOf_4 : decode cX11_manyOf 4 = .ok (.aload_n 0, 1) := by decide +kernel
theorem dX11_manyOf_5 : decode cX11_manyOf 5 = .ok (.getfield 135, 3) := by decide +kernel
theorem dX11_manyOf_8 : decode cX11_manyOf 8 = .ok (.goto 7, 3) := by decide +kernel
theorem dX11_manyOf_11 : decode cX11_manyOf 11 = .ok (.aload_n 0, 1) := by decide +kernel
theorem dX11_manyOf_12 : decode cX11_manyOf 12 = .ok (.getfield 138, 3) := by decide +kernel
theorem dX11_manyOf_15 : decode cX11_manyOf 15 = .ok (.ireturn, 1) := by decide +kernel
theorem dX11_isTune_0 : decode cX11_isTune 0 = .ok (.iload_n 1, 1) := by decide +kernel
theorem dX11_isTune_1 : decode cX11_isTune 1 = .ok (.i2l, 1) := by decide +kernel
theorem dX11_isTune_2 : decode cX11_isTune 2 = .ok (.lconst 0, 1) := by decide +kernel
theorem dX11_isTune_3 : decode cX11_isTune 3 = .ok (.lconst 1, 1) := by decide +kernel
theorem dX11_isTune_4 : decode cX11_isTune 4 = .ok (.invokestatic 73, 3) := by decide +kernel
theorem dX11_isTune_7 : decode cX11_isTune 7 = .ok (.ifCond .eq 15, 3) := by decide +kernel
theorem dX11_isTune_10 : decode cX11_isTune 10 = .ok (.aload_n 0, 1) := by decide +kernel
theorem dX11_isTune_11 : decode cX11_isTune 11 = .ok (.iload_n 1, 1) := by decide +kernel
theorem dX11_isTune_12 : decode cX11_isTune 12 = .ok (.invokevirtual 141, 3) := by decide +kernel
theorem dX11_isTune_15 : decode cX11_isTune 15 = .ok (.ifCond .le 7, 3) := by decide +kernel
theorem dX11_isTune_18 : decode cX11_isTune 18 = .ok (.iconst 1, 1) := by decide +kernel
theorem dX11_isTune_19 : decode cX11_isTune 19 = .ok (.goto 4, 3) := by decide +kernel
theorem dX11_isTune_22 : decode cX11_isTune 22 = .ok (.iconst 0, 1) := by decide +kernel
theorem dX11_isTune_23 : decode cX11_isTune 23 = .ok (.ireturn, 1) := by decide +kernel
theorem dX11_areBoth_0 : decode cX11_areBoth 0 = .ok (.aload_n 0, 1) := by decide +kernel
theorem dX11_areBoth_1 : decode cX11_areBoth 1 = .ok (.getfield 135, 3) := by decide +kernel
theorem dX11_areBoth_4 : decode cX11_areBoth 4 = .ok (.ifCond .le 14, 3) := by decide +kernel
theorem dX11_areBoth_7 : decode cX11_areBoth 7 = .ok (.aload_n 0, 1) := by decide +kernel
theorem dX11_areBoth_8 : decode cX11_areBoth 8 = .ok (.getfield 138, 3) := by decide +kernel
theorem dX11_areBoth_11 : decode cX11_areBoth 11 = .ok (.ifCond .le 7, 3) := by decide +kernel
theorem dX11_areBoth_14 : decode cX11_areBoth 14 = .ok (.iconst 1, 1) := by decide +kernel
theorem dX11_areBoth_15 : decode cX11_areBoth 15 = .ok (.goto 4, 3) := by decide +kernel
theorem dX11_areBoth_18 : decode cX11_areBoth 18 = .ok (.iconst 0, 1) := by decide +kernel
theorem dX11_areBoth_19 : decode cX11_areBoth 19 = .ok (.ireturn, 1) := by decide +kernel
theorem dX11_noteAt_0 : decode cX11_noteAt 0 = .ok (.iload_n 1, 1) := by decide +kernel
theorem dX11_noteAt_1 : decode cX11_noteAt 1 = .ok (.ifCond .ne 12, 3) := by decide +kernel
theorem dX11_noteAt_4 : decode cX11_noteAt 4 = .ok (.aload_n 0, 1) := by decide +kernel
theorem dX11_noteAt_5 : decode cX11_noteAt 5 = .ok (.getfield 22, 3) := by decide +kernel
theorem dX11_noteAt_8 : decode cX11_noteAt 8 = .ok (.iload_n 2, 1) := by decide +kernel
theorem dX11_noteAt_9 : decode cX11_noteAt 9 = .ok (.iaload, 1) := by decide +kernel
theorem dX11_noteAt_10 : decode cX11_noteAt 10 = .ok (.goto 9, 3) := by decide +kernel
theorem dX11_noteAt_13 : decode cX11_noteAt 13 = .ok (.aload_n 0, 1) := by decide +kernel
theorem dX11_noteAt_14 : decode cX11_noteAt 14 = .ok (.getfield 25, 3) := by decide +kernel
theorem dX11_noteAt_17 : decode cX11_noteAt 17 = .ok (.iload_n 2, 1) := by decide +kernel
theorem dX11_noteAt_18 : decode cX11_noteAt 18 = .ok (.iaload, 1) := by decide +kernel
theorem dX11_noteAt_19 : decode cX11_noteAt 19 = .ok (.ireturn, 1) := by decide +kernel
theorem dX11_tritonesOf_0 : decode cX11_tritonesOf 0 = .ok (.iconst 0, 1) := by decide +kernel
theorem dX11_tritonesOf_1 : decode cX11_tritonesOf 1 = .ok (.istore_n 2, 1) := by decide +kernel
theorem dX11_tritonesOf_2 : decode cX11_tritonesOf 2 = .ok (.iconst 1, 1) := by decide +kernel
theorem dX11_tritonesOf_3 : decode cX11_tritonesOf 3 = .ok (.istore_n 3, 1) := by decide +kernel
theorem dX11_tritonesOf_4 : decode cX11_tritonesOf 4 = .ok (.iload_n 3, 1) := by decide +kernel
theorem dX11_tritonesOf_5 : decode cX11_tritonesOf 5 = .ok (.iload_n 1, 1) := by decide +kernel
theorem dX11_tritonesOf_6 : decode cX11_tritonesOf 6 = .ok (.if_icmp .ge 33, 3) := by decide +kernel
theorem dX11_tritonesOf_9 : decode cX11_tritonesOf 9 = .ok (.iload_n 2, 1) := by decide +kernel
theorem dX11_tritonesOf_10 : decode cX11_tritonesOf 10 = .ok (.aload_n 0, 1) := by decide +kernel
theorem dX11_tritonesOf_11 : decode cX11_tritonesOf 11 = .ok (.iload_n 3, 1) := by decide +kernel
theorem dX11_tritonesOf_12 : decode cX11_tritonesOf 12 = .ok (.iaload, 1) := by decide +kernel
theorem dX11_tritonesOf_13 : decode cX11_tritonesOf 13 = .ok (.aload_n 0, 1) := by decide +kernel
theorem dX11_tritonesOf_14 : decode cX11_tritonesOf 14 = .ok (.iload_n 3, 1) := by decide +kernel
theorem dX11_tritonesOf_15 : decode cX11_tritonesOf 15 = .ok (.iconst 1, 1) := by decide +kernel
theorem dX11_tritonesOf_16 : decode cX11_tritonesOf 16 = .ok (.isub, 1) := by decide +kernel
theorem dX11_tritonesOf_17 : decode cX11_tritonesOf 17 = .ok (.iaload, 1) := by decide +kernel
theorem dX11_tritonesOf_18 : decode cX11_tritonesOf 18 = .ok (.invokestatic 144, 3) := by decide +kernel
theorem dX11_tritonesOf_21 : decode cX11_tritonesOf 21 = .ok (.bipush 6, 2) := by decide +kernel
theorem dX11_tritonesOf_23 : decode cX11_tritonesOf 23 = .ok (.if_icmp .ne 7, 3) := by decide +kernel
theorem dX11_tritonesOf_26 : decode cX11_tritonesOf 26 = .ok (.iconst 1, 1) := by decide +kernel
theorem dX11_tritonesOf_27 : decode cX11_tritonesOf 27 = .ok (.goto 4, 3) := by decide +kernel
theorem dX11_tritonesOf_30 : decode cX11_tritonesOf 30 = .ok (.iconst 0, 1) := by decide +kernel
theorem dX11_tritonesOf_31 : decode cX11_tritonesOf 31 = .ok (.iadd, 1) := by decide +kernel
theorem dX11_tritonesOf_32 : decode cX11_tritonesOf 32 = .ok (.istore_n 2, 1) := by decide +kernel
theorem dX11_tritonesOf_33 : decode cX11_tritonesOf 33 = .ok (.iinc 3 1, 3) := by decide +kernel
theorem dX11_tritonesOf_36 : decode cX11_tritonesOf 36 = .ok (.goto (-32), 3) := by decide +kernel
theorem dX11_tritonesOf_39 : decode cX11_tritonesOf 39 = .ok (.iload_n 2, 1) := by decide +kernel
theorem dX11_tritonesOf_40 : decode cX11_tritonesOf 40 = .ok (.ireturn, 1) := by decide +kernel
theorem dX11_isInScale_0 : decode cX11_isInScale 0 = .ok (.iload_n 0, 1) := by decide +kernel
theorem dX11_isInScale_1 : decode cX11_isInScale 1 = .ok (.bipush 12, 2) := by decide +kernel
theorem dX11_isInScale_3 : decode cX11_isInScale 3 = .ok (.if_icmp .ge 9, 3) := by decide +kernel
theorem dX11_isInScale_6 : decode cX11_isInScale 6 = .ok (.sipush 2741, 3) := by decide +kernel
theorem dX11_isInScale_9 : decode cX11_isInScale 9 = .ok (.goto 6, 3) := by decide +kernel
theorem dX11_isInScale_12 : decode cX11_isInScale 12 = .ok (.sipush 1453, 3) := by decide +kernel
theorem dX11_isInScale_15 : decode cX11_isInScale 15 = .ok (.istore_n 2, 1) := by decide +kernel
theorem dX11_isInScale_16 : decode cX11_isInScale 16 = .ok (.iload_n 2, 1) := by decide +kernel
theorem dX11_isInScale_17 : decode cX11_isInScale 17 = .ok (.iload_n 1, 1) := by decide +kernel
theorem dX11_isInScale_18 : decode cX11_isInScale 18 = .ok (.ishr, 1) := by decide +kernel
theorem dX11_isInScale_19 : decode cX11_isInScale 19 = .ok (.iconst 1, 1) := by decide +kernel
theorem dX11_isInScale_20 : decode cX11_isInScale 20 = .ok (.iand, 1) := by decide +kernel
theorem dX11_isInScale_21 : decode cX11_isInScale 21 = .ok (.iconst 1, 1) := by decide +kernel
theorem dX11_isInScale_22 : decode cX11_isInScale 22 = .ok (.if_icmp .ne 7, 3) := by decide +kernel
theorem dX11_isInScale_25 : decode cX11_isInScale 25 = .ok (.iconst 1, 1) := by decide +kernel
theorem dX11_isInScale_26 : decode cX11_isInScale 26 = .ok (.goto 4, 3) := by decide +kernel
theorem dX11_isInScale_29 : decode cX11_isInScale 29 = .ok (.iconst 0, 1) := by decide +kernel
theorem dX11_isInScale_30 : decode cX11_isInScale 30 = .ok (.ireturn, 1) := by decide +kernel
theorem dX11_inKey_0 : decode cX11_inKey 0 = .ok (.iconst 0, 1) := by decide +kernel
theorem dX11_inKey_1 : decode cX11_inKey 1 = .ok (.istore_n 3, 1) := by decide +kernel
theorem dX11_inKey_2 : decode cX11_inKey 2 = .ok (.iconst 0, 1) := by decide +kernel
theorem dX11_inKey_3 : decode cX11_inKey 3 = .ok (.istore 4, 2) := by decide +kernel
theorem dX11_inKey_5 : decode cX11_inKey 5 = .ok (.iload 4, 2) := by decide +kernel
theorem dX11_inKey_7 : decode cX11_inKey 7 = .ok (.aload_n 0, 1) := by decide +kernel
theorem dX11_inKey_8 : decode cX11_inKey 8 = .ok (.iload_n 1, 1) := by decide +kernel
theorem dX11_inKey_9 : decode cX11_inKey 9 = .ok (.invokevirtual 141, 3) := by decide +kernel
theorem dX11_inKey_12 : decode cX11_inKey 12 = .ok (.if_icmp .ge 38, 3) := by decide +kernel
theorem dX11_inKey_15 : decode cX11_inKey 15 = .ok (.iload_n 3, 1) := by decide +kernel
theorem dX11_inKey_16 : decode cX11_inKey 16 = .ok (.iload_n 2, 1) := by decide +kernel
theorem dX11_inKey_17 : decode cX11_inKey 17 = .ok (.aload_n 0, 1) := by decide +kernel
theorem dX11_inKey_18 : decode cX11_inKey 18 = .ok (.iload_n 1, 1) := by decide +kernel
theorem dX11_inKey_19 : decode cX11_inKey 19 = .ok (.iload 4, 2) := by decide +kernel
theorem dX11_inKey_21 : decode cX11_inKey 21 = .ok (.invokevirtual 148, 3) := by decide +kernel
theorem dX11_inKey_24 : decode cX11_inKey 24 = .ok (.iload_n 2, 1) := by decide +kernel
theorem dX11_inKey_25 : decode cX11_inKey 25 = .ok (.bipush 12, 2) := by decide +kernel
theorem dX11_inKey_27 : decode cX11_inKey 27 = .ok (.irem, 1) := by decide +kernel
theorem dX11_inKey_28 : decode cX11_inKey 28 = .ok (.invokestatic 144, 3) := by decide +kernel
theorem dX11_inKey_31 : decode cX11_inKey 31 = .ok (.invokestatic 151, 3) := by decide +kernel
theorem dX11_inKey_34 : decode cX11_inKey 34 = .ok (.ifCond .eq 7, 3) := by decide +kernel
theorem dX11_inKey_37 : decode cX11_inKey 37 = .ok (.iconst 1, 1) := by decide +kernel
theorem dX11_inKey_38 : decode cX11_inKey 38 = .ok (.goto 4, 3) := by decide +kernel
theorem dX11_inKey_41 : decode cX11_inKey 41 = .ok (.iconst 0, 1) := by decide +kernel
theorem dX11_inKey_42 : decode cX11_inKey 42 = .ok (.iadd, 1) := by decide +kernel
theorem dX11_inKey_43 : decode cX11_inKey 43 = .ok (.istore_n 3, 1) := by decide +kernel
theorem dX11_inKey_44 : decode cX11_inKey 44 = .ok (.iinc 4 1, 3) := by decide +kernel
theorem dX11_inKey_47 : decode cX11_inKey 47 = .ok (.goto (-42), 3) := by decide +kernel
theorem dX11_inKey_50 : decode cX11_inKey 50 = .ok (.iload_n 3, 1) := by decide +kernel
theorem dX11_inKey_51 : decode cX11_inKey 51 = .ok (.ireturn, 1) := by decide +kernel
theorem dX11_keyOf_0 : decode cX11_keyOf 0 = .ok (.iconst 0, 1) := by decide +kernel
theorem dX11_keyOf_1 : decode cX11_keyOf 1 = .ok (.istore_n 2, 1) := by decide +kernel
theorem dX11_keyOf_2 : decode cX11_keyOf 2 = .ok (.iconst 1, 1) := by decide +kernel
theorem dX11_keyOf_3 : decode cX11_keyOf 3 = .ok (.istore_n 3, 1) := by decide +kernel
theorem dX11_keyOf_4 : decode cX11_keyOf 4 = .ok (.iload_n 3, 1) := by decide +kernel
theorem dX11_keyOf_5 : decode cX11_keyOf 5 = .ok (.bipush 24, 2) := by decide +kernel
theorem dX11_keyOf_7 : decode cX11_keyOf 7 = .ok (.if_icmp .ge 30, 3) := by decide +kernel
theorem dX11_keyOf_10 : decode cX11_keyOf 10 = .ok (.aload_n 0, 1) := by decide +kernel
theorem dX11_keyOf_11 : decode cX11_keyOf 11 = .ok (.iload_n 1, 1) := by decide +kernel
theorem dX11_keyOf_12 : decode cX11_keyOf 12 = .ok (.iload_n 3, 1) := by decide +kernel
theorem dX11_keyOf_13 : decode cX11_keyOf 13 = .ok (.invokevirtual 155, 3) := by decide +kernel
theorem dX11_keyOf_16 : decode cX11_keyOf 16 = .ok (.aload_n 0, 1) := by decide +kernel
theorem dX11_keyOf_17 : decode cX11_keyOf 17 = .ok (.iload_n 1, 1) := by decide +kernel
theorem dX11_keyOf_18 : decode cX11_keyOf 18 = .ok (.iload_n 2, 1) := by decide +kernel
theorem dX11_keyOf_19 : decode cX11_keyOf 19 = .ok (.invokevirtual 155, 3) := by decide +kernel
theorem dX11_keyOf_22 : decode cX11_keyOf 22 = .ok (.if_icmp .le 7, 3) := by decide +kernel
theorem dX11_keyOf_25 : decode cX11_keyOf 25 = .ok (.iload_n 3, 1) := by decide +kernel
theorem dX11_keyOf_26 : decode cX11_keyOf 26 = .ok (.goto 4, 3) := by decide +kernel
theorem dX11_keyOf_29 : decode cX11_keyOf 29 = .ok (.iload_n 2, 1) := by decide +kernel
theorem dX11_keyOf_30 : decode cX11_keyOf 30 = .ok (.istore_n 2, 1) := by decide +kernel
theorem dX11_keyOf_31 : decode cX11_keyOf 31 = .ok (.iinc 3 1, 3) := by decide +kernel
theorem dX11_keyOf_34 : decode cX11_keyOf 34 = .ok (.goto (-30), 3) := by decide +kernel
theorem dX11_keyOf_37 : decode cX11_keyOf 37 = .ok (.iload_n 2, 1) := by decide +kernel
theorem dX11_keyOf_38 : decode cX11_keyOf 38 = .ok (.ireturn, 1) := by decide +kernel
theorem dX11_notesOf_0 : decode cX11_notesOf 0 = .ok (.iconst 0, 1) := by decide +kernel
theorem dX11_notesOf_1 : decode cX11_notesOf 1 = .ok (.istore_n 2, 1) := by decide +kernel
theorem dX11_notesOf_2 : decode cX11_notesOf 2 = .ok (.iconst 0, 1) := by decide +kernel
theorem dX11_notesOf_3 : decode cX11_notesOf 3 = .ok (.istore_n 3, 1) := by decide +kernel
theorem dX11_notesOf_4 : decode cX11_notesOf 4 = .ok (.iload_n 3, 1) := by decide +kernel
theorem dX11_notesOf_5 : decode cX11_notesOf 5 = .ok (.aload_n 0, 1) := by decide +kernel
theorem dX11_notesOf_6 : decode cX11_notesOf 6 = .ok (.iload_n 1, 1) := by decide +kernel
theorem dX11_notesOf_7 : decode cX11_notesOf 7 = .ok (.invokevirtual 141, 3) := by decide +kernel
theorem dX11_notesOf_10 : decode cX11_notesOf 10 = .ok (.if_icmp .ge 20, 3) := by decide +kernel
theorem dX11_notesOf_13 : decode cX11_notesOf 13 = .ok (.iload_n 2, 1) := by decide +kernel
theorem dX11_notesOf_14 : decode cX11_notesOf 14 = .ok (.iconst 1, 1) := by decide +kernel
theorem dX11_notesOf_15 : decode cX11_notesOf 15 = .ok (.aload_n 0, 1) := by decide +kernel
theorem dX11_notesOf_16 : decode cX11_notesOf 16 = .ok (.iload_n 1, 1) := by decide +kernel
theorem dX11_notesOf_17 : decode cX11_notesOf 17 = .ok (.iload_n 3, 1) := by decide +kernel
theorem dX11_notesOf_18 : decode cX11_notesOf 18 = .ok (.invokevirtual 148, 3) := by decide +kernel
theorem dX11_notesOf_21 : decode cX11_notesOf 21 = .ok (.ishl, 1) := by decide +kernel
theorem dX11_notesOf_22 : decode cX11_notesOf 22 = .ok (.ior, 1) := by decide +kernel
theorem dX11_notesOf_23 : decode cX11_notesOf 23 = .ok (.istore_n 2, 1) := by decide +kernel
theorem dX11_notesOf_24 : decode cX11_notesOf 24 = .ok (.iinc 3 1, 3) := by decide +kernel
theorem dX11_notesOf_27 : decode cX11_notesOf 27 = .ok (.goto (-23), 3) := by decide +kernel
theorem dX11_notesOf_30 : decode cX11_notesOf 30 = .ok (.iload_n 2, 1) := by decide +kernel
theorem dX11_notesOf_31 : decode cX11_notesOf 31 = .ok (.ireturn, 1) := by decide +kernel
theorem dX11_tellTune_0 : decode cX11_tellTune 0 = .ok (.iload_n 2, 1) := by decide +kernel
theorem dX11_tellTune_1 : decode cX11_tellTune 1 = .ok (.i2l, 1) := by decide +kernel
theorem dX11_tellTune_2 : decode cX11_tellTune 2 = .ok (.ldc2_w 158, 3) := by decide +kernel
theorem dX11_tellTune_5 : decode cX11_tellTune 5 = .ok (.ldc2_w 160, 3) := by decide +kernel
theorem dX11_tellTune_8 : decode cX11_tellTune 8 = .ok (.invokestatic 73, 3) := by decide +kernel
theorem dX11_tellTune_11 : decode cX11_tellTune 11 = .ok (.ifCond .eq 29, 3) := by decide +kernel
theorem dX11_tellTune_14 : decode cX11_tellTune 14 = .ok (.iload_n 2, 1) := by decide +kernel
theorem dX11_tellTune_15 : decode cX11_tellTune 15 = .ok (.bipush 10, 2) := by decide +kernel
theorem dX11_tellTune_17 : decode cX11_tellTune 17 = .ok (.isub, 1) := by decide +kernel
theorem dX11_tellTune_18 : decode cX11_tellTune 18 = .ok (.aload_n 0, 1) := by decide +kernel
theorem dX11_tellTune_19 : decode cX11_tellTune 19 = .ok (.iload_n 1, 1) := by decide +kernel
theorem dX11_tellTune_20 : decode cX11_tellTune 20 = .ok (.invokevirtual 141, 3) := by decide +kernel
theorem dX11_tellTune_23 : decode cX11_tellTune 23 = .ok (.if_icmp .ge 15, 3) := by decide +kernel
theorem dX11_tellTune_26 : decode cX11_tellTune 26 = .ok (.aload_n 0, 1) := by decide +kernel
theorem dX11_tellTune_27 : decode cX11_tellTune 27 = .ok (.iload_n 1, 1) := by decide +kernel
theorem dX11_tellTune_28 : decode cX11_tellTune 28 = .ok (.iload_n 2, 1) := by decide +kernel
theorem dX11_tellTune_29 : decode cX11_tellTune 29 = .ok (.bipush 10, 2) := by decide +kernel
theorem dX11_tellTune_31 : decode cX11_tellTune 31 = .ok (.isub, 1) := by decide +kernel
theorem dX11_tellTune_32 : decode cX11_tellTune 32 = .ok (.invokevirtual 148, 3) := by decide +kernel
theorem dX11_tellTune_35 : decode cX11_tellTune 35 = .ok (.goto 4, 3) := by decide +kernel
theorem dX11_tellTune_38 : decode cX11_tellTune 38 = .ok (.iconst (-1), 1) := by decide +kernel
theorem dX11_tellTune_39 : decode cX11_tellTune 39 = .ok (.ireturn, 1) := by decide +kernel
theorem dX11_tellTune_40 : decode cX11_tellTune 40 = .ok (.iload_n 2, 1) := by decide +kernel
theorem dX11_tellTune_41 : decode cX11_tellTune 41 = .ok (.tableswitch 88 0 4 #[35, 41, 65, 71, 82], 35) := by decide +kernel
theorem dX11_tellTune_76 : decode cX11_tellTune 76 = .ok (.aload_n 0, 1) := by decide +kernel
theorem dX11_tellTune_77 : decode cX11_tellTune 77 = .ok (.iload_n 1, 1) := by decide +kernel
theorem dX11_tellTune_78 : decode cX11_tellTune 78 = .ok (.invokevirtual 141, 3) := by decide +kernel
theorem dX11_tellTune_81 : decode cX11_tellTune 81 = .ok (.ireturn, 1) := by decide +kernel
theorem dX11_tellTune_82 : decode cX11_tellTune 82 = .ok (.iload_n 1, 1) := by decide +kernel
theorem dX11_tellTune_83 : decode cX11_tellTune 83 = .ok (.ifCond .ne 10, 3) := by decide +kernel
theorem dX11_tellTune_86 : decode cX11_tellTune 86 = .ok (.aload_n 0, 1) := by decide +kernel
theorem dX11_tellTune_87 : decode cX11_tellTune 87 = .ok (.getfield 22, 3) := by decide +kernel
theorem dX11_tellTune_90 : decode cX11_tellTune 90 = .ok (.goto 7, 3) := by decide +kernel
theorem dX11_tellTune_93 : decode cX11_tellTune 93 = .ok (.aload_n 0, 1) := by decide +kernel
theorem dX11_tellTune_94 : decode cX11_tellTune 94 = .ok (.getfield 25, 3) := by decide +kernel
theorem dX11_tellTune_97 : decode cX11_tellTune 97 = .ok (.aload_n 0, 1) := by decide +kernel
theorem dX11_tellTune_98 : decode cX11_tellTune 98 = .ok (.iload_n 1, 1) := by decide +kernel
theorem dX11_tellTune_99 : decode cX11_tellTune 99 = .ok (.invokevirtual 141, 3) := by decide +kernel
theorem dX11_tellTune_102 : decode cX11_tellTune 102 = .ok (.invokestatic 162, 3) := by decide +kernel
theorem dX11_tellTune_105 : decode cX11_tellTune 105 = .ok (.ireturn, 1) := by decide +kernel
theorem dX11_tellTune_106 : decode cX11_tellTune 106 = .ok (.aload_n 0, 1) := by decide +kernel
theorem dX11_tellTune_107 : decode cX11_tellTune 107 = .ok (.iload_n 1, 1) := by decide +kernel
theorem dX11_tellTune_108 : decode cX11_tellTune 108 = .ok (.invokevirtual 166, 3) := by decide +kernel
theorem dX11_tellTune_111 : decode cX11_tellTune 111 = .ok (.ireturn, 1) := by decide +kernel
theorem dX11_tellTune_112 : decode cX11_tellTune 112 = .ok (.aload_n 0, 1) := by decide +kernel
theorem dX11_tellTune_113 : decode cX11_tellTune 113 = .ok (.iload_n 1, 1) := by decide +kernel
theorem dX11_tellTune_114 : decode cX11_tellTune 114 = .ok (.aload_n 0, 1) := by decide +kernel
theorem dX11_tellTune_115 : decode cX11_tellTune 115 = .ok (.iload_n 1, 1) := by decide +kernel
theorem dX11_tellTune_116 : decode cX11_tellTune 116 = .ok (.invokevirtual 166, 3) := by decide +kernel
theorem dX11_tellTune_119 : decode cX11_tellTune 119 = .ok (.invokevirtual 155, 3) := by decide +kernel
theorem dX11_tellTune_122 : decode cX11_tellTune 122 = .ok (.ireturn, 1) := by decide +kernel
theorem dX11_tellTune_123 : decode cX11_tellTune 123 = .ok (.aload_n 0, 1) := by decide +kernel
theorem dX11_tellTune_124 : decode cX11_tellTune 124 = .ok (.iload_n 1, 1) := by decide +kernel
theorem dX11_tellTune_125 : decode cX11_tellTune 125 = .ok (.invokevirtual 169, 3) := by decide +kernel
theorem dX11_tellTune_128 : decode cX11_tellTune 128 = .ok (.ireturn, 1) := by decide +kernel
theorem dX11_tellTune_129 : decode cX11_tellTune 129 = .ok (.bipush (-102), 2) := by decide +kernel
theorem dX11_tellTune_131 : decode cX11_tellTune 131 = .ok (.ireturn, 1) := by decide +kernel
theorem dX11_told_0 : decode cX11_told 0 = .ok (.aload_n 0, 1) := by decide +kernel
theorem dX11_told_1 : decode cX11_told 1 = .ok (.iload_n 1, 1) := by decide +kernel
theorem dX11_told_2 : decode cX11_told 2 = .ok (.invokevirtual 172, 3) := by decide +kernel
theorem dX11_told_5 : decode cX11_told 5 = .ok (.ifCond .eq 12, 3) := by decide +kernel
theorem dX11_told_8 : decode cX11_told 8 = .ok (.aload_n 0, 1) := by decide +kernel
theorem dX11_told_9 : decode cX11_told 9 = .ok (.iload_n 1, 1) := by decide +kernel
theorem dX11_told_10 : decode cX11_told 10 = .ok (.iload_n 2, 1) := by decide +kernel
theorem dX11_told_11 : decode cX11_told 11 = .ok (.invokevirtual 175, 3) := by decide +kernel
theorem dX11_told_14 : decode cX11_told 14 = .ok (.goto 5, 3) := by decide +kernel
theorem dX11_told_17 : decode cX11_told 17 = .ok (.bipush (-101), 2) := by decide +kernel
theorem dX11_told_19 : decode cX11_told 19 = .ok (.ireturn, 1) := by decide +kernel
theorem dX11_lowered_0 : decode cX11_lowered 0 = .ok (.iload_n 0, 1) := by decide +kernel
theorem dX11_lowered_1 : decode cX11_lowered 1 = .ok (.iload_n 1, 1) := by decide +kernel
theorem dX11_lowered_2 : decode cX11_lowered 2 = .ok (.invokestatic 144, 3) := by decide +kernel
theorem dX11_lowered_5 : decode cX11_lowered 5 = .ok (.istore_n 2, 1) := by decide +kernel
theorem dX11_lowered_6 : decode cX11_lowered 6 = .ok (.iload_n 2, 1) := by decide +kernel
theorem dX11_lowered_7 : decode cX11_lowered 7 = .ok (.iconst 4, 1) := by decide +kernel
theorem dX11_lowered_8 : decode cX11_lowered 8 = .ok (.if_icmp .eq 15, 3) := by decide +kernel
theorem dX11_lowered_11 : decode cX11_lowered 11 = .ok (.iload_n 2, 1) := by decide +kernel
theorem dX11_lowered_12 : decode cX11_lowered 12 = .ok (.bipush 9, 2) := by decide +kernel
theorem dX11_lowered_14 : decode cX11_lowered 14 = .ok (.if_icmp .eq 9, 3) := by decide +kernel
theorem dX11_lowered_17 : decode cX11_lowered 17 = .ok (.iload_n 2, 1) := by decide +kernel
theorem dX11_lowered_18 : decode cX11_lowered 18 = .ok (.bipush 11, 2) := by decide +kernel
theorem dX11_lowered_20 : decode cX11_lowered 20 = .ok (.if_icmp .ne 11, 3) := by decide +kernel
theorem dX11_lowered_23 : decode cX11_lowered 23 = .ok (.iload_n 0, 1) := by decide +kernel
theorem dX11_lowered_24 : decode cX11_lowered 24 = .ok (.iconst 1, 1) := by decide +kernel
theorem dX11_lowered_25 : decode cX11_lowered 25 = .ok (.invokestatic 144, 3) := by decide +kernel
theorem dX11_lowered_28 : decode cX11_lowered 28 = .ok (.goto 4, 3) := by decide +kernel
theorem dX11_lowered_31 : decode cX11_lowered 31 = .ok (.iload_n 0, 1) := by decide +kernel
theorem dX11_lowered_32 : decode cX11_lowered 32 = .ok (.ireturn, 1) := by decide +kernel
theorem dX11_go_0 : decode cX11_go 0 = .ok (.iconst 0, 1) := by decide +kernel
theorem dX11_go_1 : decode cX11_go 1 = .ok (.istore 4, 2) := by decide +kernel
theorem dX11_go_3 : decode cX11_go 3 = .ok (.iload 4, 2) := by decide +kernel
theorem dX11_go_5 : decode cX11_go 5 = .ok (.iload_n 3, 1) := by decide +kernel
theorem dX11_go_6 : decode cX11_go 6 = .ok (.if_icmp .ge 95, 3) := by decide +kernel
theorem dX11_go_9 : decode cX11_go 9 = .ok (.aload_n 2, 1) := by decide +kernel
theorem dX11_go_10 : decode cX11_go 10 = .ok (.iload 4, 2) := by decide +kernel
theorem dX11_go_12 : decode cX11_go 12 = .ok (.iaload, 1) := by decide +kernel
theorem dX11_go_13 : decode cX11_go 13 = .ok (.istore 5, 2) := by decide +kernel
theorem dX11_go_15 : decode cX11_go 15 = .ok (.iload_n 0, 1) := by decide +kernel
theorem dX11_go_16 : decode cX11_go 16 = .ok (.tableswitch 68 1 4 #[32, 45, 58, 32], 32) := by decide +kernel
theorem dX11_go_48 : decode cX11_go 48 = .ok (.aload_n 2, 1) := by decide +kernel
theorem dX11_go_49 : decode cX11_go 49 = .ok (.iload 4, 2) := by decide +kernel
theorem dX11_go_51 : decode cX11_go 51 = .ok (.iload 5, 2) := by decide +kernel
theorem dX11_go_53 : decode cX11_go 53 = .ok (.iload_n 1, 1) := by decide +kernel
theorem dX11_go_54 : decode cX11_go 54 = .ok (.invokestatic 178, 3) := by decide +kernel
theorem dX11_go_57 : decode cX11_go 57 = .ok (.iastore, 1) := by decide +kernel
theorem dX11_go_58 : decode cX11_go 58 = .ok (.goto 37, 3) := by decide +kernel
theorem dX11_go_61 : decode cX11_go 61 = .ok (.aload_n 2, 1) := by decide +kernel
theorem dX11_go_62 : decode cX11_go 62 = .ok (.iload 4, 2) := by decide +kernel
theorem dX11_go_64 : decode cX11_go 64 = .ok (.iload_n 1, 1) := by decide +kernel
theorem dX11_go_65 : decode cX11_go 65 = .ok (.iload 5, 2) := by decide +kernel
theorem dX11_go_67 : decode cX11_go 67 = .ok (.invokestatic 144, 3) := by decide +kernel
theorem dX11_go_70 : decode cX11_go 70 = .ok (.iastore, 1) := by decide +kernel
theorem dX11_go_71 : decode cX11_go 71 = .ok (.goto 24, 3) := by decide +kernel
theorem dX11_go_74 : decode cX11_go 74 = .ok (.aload_n 2, 1) := by decide +kernel
theorem dX11_go_75 : decode cX11_go 75 = .ok (.iload 4, 2) := by decide +kernel
theorem dX11_go_77 : decode cX11_go 77 = .ok (.aload_n 2, 1) := by decide +kernel
theorem dX11_go_78 : decode cX11_go 78 = .ok (.iconst 0, 1) := by decide +kernel
theorem dX11_go_79 : decode cX11_go 79 = .ok (.iaload, 1) := by decide +kernel
theorem dX11_go_80 : decode cX11_go 80 = .ok (.iastore, 1) := by decide +kernel
theorem dX11_go_81 : decode cX11_go 81 = .ok (.goto 14, 3) := by decide +kernel
theorem dX11_go_84 : decode cX11_go 84 = .ok (.aload_n 2, 1) := by decide +kernel
theorem dX11_go_85 : decode cX11_go 85 = .ok (.iload 4, 2) := by decide +kernel
theorem dX11_go_87 : decode cX11_go 87 = .ok (.iload 5, 2) := by decide +kernel
theorem dX11_go_89 : decode cX11_go 89 = .ok (.iload_n 1, 1) := by decide +kernel
theorem dX11_go_90 : decode cX11_go 90 = .ok (.iadd, 1) := by decide +kernel
theorem dX11_go_91 : decode cX11_go 91 = .ok (.bipush 12, 2) := by decide +kernel
theorem dX11_go_93 : decode cX11_go 93 = .ok (.irem, 1) := by decide +kernel
theorem dX11_go_94 : decode cX11_go 94 = .ok (.iastore, 1) := by decide +kernel
theorem dX11_go_95 : decode cX11_go 95 = .ok (.iinc 4 1, 3) := by decide +kernel
theorem dX11_go_98 : decode cX11_go 98 = .ok (.goto (-95), 3) := by decide +kernel
theorem dX11_go_101 : decode cX11_go 101 = .ok (.aload_n 2, 1) := by decide +kernel
theorem dX11_go_102 : decode cX11_go 102 = .ok (.iload_n 3, 1) := by decide +kernel
theorem dX11_go_103 : decode cX11_go 103 = .ok (.iconst 1, 1) := by decide +kernel
theorem dX11_go_104 : decode cX11_go 104 = .ok (.isub, 1) := by decide +kernel
theorem dX11_go_105 : decode cX11_go 105 = .ok (.iaload, 1) := by decide +kernel
theorem dX11_go_106 : decode cX11_go 106 = .ok (.istore 4, 2) := by decide +kernel
theorem dX11_go_108 : decode cX11_go 108 = .ok (.iload_n 0, 1) := by decide +kernel
theorem dX11_go_109 : decode cX11_go 109 = .ok (.iconst 4, 1) := by decide +kernel
theorem dX11_go_110 : decode cX11_go 110 = .ok (.if_icmp .ne 25, 3) := by decide +kernel
theorem dX11_go_113 : decode cX11_go 113 = .ok (.iload 4, 2) := by decide +kernel
theorem dX11_go_115 : decode cX11_go 115 = .ok (.iload_n 1, 1) := by decide +kernel
theorem dX11_go_116 : decode cX11_go 116 = .ok (.invokestatic 144, 3) := by decide +kernel
theorem dX11_go_119 : decode cX11_go 119 = .ok (.iconst 3, 1) := by decide +kernel
theorem dX11_go_120 : decode cX11_go 120 = .ok (.if_icmp .ne 15, 3) := by decide +kernel
theorem dX11_go_123 : decode cX11_go 123 = .ok (.aload_n 2, 1) := by decide +kernel
theorem dX11_go_124 : decode cX11_go 124 = .ok (.iload_n 3, 1) := by decide +kernel
theorem dX11_go_125 : decode cX11_go 125 = .ok (.iconst 1, 1) := by decide +kernel
theorem dX11_go_126 : decode cX11_go 126 = .ok (.isub, 1) := by decide +kernel
theorem dX11_go_127 : decode cX11_go 127 = .ok (.iload 4, 2) := by decide +kernel
theorem dX11_go_129 : decode cX11_go 129 = .ok (.iconst 1, 1) := by decide +kernel
theorem dX11_go_130 : decode cX11_go 130 = .ok (.iadd, 1) := by decide +kernel
theorem dX11_go_131 : decode cX11_go 131 = .ok (.bipush 12, 2) := by decide +kernel
theorem dX11_go_133 : decode cX11_go 133 = .ok (.irem, 1) := by decide +kernel
theorem dX11_go_134 : decode cX11_go 134 = .ok (.iastore, 1) := by decide +kernel
theorem dX11_go_135 : decode cX11_go 135 = .ok (.return_, 1) := by decide +kernel
theorem dX11_comesOut_0 : decode cX11_comesOut 0 = .ok (.aload_n 0, 1) := by decide +kernel
theorem dX11_comesOut_1 : decode cX11_comesOut 1 = .ok (.getfield 28, 3) := by decide +kernel
theorem dX11_comesOut_4 : decode cX11_comesOut 4 = .ok (.iconst 0, 1) := by decide +kernel
theorem dX11_comesOut_5 : decode cX11_comesOut 5 = .ok (.iload_n 3, 1) := by decide +kernel
theorem dX11_comesOut_6 : decode cX11_comesOut 6 = .ok (.iastore, 1) := by decide +kernel
theorem dX11_comesOut_7 : decode cX11_comesOut 7 = .ok (.iload_n 1, 1) := by decide +kernel
theorem dX11_comesOut_8 : decode cX11_comesOut 8 = .ok (.iload_n 2, 1) := by decide +kernel
theorem dX11_comesOut_9 : decode cX11_comesOut 9 = .ok (.aload_n 0, 1) := by decide +kernel
theorem dX11_comesOut_10 : decode cX11_comesOut 10 = .ok (.getfield 28, 3) := by decide +kernel
theorem dX11_comesOut_13 : decode cX11_comesOut 13 = .ok (.iconst 1, 1) := by decide +kernel
theorem dX11_comesOut_14 : decode cX11_comesOut 14 = .ok (.invokestatic 181, 3) := by decide +kernel
theorem dX11_comesOut_17 : decode cX11_comesOut 17 = .ok (.aload_n 0, 1) := by decide +kernel
theorem dX11_comesOut_18 : decode cX11_comesOut 18 = .ok (.getfield 28, 3) := by decide +kernel
theorem dX11_comesOut_21 : decode cX11_comesOut 21 = .ok (.iconst 0, 1) := by decide +kernel
theorem dX11_comesOut_22 : decode cX11_comesOut 22 = .ok (.iaload, 1) := by decide +kernel
theorem dX11_comesOut_23 : decode cX11_comesOut 23 = .ok (.ireturn, 1) := by decide +kernel
theorem dX11_goStreet_0 : decode cX11_goStreet 0 = .ok (.aload_n 0, 1) := by decide +kernel
theorem dX11_goStreet_1 : decode cX11_goStreet 1 = .ok (.getfield 13, 3) := by decide +kernel
theorem dX11_goStreet_4 : decode cX11_goStreet 4 = .ok (.iconst 3, 1) := by decide +kernel
theorem dX11_goStreet_5 : decode cX11_goStreet 5 = .ok (.iload_n 1, 1) := by decide +kernel
theorem dX11_goStreet_6 : decode cX11_goStreet 6 = .ok (.imul, 1) := by decide +kernel
theorem dX11_goStreet_7 : decode cX11_goStreet 7 = .ok (.iaload, 1) := by decide +kernel
theorem dX11_goStreet_8 : decode cX11_goStreet 8 = .ok (.aload_n 0, 1) := by decide +kernel
theorem dX11_goStreet_9 : decode cX11_goStreet 9 = .ok (.getfield 16, 3) := by decide +kernel
theorem dX11_goStreet_12 : decode cX11_goStreet 12 = .ok (.iload_n 1, 1) := by decide +kernel
theorem dX11_goStreet_13 : decode cX11_goStreet 13 = .ok (.iaload, 1) := by decide +kernel
theorem dX11_goStreet_14 : decode cX11_goStreet 14 = .ok (.aload_n 2, 1) := by decide +kernel
theorem dX11_goStreet_15 : decode cX11_goStreet 15 = .ok (.iload_n 3, 1) := by decide +kernel
theorem dX11_goStreet_16 : decode cX11_goStreet 16 = .ok (.invokestatic 181, 3) := by decide +kernel
theorem dX11_goStreet_19 : decode cX11_goStreet 19 = .ok (.return_, 1) := by decide +kernel
theorem dX11_comes_0 : decode cX11_comes 0 = .ok (.aload_n 0, 1) := by decide +kernel
theorem dX11_comes_1 : decode cX11_comes 1 = .ok (.iload_n 1, 1) := by decide +kernel
theorem dX11_comes_2 : decode cX11_comes 2 = .ok (.invokevirtual 185, 3) := by decide +kernel
theorem dX11_comes_5 : decode cX11_comes 5 = .ok (.ifCond .ne 6, 3) := by decide +kernel
theorem dX11_comes_8 : decode cX11_comes 8 = .ok (.bipush (-101), 2) := by decide +kernel
theorem dX11_comes_10 : decode cX11_comes 10 = .ok (.ireturn, 1) := by decide +kernel
theorem dX11_comes_11 : decode cX11_comes 11 = .ok (.iload_n 2, 1) := by decide +kernel
theorem dX11_comes_12 : decode cX11_comes 12 = .ok (.invokestatic 188, 3) := by decide +kernel
theorem dX11_comes_15 : decode cX11_comes 15 = .ok (.ifCond .eq 25, 3) := by decide +kernel
theorem dX11_comes_18 : decode cX11_comes 18 = .ok (.aload_n 0, 1) := by decide +kernel
theorem dX11_comes_19 : decode cX11_comes 19 = .ok (.aload_n 0, 1) := by decide +kernel
theorem dX11_comes_20 : decode cX11_comes 20 = .ok (.getfield 13, 3) := by decide +kernel
theorem dX11_comes_23 : decode cX11_comes 23 = .ok (.iconst 3, 1) := by decide +kernel
theorem dX11_comes_24 : decode cX11_comes 24 = .ok (.iload_n 1, 1) := by decide +kernel
theorem dX11_comes_25 : decode cX11_comes 25 = .ok (.imul, 1) := by decide +kernel
theorem dX11_comes_26 : decode cX11_comes 26 = .ok (.iaload, 1) := by decide +kernel
theorem dX11_comes_27 : decode cX11_comes 27 = .ok (.aload_n 0, 1) := by decide +kernel
theorem dX11_comes_28 : decode cX11_comes 28 = .ok (.getfield 16, 3) := by decide +kernel
theorem dX11_comes_31 : decode cX11_comes 31 = .ok (.iload_n 1, 1) := by decide +kernel
theorem dX11_comes_32 : decode cX11_comes 32 = .ok (.iaload, 1) := by decide +kernel
theorem dX11_comes_33 : decode cX11_comes 33 = .ok (.iload_n 2, 1) := by decide +kernel
theorem dX11_comes_34 : decode cX11_comes 34 = .ok (.invokevirtual 191, 3) := by decide +kernel
theorem dX11_comes_37 : decode cX11_comes 37 = .ok (.goto 5, 3) := by decide +kernel
theorem dX11_comes_40 : decode cX11_comes 40 = .ok (.bipush (-102), 2) := by decide +kernel
theorem dX11_comes_42 : decode cX11_comes 42 = .ok (.ireturn, 1) := by decide +kernel
theorem dX11_leavesOf_0 : decode cX11_leavesOf 0 = .ok (.iconst 0, 1) := by decide +kernel
theorem dX11_leavesOf_1 : decode cX11_leavesOf 1 = .ok (.istore_n 2, 1) := by decide +kernel
theorem dX11_leavesOf_2 : decode cX11_leavesOf 2 = .ok (.iconst 0, 1) := by decide +kernel
theorem dX11_leavesOf_3 : decode cX11_leavesOf 3 = .ok (.istore_n 3, 1) := by decide +kernel
theorem dX11_leavesOf_4 : decode cX11_leavesOf 4 = .ok (.iload_n 3, 1) := by decide +kernel
theorem dX11_leavesOf_5 : decode cX11_leavesOf 5 = .ok (.bipush 12, 2) := by decide +kernel
theorem dX11_leavesOf_7 : decode cX11_leavesOf 7 = .ok (.if_icmp .ge 42, 3) := by decide +kernel
theorem dX11_leavesOf_10 : decode cX11_leavesOf 10 = .ok (.iload_n 2, 1) := by decide +kernel
theorem dX11_leavesOf_11 : decode cX11_leavesOf 11 = .ok (.aload_n 0, 1) := by decide +kernel
theorem dX11_leavesOf_12 : decode cX11_leavesOf 12 = .ok (.aload_n 0, 1) := by decide +kernel
theorem dX11_leavesOf_13 : decode cX11_leavesOf 13 = .ok (.getfield 13, 3) := by decide +kernel
theorem dX11_leavesOf_16 : decode cX11_leavesOf 16 = .ok (.iconst 3, 1) := by decide +kernel
theorem dX11_leavesOf_17 : decode cX11_leavesOf 17 = .ok (.iload_n 1, 1) := by decide +kernel
theorem dX11_leavesOf_18 : decode cX11_leavesOf 18 = .ok (.imul, 1) := by decide +kernel
theorem dX11_leavesOf_19 : decode cX11_leavesOf 19 = .ok (.iaload, 1) := by decide +kernel
theorem dX11_leavesOf_20 : decode cX11_leavesOf 20 = .ok (.aload_n 0, 1) := by decide +kernel
theorem dX11_leavesOf_21 : decode cX11_leavesOf 21 = .ok (.getfield 16, 3) := by decide +kernel
theorem dX11_leavesOf_24 : decode cX11_leavesOf 24 = .ok (.iload_n 1, 1) := by decide +kernel
theorem dX11_leavesOf_25 : decode cX11_leavesOf 25 = .ok (.iaload, 1) := by decide +kernel
theorem dX11_leavesOf_26 : decode cX11_leavesOf 26 = .ok (.iload_n 3, 1) := by decide +kernel
theorem dX11_leavesOf_27 : decode cX11_leavesOf 27 = .ok (.invokevirtual 191, 3) := by decide +kernel
theorem dX11_leavesOf_30 : decode cX11_leavesOf 30 = .ok (.iload_n 3, 1) := by decide +kernel
theorem dX11_leavesOf_31 : decode cX11_leavesOf 31 = .ok (.if_icmp .ne 9, 3) := by decide +kernel
theorem dX11_leavesOf_34 : decode cX11_leavesOf 34 = .ok (.iconst 1, 1) := by decide +kernel
theorem dX11_leavesOf_35 : decode cX11_leavesOf 35 = .ok (.iload_n 3, 1) := by decide +kernel
theorem dX11_leavesOf_36 : decode cX11_leavesOf 36 = .ok (.ishl, 1) := by decide +kernel
theorem dX11_leavesOf_37 : decode cX11_leavesOf 37 = .ok (.goto 4, 3) := by decide +kernel
theorem dX11_leavesOf_40 : decode cX11_leavesOf 40 = .ok (.iconst 0, 1) := by decide +kernel
theorem dX11_leavesOf_41 : decode cX11_leavesOf 41 = .ok (.ior, 1) := by decide +kernel
theorem dX11_leavesOf_42 : decode cX11_leavesOf 42 = .ok (.istore_n 2, 1) := by decide +kernel
theorem dX11_leavesOf_43 : decode cX11_leavesOf 43 = .ok (.iinc 3 1, 3) := by decide +kernel
theorem dX11_leavesOf_46 : decode cX11_leavesOf 46 = .ok (.goto (-42), 3) := by decide +kernel
theorem dX11_leavesOf_49 : decode cX11_leavesOf 49 = .ok (.iload_n 2, 1) := by decide +kernel
theorem dX11_leavesOf_50 : decode cX11_leavesOf 50 = .ok (.ireturn, 1) := by decide +kernel
theorem dX11_isAs_0 : decode cX11_isAs 0 = .ok (.iload_n 1, 1) := by decide +kernel
theorem dX11_isAs_1 : decode cX11_isAs 1 = .ok (.iload_n 3, 1) := by decide +kernel
theorem dX11_isAs_2 : decode cX11_isAs 2 = .ok (.if_icmp .ne 7, 3) := by decide +kernel
theorem dX11_isAs_5 : decode cX11_isAs 5 = .ok (.iconst 1, 1) := by decide +kernel
theorem dX11_isAs_6 : decode cX11_isAs 6 = .ok (.goto 4, 3) := by decide +kernel
theorem dX11_isAs_9 : decode cX11_isAs 9 = .ok (.iconst 0, 1) := by decide +kernel
theorem dX11_isAs_10 : decode cX11_isAs 10 = .ok (.istore 4, 2) := by decide +kernel
theorem dX11_isAs_12 : decode cX11_isAs 12 = .ok (.iconst 0, 1) := by decide +kernel
theorem dX11_isAs_13 : decode cX11_isAs 13 = .ok (.istore 5, 2) := by decide +kernel
theorem dX11_isAs_15 : decode cX11_isAs 15 = .ok (.iload 5, 2) := by decide +kernel
theorem dX11_isAs_17 : decode cX11_isAs 17 = .ok (.iload_n 1, 1) := by decide +kernel
theorem dX11_isAs_18 : decode cX11_isAs 18 = .ok (.if_icmp .ge 32, 3) := by decide +kernel
theorem dX11_isAs_21 : decode cX11_isAs 21 = .ok (.iload 4, 2) := by decide +kernel
theorem dX11_isAs_23 : decode cX11_isAs 23 = .ok (.ifCond .eq 27, 3) := by decide +kernel
theorem dX11_isAs_26 : decode cX11_isAs 26 = .ok (.aload_n 0, 1) := by decide +kernel
theorem dX11_isAs_27 : decode cX11_isAs 27 = .ok (.iload 5, 2) := by decide +kernel
theorem dX11_isAs_29 : decode cX11_isAs 29 = .ok (.iaload, 1) := by decide +kernel
theorem dX11_isAs_30 : decode cX11_isAs 30 = .ok (.aload_n 2, 1) := by decide +kernel
theorem dX11_isAs_31 : decode cX11_isAs 31 = .ok (.iload 5, 2) := by decide +kernel
theorem dX11_isAs_33 : decode cX11_isAs 33 = .ok (.iaload, 1) := by decide +kernel
theorem dX11_isAs_34 : decode cX11_isAs 34 = .ok (.if_icmp .ne 7, 3) := by decide +kernel
theorem dX11_isAs_37 : decode cX11_isAs 37 = .ok (.iconst 1, 1) := by decide +kernel
theorem dX11_isAs_38 : decode cX11_isAs 38 = .ok (.goto 4, 3) := by decide +kernel
theorem dX11_isAs_41 : decode cX11_isAs 41 = .ok (.iconst 0, 1) := by decide +kernel
theorem dX11_isAs_42 : decode cX11_isAs 42 = .ok (.istore 4, 2) := by decide +kernel
theorem dX11_isAs_44 : decode cX11_isAs 44 = .ok (.iinc 5 1, 3) := by decide +kernel
theorem dX11_isAs_47 : decode cX11_isAs 47 = .ok (.goto (-32), 3) := by decide +kernel
theorem dX11_isAs_50 : decode cX11_isAs 50 = .ok (.iload 4, 2) := by decide +kernel
theorem dX11_isAs_52 : decode cX11_isAs 52 = .ok (.ireturn, 1) := by decide +kernel
theorem dX11_againOf_0 : decode cX11_againOf 0 = .ok (.aload_n 0, 1) := by decide +kernel
theorem dX11_againOf_1 : decode cX11_againOf 1 = .ok (.getfield 22, 3) := by decide +kernel
theorem dX11_againOf_4 : decode cX11_againOf 4 = .ok (.aload_n 0, 1) := by decide +kernel
theorem dX11_againOf_5 : decode cX11_againOf 5 = .ok (.getfield 31, 3) := by decide +kernel
theorem dX11_againOf_8 : decode cX11_againOf 8 = .ok (.invokestatic 195, 3) := by decide +kernel
theorem dX11_againOf_11 : decode cX11_againOf 11 = .ok (.iconst 1, 1) := by decide +kernel
theorem dX11_againOf_12 : decode cX11_againOf 12 = .ok (.istore_n 2, 1) := by decide +kernel
theorem dX11_againOf_13 : decode cX11_againOf 13 = .ok (.iload_n 2, 1) := by decide +kernel
theorem dX11_againOf_14 : decode cX11_againOf 14 = .ok (.bipush 25, 2) := by decide +kernel
theorem dX11_againOf_16 : decode cX11_againOf 16 = .ok (.if_icmp .ge 53, 3) := by decide +kernel
theorem dX11_againOf_19 : decode cX11_againOf 19 = .ok (.aload_n 0, 1) := by decide +kernel
theorem dX11_againOf_20 : decode cX11_againOf 20 = .ok (.getfield 135, 3) := by decide +kernel
theorem dX11_againOf_23 : decode cX11_againOf 23 = .ok (.ifCond .le 46, 3) := by decide +kernel
theorem dX11_againOf_26 : decode cX11_againOf 26 = .ok (.aload_n 0, 1) := by decide +kernel
theorem dX11_againOf_27 : decode cX11_againOf 27 = .ok (.iload_n 1, 1) := by decide +kernel
theorem dX11_againOf_28 : decode cX11_againOf 28 = .ok (.aload_n 0, 1) := by decide +kernel
theorem dX11_againOf_29 : decode cX11_againOf 29 = .ok (.getfield 31, 3) := by decide +kernel
theorem dX11_againOf_32 : decode cX11_againOf 32 = .ok (.aload_n 0, 1) := by decide +kernel
theorem dX11_againOf_33 : decode cX11_againOf 33 = .ok (.getfield 135, 3) := by decide +kernel
theorem dX11_againOf_36 : decode cX11_againOf 36 = .ok (.invokevirtual 199, 3) := by decide +kernel
theorem dX11_againOf_39 : decode cX11_againOf 39 = .ok (.aload_n 0, 1) := by decide +kernel
theorem dX11_againOf_40 : decode cX11_againOf 40 = .ok (.getfield 31, 3) := by decide +kernel
theorem dX11_againOf_43 : decode cX11_againOf 43 = .ok (.aload_n 0, 1) := by decide +kernel
theorem dX11_againOf_44 : decode cX11_againOf 44 = .ok (.getfield 135, 3) := by decide +kernel
theorem dX11_againOf_47 : decode cX11_againOf 47 = .ok (.aload_n 0, 1) := by decide +kernel
theorem dX11_againOf_48 : decode cX11_againOf 48 = .ok (.getfield 22, 3) := by decide +kernel
theorem dX11_againOf_51 : decode cX11_againOf 51 = .ok (.aload_n 0, 1) := by decide +kernel
theorem dX11_againOf_52 : decode cX11_againOf 52 = .ok (.getfield 135, 3) := by decide +kernel
theorem dX11_againOf_55 : decode cX11_againOf 55 = .ok (.invokestatic 203, 3) := by decide +kernel
theorem dX11_againOf_58 : decode cX11_againOf 58 = .ok (.ifCond .eq 5, 3) := by decide +kernel
theorem dX11_againOf_61 : decode cX11_againOf 61 = .ok (.iload_n 2, 1) := by decide +kernel
theorem dX11_againOf_62 : decode cX11_againOf 62 = .ok (.ireturn, 1) := by decide +kernel
theorem dX11_againOf_63 : decode cX11_againOf 63 = .ok (.iinc 2 1, 3) := by decide +kernel
theorem dX11_againOf_66 : decode cX11_againOf 66 = .ok (.goto (-53), 3) := by decide +kernel
theorem dX11_againOf_69 : decode cX11_againOf 69 = .ok (.iconst (-1), 1) := by decide +kernel
theorem dX11_againOf_70 : decode cX11_againOf 70 = .ok (.ireturn, 1) := by decide +kernel
theorem dX11_endsAt_0 : decode cX11_endsAt 0 = .ok (.aload_n 0, 1) := by decide +kernel
theorem dX11_endsAt_1 : decode cX11_endsAt 1 = .ok (.getfield 13, 3) := by decide +kernel
theorem dX11_endsAt_4 : decode cX11_endsAt 4 = .ok (.iconst 3, 1) := by decide +kernel
theorem dX11_endsAt_5 : decode cX11_endsAt 5 = .ok (.iload_n 1, 1) := by decide +kernel
theorem dX11_endsAt_6 : decode cX11_endsAt 6 = .ok (.imul, 1) := by decide +kernel
theorem dX11_endsAt_7 : decode cX11_endsAt 7 = .ok (.iconst 1, 1) := by decide +kernel
theorem dX11_endsAt_8 : decode cX11_endsAt 8 = .ok (.iadd, 1) := by decide +kernel
theorem dX11_endsAt_9 : decode cX11_endsAt 9 = .ok (.iaload, 1) := by decide +kernel
theorem dX11_endsAt_10 : decode cX11_endsAt 10 = .ok (.iload_n 2, 1) := by decide +kernel
theorem dX11_endsAt_11 : decode cX11_endsAt 11 = .ok (.if_icmp .eq 17, 3) := by decide +kernel
theorem dX11_endsAt_14 : decode cX11_endsAt 14 = .ok (.aload_n 0, 1) := by decide +kernel
theorem dX11_endsAt_15 : decode cX11_endsAt 15 = .ok (.getfield 13, 3) := by decide +kernel
theorem dX11_endsAt_18 : decode cX11_endsAt 18 = .ok (.iconst 3, 1) := by decide +kernel
theorem dX11_endsAt_19 : decode cX11_endsAt 19 = .ok (.iload_n 1, 1) := by decide +kernel
theorem dX11_endsAt_20 : decode cX11_endsAt 20 = .ok (.imul, 1) := by decide +kernel
theorem dX11_endsAt_21 : decode cX11_endsAt 21 = .ok (.iconst 2, 1) := by decide +kernel
theorem dX11_endsAt_22 : decode cX11_endsAt 22 = .ok (.iadd, 1) := by decide +kernel
theorem dX11_endsAt_23 : decode cX11_endsAt 23 = .ok (.iaload, 1) := by decide +kernel
theorem dX11_endsAt_24 : decode cX11_endsAt 24 = .ok (.iload_n 2, 1) := by decide +kernel
theorem dX11_endsAt_25 : decode cX11_endsAt 25 = .ok (.if_icmp .ne 7, 3) := by decide +kernel
theorem dX11_endsAt_28 : decode cX11_endsAt 28 = .ok (.iconst 1, 1) := by decide +kernel
theorem dX11_endsAt_29 : decode cX11_endsAt 29 = .ok (.goto 4, 3) := by decide +kernel
theorem dX11_endsAt_32 : decode cX11_endsAt 32 = .ok (.iconst 0, 1) := by decide +kernel
theorem dX11_endsAt_33 : decode cX11_endsAt 33 = .ok (.ireturn, 1) := by decide +kernel
theorem dX11_otherEnd_0 : decode cX11_otherEnd 0 = .ok (.aload_n 0, 1) := by decide +kernel
theorem dX11_otherEnd_1 : decode cX11_otherEnd 1 = .ok (.getfield 13, 3) := by decide +kernel
theorem dX11_otherEnd_4 : decode cX11_otherEnd 4 = .ok (.iconst 3, 1) := by decide +kernel
theorem dX11_otherEnd_5 : decode cX11_otherEnd 5 = .ok (.iload_n 1, 1) := by decide +kernel
theorem dX11_otherEnd_6 : decode cX11_otherEnd 6 = .ok (.imul, 1) := by decide +kernel
theorem dX11_otherEnd_7 : decode cX11_otherEnd 7 = .ok (.iconst 1, 1) := by decide +kernel
theorem dX11_otherEnd_8 : decode cX11_otherEnd 8 = .ok (.iadd, 1) := by decide +kernel
theorem dX11_otherEnd_9 : decode cX11_otherEnd 9 = .ok (.iaload, 1) := by decide +kernel
theorem dX11_otherEnd_10 : decode cX11_otherEnd 10 = .ok (.aload_n 0, 1) := by decide +kernel
theorem dX11_otherEnd_11 : decode cX11_otherEnd 11 = .ok (.getfield 13, 3) := by decide +kernel
theorem dX11_otherEnd_14 : decode cX11_otherEnd 14 = .ok (.iconst 3, 1) := by decide +kernel
theorem dX11_otherEnd_15 : decode cX11_otherEnd 15 = .ok (.iload_n 1, 1) := by decide +kernel
theorem dX11_otherEnd_16 : decode cX11_otherEnd 16 = .ok (.imul, 1) := by decide +kernel
theorem dX11_otherEnd_17 : decode cX11_otherEnd 17 = .ok (.iconst 2, 1) := by decide +kernel
theorem dX11_otherEnd_18 : decode cX11_otherEnd 18 = .ok (.iadd, 1) := by decide +kernel
theorem dX11_otherEnd_19 : decode cX11_otherEnd 19 = .ok (.iaload, 1) := by decide +kernel
theorem dX11_otherEnd_20 : decode cX11_otherEnd 20 = .ok (.iadd, 1) := by decide +kernel
theorem dX11_otherEnd_21 : decode cX11_otherEnd 21 = .ok (.iload_n 2, 1) := by decide +kernel
theorem dX11_otherEnd_22 : decode cX11_otherEnd 22 = .ok (.isub, 1) := by decide +kernel
theorem dX11_otherEnd_23 : decode cX11_otherEnd 23 = .ok (.ireturn, 1) := by decide +kernel
theorem dX11_isOpen_0 : decode cX11_isOpen 0 = .ok (.aload_n 0, 1) := by decide +kernel
theorem dX11_isOpen_1 : decode cX11_isOpen 1 = .ok (.getfield 13, 3) := by decide +kernel
theorem dX11_isOpen_4 : decode cX11_isOpen 4 = .ok (.iconst 3, 1) := by decide +kernel
theorem dX11_isOpen_5 : decode cX11_isOpen 5 = .ok (.iload_n 1, 1) := by decide +kernel
theorem dX11_isOpen_6 : decode cX11_isOpen 6 = .ok (.imul, 1) := by decide +kernel
theorem dX11_isOpen_7 : decode cX11_isOpen 7 = .ok (.iaload, 1) := by decide +kernel
theorem dX11_isOpen_8 : decode cX11_isOpen 8 = .ok (.iconst 2, 1) := by decide +kernel
theorem dX11_isOpen_9 : decode cX11_isOpen 9 = .ok (.if_icmp .ne 18, 3) := by decide +kernel
theorem dX11_isOpen_12 : decode cX11_isOpen 12 = .ok (.aload_n 0, 1) := by decide +kernel
theorem dX11_isOpen_13 : decode cX11_isOpen 13 = .ok (.getfield 114, 3) := by decide +kernel
theorem dX11_isOpen_16 : decode cX11_isOpen 16 = .ok (.ifCond .eq 11, 3) := by decide +kernel
theorem dX11_isOpen_19 : decode cX11_isOpen 19 = .ok (.aload_n 2, 1) := by decide +kernel
theorem dX11_isOpen_20 : decode cX11_isOpen 20 = .ok (.iload_n 3, 1) := by decide +kernel
theorem dX11_isOpen_21 : decode cX11_isOpen 21 = .ok (.invokestatic 162, 3) := by decide +kernel
theorem dX11_isOpen_24 : decode cX11_isOpen 24 = .ok (.ifCond .ne 7, 3) := by decide +kernel
theorem dX11_isOpen_27 : decode cX11_isOpen 27 = .ok (.iconst 1, 1) := by decide +kernel
theorem dX11_isOpen_28 : decode cX11_isOpen 28 = .ok (.goto 4, 3) := by decide +kernel
theorem dX11_isOpen_31 : decode cX11_isOpen 31 = .ok (.iconst 0, 1) := by decide +kernel
theorem dX11_isOpen_32 : decode cX11_isOpen 32 = .ok (.ireturn, 1) := by decide +kernel
theorem dX11_tellStreet_0 : decode cX11_tellStreet 0 = .ok (.iload_n 2, 1) := by decide +kernel
theorem dX11_tellStreet_1 : decode cX11_tellStreet 1 = .ok (.tableswitch 100 0 8 #[51, 51, 51, 62, 69, 75, 81, 87, 93], 51) := by decide +kernel
theorem dX11_tellStreet_52 : decode cX11_tellStreet 52 = .ok (.aload_n 0, 1) := by decide +kernel
theorem dX11_tellStreet_53 : decode cX11_tellStreet 53 = .ok (.getfield 13, 3) := by decide +kernel
theorem dX11_tellStreet_56 : decode cX11_tellStreet 56 = .ok (.iconst 3, 1) := by decide +kernel
theorem dX11_tellStreet_57 : decode cX11_tellStreet 57 = .ok (.iload_n 1, 1) := by decide +kernel
theorem dX11_tellStreet_58 : decode cX11_tellStreet 58 = .ok (.imul, 1) := by decide +kernel
theorem dX11_tellStreet_59 : decode cX11_tellStreet 59 = .ok (.iload_n 2, 1) := by decide +kernel
theorem dX11_tellStreet_60 : decode cX11_tellStreet 60 = .ok (.iadd, 1) := by decide +kernel
theorem dX11_tellStreet_61 : decode cX11_tellStreet 61 = .ok (.iaload, 1) := by decide +kernel
theorem dX11_tellStreet_62 : decode cX11_tellStreet 62 = .ok (.ireturn, 1) := by decide +kernel
theorem dX11_tellStreet_63 : decode cX11_tellStreet 63 = .ok (.aload_n 0, 1) := by decide +kernel
theorem dX11_tellStreet_64 : decode cX11_tellStreet 64 = .ok (.getfield 16, 3) := by decide +kernel
theorem dX11_tellStreet_67 : decode cX11_tellStreet 67 = .ok (.iload_n 1, 1) := by decide +kernel
theorem dX11_tellStreet_68 : decode cX11_tellStreet 68 = .ok (.iaload, 1) := by decide +kernel
theorem dX11_tellStreet_69 : decode cX11_tellStreet 69 = .ok (.ireturn, 1) := by decide +kernel
theorem dX11_tellStreet_70 : decode cX11_tellStreet 70 = .ok (.aload_n 0, 1) := by decide +kernel
theorem dX11_tellStreet_71 : decode cX11_tellStreet 71 = .ok (.iload_n 1, 1) := by decide +kernel
theorem dX11_tellStreet_72 : decode cX11_tellStreet 72 = .ok (.invokevirtual 207, 3) := by decide +kernel
theorem dX11_tellStreet_75 : decode cX11_tellStreet 75 = .ok (.ireturn, 1) := by decide +kernel
theorem dX11_tellStreet_76 : decode cX11_tellStreet 76 = .ok (.aload_n 0, 1) := by decide +kernel
theorem dX11_tellStreet_77 : decode cX11_tellStreet 77 = .ok (.iload_n 1, 1) := by decide +kernel
theorem dX11_tellStreet_78 : decode cX11_tellStreet 78 = .ok (.invokevirtual 210, 3) := by decide +kernel
theorem dX11_tellStreet_81 : decode cX11_tellStreet 81 = .ok (.ireturn, 1) := by decide +kernel
theorem dX11_tellStreet_82 : decode cX11_tellStreet 82 = .ok (.aload_n 0, 1) := by decide +kernel
theorem dX11_tellStreet_83 : decode cX11_tellStreet 83 = .ok (.iload_n 1, 1) := by decide +kernel
theorem dX11_tellStreet_84 : decode cX11_tellStreet 84 = .ok (.invokevirtual 213, 3) := by decide +kernel
theorem dX11_tellStreet_87 : decode cX11_tellStreet 87 = .ok (.ireturn, 1) := by decide +kernel
theorem dX11_tellStreet_88 : decode cX11_tellStreet 88 = .ok (.aload_n 0, 1) := by decide +kernel
theorem dX11_tellStreet_89 : decode cX11_tellStreet 89 = .ok (.iload_n 1, 1) := by decide +kernel
theorem dX11_tellStreet_90 : decode cX11_tellStreet 90 = .ok (.invokevirtual 216, 3) := by decide +kernel
theorem dX11_tellStreet_93 : decode cX11_tellStreet 93 = .ok (.ireturn, 1) := by decide +kernel
theorem dX11_tellStreet_94 : decode cX11_tellStreet 94 = .ok (.aload_n 0, 1) := by decide +kernel
theorem dX11_tellStreet_95 : decode cX11_tellStreet 95 = .ok (.getfield 19, 3) := by decide +kernel
theorem dX11_tellStreet_98 : decode cX11_tellStreet 98 = .ok (.iload_n 1, 1) := by decide +kernel
theorem dX11_tellStreet_99 : decode cX11_tellStreet 99 = .ok (.iaload, 1) := by decide +kernel
theorem dX11_tellStreet_100 : decode cX11_tellStreet 100 = .ok (.ireturn, 1) := by decide +kernel
theorem dX11_tellStreet_101 : decode cX11_tellStreet 101 = .ok (.bipush (-102), 2) := by decide +kernel
theorem dX11_tellStreet_103 : decode cX11_tellStreet 103 = .ok (.ireturn, 1) := by decide +kernel
theorem dX11_street_0 : decode cX11_street 0 = .ok (.aload_n 0, 1) := by decide +kernel
theorem dX11_street_1 : decode cX11_street 1 = .ok (.iload_n 1, 1) := by decide +kernel
theorem dX11_street_2 : decode cX11_street 2 = .ok (.invokevirtual 185, 3) := by decide +kernel
theorem dX11_street_5 : decode cX11_street 5 = .ok (.ifCond .eq 12, 3) := by decide +kernel
theorem dX11_street_8 : decode cX11_street 8 = .ok (.aload_n 0, 1) := by decide +kernel
theorem dX11_street_9 : decode cX11_street 9 = .ok (.iload_n 1, 1) := by decide +kernel
theorem dX11_street_10 : decode cX11_street 10 = .ok (.iload_n 2, 1) := by decide +kernel
theorem dX11_street_11 : decode cX11_street 11 = .ok (.invokevirtual 219, 3) := by decide +kernel
theorem dX11_street_14 : decode cX11_street 14 = .ok (.goto 5, 3) := by decide +kernel
theorem dX11_street_17 : decode cX11_street 17 = .ok (.bipush (-101), 2) := by decide +kernel
theorem dX11_street_19 : decode cX11_street 19 = .ok (.ireturn, 1) := by decide +kernel
theorem dX11_as_0 : decode cX11_as 0 = .ok (.aload_n 0, 1) := by decide +kernel
theorem dX11_as_1 : decode cX11_as 1 = .ok (.iload_n 1, 1) := by decide +kernel
theorem dX11_as_2 : decode cX11_as 2 = .ok (.invokevirtual 185, 3) := by decide +kernel
theorem dX11_as_5 : decode cX11_as 5 = .ok (.ifCond .ne 6, 3) := by decide +kernel
theorem dX11_as_8 : decode cX11_as 8 = .ok (.bipush (-101), 2) := by decide +kernel
theorem dX11_as_10 : decode cX11_as 10 = .ok (.ireturn, 1) := by decide +kernel
theorem dX11_as_11 : decode cX11_as 11 = .ok (.iload_n 2, 1) := by decide +kernel
theorem dX11_as_12 : decode cX11_as 12 = .ok (.i2l, 1) := by decide +kernel
theorem dX11_as_13 : decode cX11_as 13 = .ok (.lconst 0, 1) := by decide +kernel
theorem dX11_as_14 : decode cX11_as 14 = .ok (.ldc2_w 222, 3) := by decide +kernel
theorem dX11_as_17 : decode cX11_as 17 = .ok (.invokestatic 73, 3) := by decide +kernel
theorem dX11_as_20 : decode cX11_as 20 = .ok (.ifCond .ne 6, 3) := by decide +kernel
theorem dX11_as_23 : decode cX11_as 23 = .ok (.bipush (-102), 2) := by decide +kernel
theorem dX11_as_25 : decode cX11_as 25 = .ok (.ireturn, 1) := by decide +kernel
theorem dX11_as_26 : decode cX11_as 26 = .ok (.iload_n 2, 1) := by decide +kernel
theorem dX11_as_27 : decode cX11_as 27 = .ok (.ifCond .eq 32, 3) := by decide +kernel
theorem dX11_as_30 : decode cX11_as 30 = .ok (.iload_n 2, 1) := by decide +kernel
theorem dX11_as_31 : decode cX11_as 31 = .ok (.aload_n 0, 1) := by decide +kernel
theorem dX11_as_32 : decode cX11_as 32 = .ok (.getfield 13, 3) := by decide +kernel
theorem dX11_as_35 : decode cX11_as 35 = .ok (.iconst 3, 1) := by decide +kernel
theorem dX11_as_36 : decode cX11_as 36 = .ok (.iload_n 1, 1) := by decide +kernel
theorem dX11_as_37 : decode cX11_as 37 = .ok (.imul, 1) := by decide +kernel
theorem dX11_as_38 : decode cX11_as 38 = .ok (.iaload, 1) := by decide +kernel
theorem dX11_as_39 : decode cX11_as 39 = .ok (.if_icmp .eq 20, 3) := by decide +kernel
theorem dX11_as_42 : decode cX11_as 42 = .ok (.iload_n 2, 1) := by decide +kernel
theorem dX11_as_43 : decode cX11_as 43 = .ok (.iconst 1, 1) := by decide +kernel
theorem dX11_as_44 : decode cX11_as 44 = .ok (.if_icmp .ne 19, 3) := by decide +kernel
theorem dX11_as_47 : decode cX11_as 47 = .ok (.aload_n 0, 1) := by decide +kernel
theorem dX11_as_48 : decode cX11_as 48 = .ok (.getfield 13, 3) := by decide +kernel
theorem dX11_as_51 : decode cX11_as 51 = .ok (.iconst 3, 1) := by decide +kernel
theorem dX11_as_52 : decode cX11_as 52 = .ok (.iload_n 1, 1) := by decide +kernel
theorem dX11_as_53 : decode cX11_as 53 = .ok (.imul, 1) := by decide +kernel
theorem dX11_as_54 : decode cX11_as 54 = .ok (.iaload, 1) := by decide +kernel
theorem dX11_as_55 : decode cX11_as 55 = .ok (.iconst 4, 1) := by decide +kernel
theorem dX11_as_56 : decode cX11_as 56 = .ok (.if_icmp .ne 7, 3) := by decide +kernel
theorem dX11_as_59 : decode cX11_as 59 = .ok (.iconst 1, 1) := by decide +kernel
theorem dX11_as_60 : decode cX11_as 60 = .ok (.goto 4, 3) := by decide +kernel
theorem dX11_as_63 : decode cX11_as 63 = .ok (.iconst 0, 1) := by decide +kernel
theorem dX11_as_64 : decode cX11_as 64 = .ok (.istore_n 3, 1) := by decide +kernel
theorem dX11_as_65 : decode cX11_as 65 = .ok (.iload_n 3, 1) := by decide +kernel
theorem dX11_as_66 : decode cX11_as 66 = .ok (.ifCond .eq 7, 3) := by decide +kernel
theorem dX11_as_69 : decode cX11_as 69 = .ok (.iload_n 1, 1) := by decide +kernel
theorem dX11_as_70 : decode cX11_as 70 = .ok (.goto 4, 3) := by decide +kernel
theorem dX11_as_73 : decode cX11_as 73 = .ok (.iconst (-1), 1) := by decide +kernel
theorem dX11_as_74 : decode cX11_as 74 = .ok (.ireturn, 1) := by decide +kernel
theorem dX11_walk_0 : decode cX11_walk 0 = .ok (.aload_n 0, 1) := by decide +kernel
theorem dX11_walk_1 : decode cX11_walk 1 = .ok (.iload_n 1, 1) := by decide +kernel
theorem dX11_walk_2 : decode cX11_walk 2 = .ok (.invokevirtual 185, 3) := by decide +kernel
theorem dX11_walk_5 : decode cX11_walk 5 = .ok (.ifCond .ne 6, 3) := by decide +kernel
theorem dX11_walk_8 : decode cX11_walk 8 = .ok (.bipush (-101), 2) := by decide +kernel
theorem dX11_walk_10 : decode cX11_walk 10 = .ok (.ireturn, 1) := by decide +kernel
theorem dX11_walk_11 : decode cX11_walk 11 = .ok (.aload_n 0, 1) := by decide +kernel
theorem dX11_walk_12 : decode cX11_walk 12 = .ok (.getfield 135, 3) := by decide +kernel
theorem dX11_walk_15 : decode cX11_walk 15 = .ok (.ifCond .eq 31, 3) := by decide +kernel
theorem dX11_walk_18 : decode cX11_walk 18 = .ok (.aload_n 0, 1) := by decide +kernel
theorem dX11_walk_19 : decode cX11_walk 19 = .ok (.iload_n 1, 1) := by decide +kernel
theorem dX11_walk_20 : decode cX11_walk 20 = .ok (.aload_n 0, 1) := by decide +kernel
theorem dX11_walk_21 : decode cX11_walk 21 = .ok (.getfield 111, 3) := by decide +kernel
theorem dX11_walk_24 : decode cX11_walk 24 = .ok (.invokevirtual 224, 3) := by decide +kernel
theorem dX11_walk_27 : decode cX11_walk 27 = .ok (.ifCond .eq 19, 3) := by decide +kernel
theorem dX11_walk_30 : decode cX11_walk 30 = .ok (.aload_n 0, 1) := by decide +kernel
theorem dX11_walk_31 : decode cX11_walk 31 = .ok (.iload_n 1, 1) := by decide +kernel
theorem dX11_walk_32 : decode cX11_walk 32 = .ok (.aload_n 0, 1) := by decide +kernel
theorem dX11_walk_33 : decode cX11_walk 33 = .ok (.getfield 22, 3) := by decide +kernel
theorem dX11_walk_36 : decode cX11_walk 36 = .ok (.aload_n 0, 1) := by decide +kernel
theorem dX11_walk_37 : decode cX11_walk 37 = .ok (.getfield 135, 3) := by decide +kernel
theorem dX11_walk_40 : decode cX11_walk 40 = .ok (.invokevirtual 227, 3) := by decide +kernel
theorem dX11_walk_43 : decode cX11_walk 43 = .ok (.ifCond .ne 6, 3) := by decide +kernel
theorem dX11_walk_46 : decode cX11_walk 46 = .ok (.bipush (-103), 2) := by decide +kernel
theorem dX11_walk_48 : decode cX11_walk 48 = .ok (.ireturn, 1) := by decide +kernel
theorem dX11_walk_49 : decode cX11_walk 49 = .ok (.aload_n 0, 1) := by decide +kernel
theorem dX11_walk_50 : decode cX11_walk 50 = .ok (.getfield 118, 3) := by decide +kernel
theorem dX11_walk_53 : decode cX11_walk 53 = .ok (.sipush 999, 3) := by decide +kernel
theorem dX11_walk_56 : decode cX11_walk 56 = .ok (.if_icmp .ne 6, 3) := by decide +kernel
theorem dX11_walk_59 : decode cX11_walk 59 = .ok (.bipush (-104), 2) := by decide +kernel
theorem dX11_walk_61 : decode cX11_walk 61 = .ok (.ireturn, 1) := by decide +kernel
theorem dX11_walk_62 : decode cX11_walk 62 = .ok (.aload_n 0, 1) := by decide +kernel
theorem dX11_walk_63 : decode cX11_walk 63 = .ok (.iload_n 1, 1) := by decide +kernel
theorem dX11_walk_64 : decode cX11_walk 64 = .ok (.aload_n 0, 1) := by decide +kernel
theorem dX11_walk_65 : decode cX11_walk 65 = .ok (.getfield 22, 3) := by decide +kernel
theorem dX11_walk_68 : decode cX11_walk 68 = .ok (.aload_n 0, 1) := by decide +kernel
theorem dX11_walk_69 : decode cX11_walk 69 = .ok (.getfield 135, 3) := by decide +kernel
theorem dX11_walk_72 : decode cX11_walk 72 = .ok (.invokevirtual 199, 3) := by decide +kernel
theorem dX11_walk_75 : decode cX11_walk 75 = .ok (.aload_n 0, 1) := by decide +kernel
theorem dX11_walk_76 : decode cX11_walk 76 = .ok (.aload_n 0, 1) := by decide +kernel
theorem dX11_walk_77 : decode cX11_walk 77 = .ok (.iload_n 1, 1) := by decide +kernel
theorem dX11_walk_78 : decode cX11_walk 78 = .ok (.aload_n 0, 1) := by decide +kernel
theorem dX11_walk_79 : decode cX11_walk 79 = .ok (.getfield 111, 3) := by decide +kernel
theorem dX11_walk_82 : decode cX11_walk 82 = .ok (.invokevirtual 231, 3) := by decide +kernel
theorem dX11_walk_85 : decode cX11_walk 85 = .ok (.putfield 111, 3) := by decide +kernel
theorem dX11_walk_88 : decode cX11_walk 88 = .ok (.aload_n 0, 1) := by decide +kernel
theorem dX11_walk_89 : decode cX11_walk 89 = .ok (.dup, 1) := by decide +kernel
theorem dX11_walk_90 : decode cX11_walk 90 = .ok (.getfield 118, 3) := by decide +kernel
theorem dX11_walk_93 : decode cX11_walk 93 = .ok (.iconst 1, 1) := by decide +kernel
theorem dX11_walk_94 : decode cX11_walk 94 = .ok (.iadd, 1) := by decide +kernel
theorem dX11_walk_95 : decode cX11_walk 95 = .ok (.putfield 118, 3) := by decide +kernel
theorem dX11_walk_98 : decode cX11_walk 98 = .ok (.aload_n 0, 1) := by decide +kernel
theorem dX11_walk_99 : decode cX11_walk 99 = .ok (.getfield 19, 3) := by decide +kernel
theorem dX11_walk_102 : decode cX11_walk 102 = .ok (.iload_n 1, 1) := by decide +kernel
theorem dX11_walk_103 : decode cX11_walk 103 = .ok (.dup2, 1) := by decide +kernel
theorem dX11_walk_104 : decode cX11_walk 104 = .ok (.iaload, 1) := by decide +kernel
theorem dX11_walk_105 : decode cX11_walk 105 = .ok (.iconst 1, 1) := by decide +kernel
theorem dX11_walk_106 : decode cX11_walk 106 = .ok (.iadd, 1) := by decide +kernel
theorem dX11_walk_107 : decode cX11_walk 107 = .ok (.iastore, 1) := by decide +kernel
theorem dX11_walk_108 : decode cX11_walk 108 = .ok (.aload_n 0, 1) := by decide +kernel
theorem dX11_walk_109 : decode cX11_walk 109 = .ok (.getfield 111, 3) := by decide +kernel
theorem dX11_walk_112 : decode cX11_walk 112 = .ok (.ireturn, 1) := by decide +kernel
theorem dX11_stand_0 : decode cX11_stand 0 = .ok (.aload_n 0, 1) := by decide +kernel
theorem dX11_stand_1 : decode cX11_stand 1 = .ok (.invokevirtual 234, 3) := by decide +kernel
theorem dX11_stand_4 : decode cX11_stand 4 = .ok (.ifCond .ne 19, 3) := by decide +kernel
theorem dX11_stand_7 : decode cX11_stand 7 = .ok (.iload_n 1, 1) := by decide +kernel
theorem dX11_stand_8 : decode cX11_stand 8 = .ok (.i2l, 1) := by decide +kernel
theorem dX11_stand_9 : decode cX11_stand 9 = .ok (.lconst 0, 1) := by decide +kernel
theorem dX11_stand_10 : decode cX11_stand 10 = .ok (.aload_n 0, 1) := by decide +kernel
theorem dX11_stand_11 : decode cX11_stand 11 = .ok (.getfield 105, 3) := by decide +kernel
theorem dX11_stand_14 : decode cX11_stand 14 = .ok (.iconst 1, 1) := by decide +kernel
theorem dX11_stand_15 : decode cX11_stand 15 = .ok (.isub, 1) := by decide +kernel
theorem dX11_stand_16 : decode cX11_stand 16 = .ok (.i2l, 1) := by decide +kernel
theorem dX11_stand_17 : decode cX11_stand 17 = .ok (.invokestatic 73, 3) := by decide +kernel
theorem dX11_stand_20 : decode cX11_stand 20 = .ok (.ifCond .ne 6, 3) := by decide +kernel
theorem dX11_stand_23 : decode cX11_stand 23 = .ok (.bipush (-101), 2) := by decide +kernel
theorem dX11_stand_25 : decode cX11_stand 25 = .ok (.ireturn, 1) := by decide +kernel
theorem dX11_stand_26 : decode cX11_stand 26 = .ok (.aload_n 0, 1) := by decide +kernel
theorem dX11_stand_27 : decode cX11_stand 27 = .ok (.getfield 111, 3) := by decide +kernel
theorem dX11_stand_30 : decode cX11_stand 30 = .ok (.istore_n 2, 1) := by decide +kernel
theorem dX11_stand_31 : decode cX11_stand 31 = .ok (.aload_n 0, 1) := by decide +kernel
theorem dX11_stand_32 : decode cX11_stand 32 = .ok (.iload_n 1, 1) := by decide +kernel
theorem dX11_stand_33 : decode cX11_stand 33 = .ok (.putfield 111, 3) := by decide +kernel
theorem dX11_stand_36 : decode cX11_stand 36 = .ok (.iload_n 2, 1) := by decide +kernel
theorem dX11_stand_37 : decode cX11_stand 37 = .ok (.ireturn, 1) := by decide +kernel
theorem dX11_dusk_0 : decode cX11_dusk 0 = .ok (.aload_n 0, 1) := by decide +kernel
theorem dX11_dusk_1 : decode cX11_dusk 1 = .ok (.invokevirtual 234, 3) := by decide +kernel
theorem dX11_dusk_4 : decode cX11_dusk 4 = .ok (.ifCond .eq 6, 3) := by decide +kernel
theorem dX11_dusk_7 : decode cX11_dusk 7 = .ok (.bipush (-103), 2) := by decide +kernel
theorem dX11_dusk_9 : decode cX11_dusk 9 = .ok (.ireturn, 1) := by decide +kernel
theorem dX11_dusk_10 : decode cX11_dusk 10 = .ok (.aload_n 0, 1) := by decide +kernel
theorem dX11_dusk_11 : decode cX11_dusk 11 = .ok (.aload_n 0, 1) := by decide +kernel
theorem dX11_dusk_12 : decode cX11_dusk 12 = .ok (.getfield 114, 3) := by decide +kernel
theorem dX11_dusk_15 : decode cX11_dusk 15 = .ok (.ifCond .ne 7, 3) := by decide +kernel
theorem dX11_dusk_18 : decode cX11_dusk 18 = .ok (.iconst 1, 1) := by decide +kernel
theorem dX11_dusk_19 : decode cX11_dusk 19 = .ok (.goto 4, 3) := by decide +kernel
theorem dX11_dusk_22 : decode cX11_dusk 22 = .ok (.iconst 0, 1) := by decide +kernel
theorem dX11_dusk_23 : decode cX11_dusk 23 = .ok (.putfield 114, 3) := by decide +kernel
theorem dX11_dusk_26 : decode cX11_dusk 26 = .ok (.aload_n 0, 1) := by decide +kernel
theorem dX11_dusk_27 : decode cX11_dusk 27 = .ok (.getfield 114, 3) := by decide +kernel
theorem dX11_dusk_30 : decode cX11_dusk 30 = .ok (.ifCond .eq 7, 3) := by decide +kernel
theorem dX11_dusk_33 : decode cX11_dusk 33 = .ok (.iconst 1, 1) := by decide +kernel
theorem dX11_dusk_34 : decode cX11_dusk 34 = .ok (.goto 4, 3) := by decide +kernel
theorem dX11_dusk_37 : decode cX11_dusk 37 = .ok (.iconst 0, 1) := by decide +kernel
theorem dX11_dusk_38 : decode cX11_dusk 38 = .ok (.ireturn, 1) := by decide +kernel
theorem dX11_sing_0 : decode cX11_sing 0 = .ok (.aload_n 0, 1) := by decide +kernel
theorem dX11_sing_1 : decode cX11_sing 1 = .ok (.iload_n 1, 1) := by decide +kernel
theorem dX11_sing_2 : decode cX11_sing 2 = .ok (.invokevirtual 172, 3) := by decide +kernel
theorem dX11_sing_5 : decode cX11_sing 5 = .ok (.ifCond .eq 20, 3) := by decide +kernel
theorem dX11_sing_8 : decode cX11_sing 8 = .ok (.iload_n 2, 1) := by decide +kernel
theorem dX11_sing_9 : decode cX11_sing 9 = .ok (.i2l, 1) := by decide +kernel
theorem dX11_sing_10 : decode cX11_sing 10 = .ok (.lconst 0, 1) := by decide +kernel
theorem dX11_sing_11 : decode cX11_sing 11 = .ok (.aload_n 0, 1) := by decide +kernel
theorem dX11_sing_12 : decode cX11_sing 12 = .ok (.iload_n 1, 1) := by decide +kernel
theorem dX11_sing_13 : decode cX11_sing 13 = .ok (.invokevirtual 141, 3) := by decide +kernel
theorem dX11_sing_16 : decode cX11_sing 16 = .ok (.iconst 1, 1) := by decide +kernel
theorem dX11_sing_17 : decode cX11_sing 17 = .ok (.isub, 1) := by decide +kernel
theorem dX11_sing_18 : decode cX11_sing 18 = .ok (.i2l, 1) := by decide +kernel
theorem dX11_sing_19 : decode cX11_sing 19 = .ok (.invokestatic 73, 3) := by decide +kernel
theorem dX11_sing_22 : decode cX11_sing 22 = .ok (.ifCond .ne 6, 3) := by decide +kernel
theorem dX11_sing_25 : decode cX11_sing 25 = .ok (.bipush (-101), 2) := by decide +kernel
theorem dX11_sing_27 : decode cX11_sing 27 = .ok (.ireturn, 1) := by decide +kernel
theorem dX11_sing_28 : decode cX11_sing 28 = .ok (.iload_n 3, 1) := by decide +kernel
theorem dX11_sing_29 : decode cX11_sing 29 = .ok (.invokestatic 188, 3) := by decide +kernel
theorem dX11_sing_32 : decode cX11_sing 32 = .ok (.ifCond .ne 6, 3) := by decide +kernel
theorem dX11_sing_35 : decode cX11_sing 35 = .ok (.bipush (-102), 2) := by decide +kernel
theorem dX11_sing_37 : decode cX11_sing 37 = .ok (.ireturn, 1) := by decide +kernel
theorem dX11_sing_38 : decode cX11_sing 38 = .ok (.aload_n 0, 1) := by decide +kernel
theorem dX11_sing_39 : decode cX11_sing 39 = .ok (.iload_n 1, 1) := by decide +kernel
theorem dX11_sing_40 : decode cX11_sing 40 = .ok (.iload_n 2, 1) := by decide +kernel
theorem dX11_sing_41 : decode cX11_sing 41 = .ok (.invokevirtual 148, 3) := by decide +kernel
theorem dX11_sing_44 : decode cX11_sing 44 = .ok (.istore 4, 2) := by decide +kernel
theorem dX11_sing_46 : decode cX11_sing 46 = .ok (.iload_n 1, 1) := by decide +kernel
theorem dX11_sing_47 : decode cX11_sing 47 = .ok (.ifCond .ne 13, 3) := by decide +kernel
theorem dX11_sing_50 : decode cX11_sing 50 = .ok (.aload_n 0, 1) := by decide +kernel
theorem dX11_sing_51 : decode cX11_sing 51 = .ok (.getfield 22, 3) := by decide +kernel
theorem dX11_sing_54 : decode cX11_sing 54 = .ok (.iload_n 2, 1) := by decide +kernel
theorem dX11_sing_55 : decode cX11_sing 55 = .ok (.iload_n 3, 1) := by decide +kernel
theorem dX11_sing_56 : decode cX11_sing 56 = .ok (.iastore, 1) := by decide +kernel
theorem dX11_sing_57 : decode cX11_sing 57 = .ok (.goto 10, 3) := by decide +kernel
theorem dX11_sing_60 : decode cX11_sing 60 = .ok (.aload_n 0, 1) := by decide +kernel
theorem dX11_sing_61 : decode cX11_sing 61 = .ok (.getfield 25, 3) := by decide +kernel
theorem dX11_sing_64 : decode cX11_sing 64 = .ok (.iload_n 2, 1) := by decide +kernel
theorem dX11_sing_65 : decode cX11_sing 65 = .ok (.iload_n 3, 1) := by decide +kernel
theorem dX11_sing_66 : decode cX11_sing 66 = .ok (.iastore, 1) := by decide +kernel
theorem dX11_sing_67 : decode cX11_sing 67 = .ok (.iload 4, 2) := by decide +kernel
theorem dX11_sing_69 : decode cX11_sing 69 = .ok (.ireturn, 1) := by decide +kernel
theorem dX11_raise_0 : decode cX11_raise 0 = .ok (.aload_n 0, 1) := by decide +kernel
theorem dX11_raise_1 : decode cX11_raise 1 = .ok (.iload_n 1, 1) := by decide +kernel
theorem dX11_raise_2 : decode cX11_raise 2 = .ok (.invokevirtual 185, 3) := by decide +kernel
theorem dX11_raise_5 : decode cX11_raise 5 = .ok (.ifCond .ne 6, 3) := by decide +kernel
theorem dX11_raise_8 : decode cX11_raise 8 = .ok (.bipush (-101), 2) := by decide +kernel
theorem dX11_raise_10 : decode cX11_raise 10 = .ok (.ireturn, 1) := by decide +kernel
theorem dX11_raise_11 : decode cX11_raise 11 = .ok (.iload_n 2, 1) := by decide +kernel
theorem dX11_raise_12 : decode cX11_raise 12 = .ok (.invokestatic 188, 3) := by decide +kernel
theorem dX11_raise_15 : decode cX11_raise 15 = .ok (.ifCond .ne 6, 3) := by decide +kernel
theorem dX11_raise_18 : decode cX11_raise 18 = .ok (.bipush (-102), 2) := by decide +kernel
theorem dX11_raise_20 : decode cX11_raise 20 = .ok (.ireturn, 1) := by decide +kernel
theorem dX11_raise_21 : decode cX11_raise 21 = .ok (.aload_n 0, 1) := by decide +kernel
theorem dX11_raise_22 : decode cX11_raise 22 = .ok (.getfield 16, 3) := by decide +kernel
theorem dX11_raise_25 : decode cX11_raise 25 = .ok (.iload_n 1, 1) := by decide +kernel
theorem dX11_raise_26 : decode cX11_raise 26 = .ok (.iaload, 1) := by decide +kernel
theorem dX11_raise_27 : decode cX11_raise 27 = .ok (.istore_n 3, 1) := by decide +kernel
theorem dX11_raise_28 : decode cX11_raise 28 = .ok (.aload_n 0, 1) := by decide +kernel
theorem dX11_raise_29 : decode cX11_raise 29 = .ok (.getfield 16, 3) := by decide +kernel
theorem dX11_raise_32 : decode cX11_raise 32 = .ok (.iload_n 1, 1) := by decide +kernel
theorem dX11_raise_33 : decode cX11_raise 33 = .ok (.iload_n 2, 1) := by decide +kernel
theorem dX11_raise_34 : decode cX11_raise 34 = .ok (.iastore, 1) := by decide +kernel
theorem dX11_raise_35 : decode cX11_raise 35 = .ok (.iload_n 3, 1) := by decide +kernel
theorem dX11_raise_36 : decode cX11_raise 36 = .ok (.ireturn, 1) := by decide +kernel
theorem dX11_beginWalk_0 : decode cX11_beginWalk 0 = .ok (.iconst 0, 1) := by decide +kernel
theorem dX11_beginWalk_1 : decode cX11_beginWalk 1 = .ok (.istore_n 1, 1) := by decide +kernel
theorem dX11_beginWalk_2 : decode cX11_beginWalk 2 = .ok (.iload_n 1, 1) := by decide +kernel
theorem dX11_beginWalk_3 : decode cX11_beginWalk 3 = .ok (.bipush 8, 2) := by decide +kernel
theorem dX11_beginWalk_5 : decode cX11_beginWalk 5 = .ok (.if_icmp .ge 21, 3) := by decide +kernel
theorem dX11_beginWalk_8 : decode cX11_beginWalk 8 = .ok (.aload_n 0, 1) := by decide +kernel
theorem dX11_beginWalk_9 : decode cX11_beginWalk 9 = .ok (.getfield 34, 3) := by decide +kernel
theorem dX11_beginWalk_12 : decode cX11_beginWalk 12 = .ok (.iload_n 1, 1) := by decide +kernel
theorem dX11_beginWalk_13 : decode cX11_beginWalk 13 = .ok (.aload_n 0, 1) := by decide +kernel
theorem dX11_beginWalk_14 : decode cX11_beginWalk 14 = .ok (.getfield 22, 3) := by decide +kernel
theorem dX11_beginWalk_17 : decode cX11_beginWalk 17 = .ok (.iload_n 1, 1) := by decide +kernel
theorem dX11_beginWalk_18 : decode cX11_beginWalk 18 = .ok (.iaload, 1) := by decide +kernel
theorem dX11_beginWalk_19 : decode cX11_beginWalk 19 = .ok (.iastore, 1) := by decide +kernel
theorem dX11_beginWalk_20 : decode cX11_beginWalk 20 = .ok (.iinc 1 1, 3) := by decide +kernel
theorem dX11_beginWalk_23 : decode cX11_beginWalk 23 = .ok (.goto (-21), 3) := by decide +kernel
theorem dX11_beginWalk_26 : decode cX11_beginWalk 26 = .ok (.aload_n 0, 1) := by decide +kernel
theorem dX11_beginWalk_27 : decode cX11_beginWalk 27 = .ok (.getfield 37, 3) := by decide +kernel
theorem dX11_beginWalk_30 : decode cX11_beginWalk 30 = .ok (.iconst 0, 1) := by decide +kernel
theorem dX11_beginWalk_31 : decode cX11_beginWalk 31 = .ok (.aload_n 0, 1) := by decide +kernel
theorem dX11_beginWalk_32 : decode cX11_beginWalk 32 = .ok (.getfield 111, 3) := by decide +kernel
theorem dX11_beginWalk_35 : decode cX11_beginWalk 35 = .ok (.iastore, 1) := by decide +kernel
theorem dX11_beginWalk_36 : decode cX11_beginWalk 36 = .ok (.return_, 1) := by decide +kernel
theorem dX11_goOn_0 : decode cX11_goOn 0 = .ok (.iconst 0, 1) := by decide +kernel
theorem dX11_goOn_1 : decode cX11_goOn 1 = .ok (.istore_n 3, 1) := by decide +kernel
theorem dX11_goOn_2 : decode cX11_goOn 2 = .ok (.iload_n 3, 1) := by decide +kernel
theorem dX11_goOn_3 : decode cX11_goOn 3 = .ok (.bipush 8, 2) := by decide +kernel
theorem dX11_goOn_5 : decode cX11_goOn 5 = .ok (.if_icmp .ge 26, 3) := by decide +kernel
theorem dX11_goOn_8 : decode cX11_goOn 8 = .ok (.aload_n 0, 1) := by decide +kernel
theorem dX11_goOn_9 : decode cX11_goOn 9 = .ok (.getfield 31, 3) := by decide +kernel
theorem dX11_goOn_12 : decode cX11_goOn 12 = .ok (.iload_n 3, 1) := by decide +kernel
theorem dX11_goOn_13 : decode cX11_goOn 13 = .ok (.aload_n 0, 1) := by decide +kernel
theorem dX11_goOn_14 : decode cX11_goOn 14 = .ok (.getfield 34, 3) := by decide +kernel
theorem dX11_goOn_17 : decode cX11_goOn 17 = .ok (.bipush 8, 2) := by decide +kernel
theorem dX11_goOn_19 : decode cX11_goOn 19 = .ok (.iload_n 1, 1) := by decide +kernel
theorem dX11_goOn_20 : decode cX11_goOn 20 = .ok (.imul, 1) := by decide +kernel
theorem dX11_goOn_21 : decode cX11_goOn 21 = .ok (.iload_n 3, 1) := by decide +kernel
theorem dX11_goOn_22 : decode cX11_goOn 22 = .ok (.iadd, 1) := by decide +kernel
theorem dX11_goOn_23 : decode cX11_goOn 23 = .ok (.iaload, 1) := by decide +kernel
theorem dX11_goOn_24 : decode cX11_goOn 24 = .ok (.iastore, 1) := by decide +kernel
theorem dX11_goOn_25 : decode cX11_goOn 25 = .ok (.iinc 3 1, 3) := by decide +kernel
theorem dX11_goOn_28 : decode cX11_goOn 28 = .ok (.goto (-26), 3) := by decide +kernel
theorem dX11_goOn_31 : decode cX11_goOn 31 = .ok (.aload_n 0, 1) := by decide +kernel
theorem dX11_goOn_32 : decode cX11_goOn 32 = .ok (.iload_n 2, 1) := by decide +kernel
theorem dX11_goOn_33 : decode cX11_goOn 33 = .ok (.aload_n 0, 1) := by decide +kernel
theorem dX11_goOn_34 : decode cX11_goOn 34 = .ok (.getfield 37, 3) := by decide +kernel
theorem dX11_goOn_37 : decode cX11_goOn 37 = .ok (.iload_n 1, 1) := by decide +kernel
theorem dX11_goOn_38 : decode cX11_goOn 38 = .ok (.iaload, 1) := by decide +kernel
theorem dX11_goOn_39 : decode cX11_goOn 39 = .ok (.invokevirtual 224, 3) := by decide +kernel
theorem dX11_goOn_42 : decode cX11_goOn 42 = .ok (.ifCond .eq 19, 3) := by decide +kernel
theorem dX11_goOn_45 : decode cX11_goOn 45 = .ok (.aload_n 0, 1) := by decide +kernel
theorem dX11_goOn_46 : decode cX11_goOn 46 = .ok (.iload_n 2, 1) := by decide +kernel
theorem dX11_goOn_47 : decode cX11_goOn 47 = .ok (.aload_n 0, 1) := by decide +kernel
theorem dX11_goOn_48 : decode cX11_goOn 48 = .ok (.getfield 31, 3) := by decide +kernel
theorem dX11_goOn_51 : decode cX11_goOn 51 = .ok (.aload_n 0, 1) := by decide +kernel
theorem dX11_goOn_52 : decode cX11_goOn 52 = .ok (.getfield 135, 3) := by decide +kernel
theorem dX11_goOn_55 : decode cX11_goOn 55 = .ok (.invokevirtual 227, 3) := by decide +kernel
theorem dX11_goOn_58 : decode cX11_goOn 58 = .ok (.ifCond .ne 5, 3) := by decide +kernel
theorem dX11_goOn_61 : decode cX11_goOn 61 = .ok (.iconst 0, 1) := by decide +kernel
theorem dX11_goOn_62 : decode cX11_goOn 62 = .ok (.ireturn, 1) := by decide +kernel
theorem dX11_goOn_63 : decode cX11_goOn 63 = .ok (.aload_n 0, 1) := by decide +kernel
theorem dX11_goOn_64 : decode cX11_goOn 64 = .ok (.iload_n 2, 1) := by decide +kernel
theorem dX11_goOn_65 : decode cX11_goOn 65 = .ok (.aload_n 0, 1) := by decide +kernel
theorem dX11_goOn_66 : decode cX11_goOn 66 = .ok (.getfield 31, 3) := by decide +kernel
theorem dX11_goOn_69 : decode cX11_goOn 69 = .ok (.aload_n 0, 1) := by decide +kernel
theorem dX11_goOn_70 : decode cX11_goOn 70 = .ok (.getfield 135, 3) := by decide +kernel
theorem dX11_goOn_73 : decode cX11_goOn 73 = .ok (.invokevirtual 199, 3) := by decide +kernel
theorem dX11_goOn_76 : decode cX11_goOn 76 = .ok (.iconst 0, 1) := by decide +kernel
theorem dX11_goOn_77 : decode cX11_goOn 77 = .ok (.istore_n 3, 1) := by decide +kernel
theorem dX11_goOn_78 : decode cX11_goOn 78 = .ok (.iload_n 3, 1) := by decide +kernel
theorem dX11_goOn_79 : decode cX11_goOn 79 = .ok (.bipush 8, 2) := by decide +kernel
theorem dX11_goOn_81 : decode cX11_goOn 81 = .ok (.if_icmp .ge 29, 3) := by decide +kernel
theorem dX11_goOn_84 : decode cX11_goOn 84 = .ok (.aload_n 0, 1) := by decide +kernel
theorem dX11_goOn_85 : decode cX11_goOn 85 = .ok (.getfield 34, 3) := by decide +kernel
theorem dX11_goOn_88 : decode cX11_goOn 88 = .ok (.bipush 8, 2) := by decide +kernel
theorem dX11_goOn_90 : decode cX11_goOn 90 = .ok (.iload_n 1, 1) := by decide +kernel
theorem dX11_goOn_91 : decode cX11_goOn 91 = .ok (.imul, 1) := by decide +kernel
theorem dX11_goOn_92 : decode cX11_goOn 92 = .ok (.bipush 8, 2) := by decide +kernel
theorem dX11_goOn_94 : decode cX11_goOn 94 = .ok (.iadd, 1) := by decide +kernel
theorem dX11_goOn_95 : decode cX11_goOn 95 = .ok (.iload_n 3, 1) := by decide +kernel
theorem dX11_goOn_96 : decode cX11_goOn 96 = .ok (.iadd, 1) := by decide +kernel
theorem dX11_goOn_97 : decode cX11_goOn 97 = .ok (.aload_n 0, 1) := by decide +kernel
theorem dX11_goOn_98 : decode cX11_goOn 98 = .ok (.getfield 31, 3) := by decide +kernel
theorem dX11_goOn_101 : decode cX11_goOn 101 = .ok (.iload_n 3, 1) := by decide +kernel
theorem dX11_goOn_102 : decode cX11_goOn 102 = .ok (.iaload, 1) := by decide +kernel
theorem dX11_goOn_103 : decode cX11_goOn 103 = .ok (.iastore, 1) := by decide +kernel
theorem dX11_goOn_104 : decode cX11_goOn 104 = .ok (.iinc 3 1, 3) := by decide +kernel
theorem dX11_goOn_107 : decode cX11_goOn 107 = .ok (.goto (-29), 3) := by decide +kernel
theorem dX11_goOn_110 : decode cX11_goOn 110 = .ok (.aload_n 0, 1) := by decide +kernel
theorem dX11_goOn_111 : decode cX11_goOn 111 = .ok (.getfield 37, 3) := by decide +kernel
theorem dX11_goOn_114 : decode cX11_goOn 114 = .ok (.iload_n 1, 1) := by decide +kernel
theorem dX11_goOn_115 : decode cX11_goOn 115 = .ok (.iconst 1, 1) := by decide +kernel
theorem dX11_goOn_116 : decode cX11_goOn 116 = .ok (.iadd, 1) := by decide +kernel
theorem dX11_goOn_117 : decode cX11_goOn 117 = .ok (.aload_n 0, 1) := by decide +kernel
theorem dX11_goOn_118 : decode cX11_goOn 118 = .ok (.iload_n 2, 1) := by decide +kernel
theorem dX11_goOn_119 : decode cX11_goOn 119 = .ok (.aload_n 0, 1) := by decide +kernel
theorem dX11_goOn_120 : decode cX11_goOn 120 = .ok (.getfield 37, 3) := by decide +kernel
theorem dX11_goOn_123 : decode cX11_goOn 123 = .ok (.iload_n 1, 1) := by decide +kernel
theorem dX11_goOn_124 : decode cX11_goOn 124 = .ok (.iaload, 1) := by decide +kernel
theorem dX11_goOn_125 : decode cX11_goOn 125 = .ok (.invokevirtual 231, 3) := by decide +kernel
theorem dX11_goOn_128 : decode cX11_goOn 128 = .ok (.iastore, 1) := by decide +kernel
theorem dX11_goOn_129 : decode cX11_goOn 129 = .ok (.iconst 1, 1) := by decide +kernel
theorem dX11_goOn_130 : decode cX11_goOn 130 = .ok (.ireturn, 1) := by decide +kernel
theorem dX11_isThere_0 : decode cX11_isThere 0 = .ok (.aload_n 0, 1) := by decide +kernel
theorem dX11_isThere_1 : decode cX11_isThere 1 = .ok (.getfield 135, 3) := by decide +kernel
theorem dX11_isThere_4 : decode cX11_isThere 4 = .ok (.aload_n 0, 1) := by decide +kernel
theorem dX11_isThere_5 : decode cX11_isThere 5 = .ok (.getfield 138, 3) := by decide +kernel
theorem dX11_isThere_8 : decode cX11_isThere 8 = .ok (.if_icmp .ne 7, 3) := by decide +kernel
theorem dX11_isThere_11 : decode cX11_isThere 11 = .ok (.iconst 1, 1) := by decide +kernel
theorem dX11_isThere_12 : decode cX11_isThere 12 = .ok (.goto 4, 3) := by decide +kernel
theorem dX11_isThere_15 : decode cX11_isThere 15 = .ok (.iconst 0, 1) := by decide +kernel
theorem dX11_isThere_16 : decode cX11_isThere 16 = .ok (.istore_n 2, 1) := by decide +kernel
theorem dX11_isThere_17 : decode cX11_isThere 17 = .ok (.iconst 0, 1) := by decide +kernel
theorem dX11_isThere_18 : decode cX11_isThere 18 = .ok (.istore_n 3, 1) := by decide +kernel
theorem dX11_isThere_19 : decode cX11_isThere 19 = .ok (.iload_n 3, 1) := by decide +kernel
theorem dX11_isThere_20 : decode cX11_isThere 20 = .ok (.aload_n 0, 1) := by decide +kernel
theorem dX11_isThere_21 : decode cX11_isThere 21 = .ok (.getfield 135, 3) := by decide +kernel
theorem dX11_isThere_24 : decode cX11_isThere 24 = .ok (.if_icmp .ge 39, 3) := by decide +kernel
theorem dX11_isThere_27 : decode cX11_isThere 27 = .ok (.iload_n 2, 1) := by decide +kernel
theorem dX11_isThere_28 : decode cX11_isThere 28 = .ok (.ifCond .eq 35, 3) := by decide +kernel
theorem dX11_isThere_31 : decode cX11_isThere 31 = .ok (.aload_n 0, 1) := by decide +kernel
theorem dX11_isThere_32 : decode cX11_isThere 32 = .ok (.getfield 34, 3) := by decide +kernel
theorem dX11_isThere_35 : decode cX11_isThere 35 = .ok (.bipush 8, 2) := by decide +kernel
theorem dX11_isThere_37 : decode cX11_isThere 37 = .ok (.iload_n 1, 1) := by decide +kernel
theorem dX11_isThere_38 : decode cX11_isThere 38 = .ok (.imul, 1) := by decide +kernel
theorem dX11_isThere_39 : decode cX11_isThere 39 = .ok (.iload_n 3, 1) := by decide +kernel
theorem dX11_isThere_40 : decode cX11_isThere 40 = .ok (.iadd, 1) := by decide +kernel
theorem dX11_isThere_41 : decode cX11_isThere 41 = .ok (.iaload, 1) := by decide +kernel
theorem dX11_isThere_42 : decode cX11_isThere 42 = .ok (.aload_n 0, 1) := by decide +kernel
theorem dX11_isThere_43 : decode cX11_isThere 43 = .ok (.getfield 25, 3) := by decide +kernel
theorem dX11_isThere_46 : decode cX11_isThere 46 = .ok (.iload_n 3, 1) := by decide +kernel
theorem dX11_isThere_47 : decode cX11_isThere 47 = .ok (.iaload, 1) := by decide +kernel
theorem dX11_isThere_48 : decode cX11_isThere 48 = .ok (.if_icmp .ne 7, 3) := by decide +kernel
theorem dX11_isThere_51 : decode cX11_isThere 51 = .ok (.iconst 1, 1) := by decide +kernel
theorem dX11_isThere_52 : decode cX11_isThere 52 = .ok (.goto 4, 3) := by decide +kernel
theorem dX11_isThere_55 : decode cX11_isThere 55 = .ok (.iconst 0, 1) := by decide +kernel
theorem dX11_isThere_56 : decode cX11_isThere 56 = .ok (.istore_n 2, 1) := by decide +kernel
theorem dX11_isThere_57 : decode cX11_isThere 57 = .ok (.iinc 3 1, 3) := by decide +kernel
theorem dX11_isThere_60 : decode cX11_isThere 60 = .ok (.goto (-41), 3) := by decide +kernel
theorem dX11_isThere_63 : decode cX11_isThere 63 = .ok (.iload_n 2, 1) := by decide +kernel
theorem dX11_isThere_64 : decode cX11_isThere 64 = .ok (.ireturn, 1) := by decide +kernel
theorem dX11_layWay_0 : decode cX11_layWay 0 = .ok (.aload_n 0, 1) := by decide +kernel
theorem dX11_layWay_1 : decode cX11_layWay 1 = .ok (.invokevirtual 237, 3) := by decide +kernel
theorem dX11_layWay_4 : decode cX11_layWay 4 = .ok (.iconst 0, 1) := by decide +kernel
theorem dX11_layWay_5 : decode cX11_layWay 5 = .ok (.istore_n 2, 1) := by decide +kernel
theorem dX11_layWay_6 : decode cX11_layWay 6 = .ok (.aload_n 0, 1) := by decide +kernel
theorem dX11_layWay_7 : decode cX11_layWay 7 = .ok (.getfield 40, 3) := by decide +kernel
theorem dX11_layWay_10 : decode cX11_layWay 10 = .ok (.iconst 0, 1) := by decide +kernel
theorem dX11_layWay_11 : decode cX11_layWay 11 = .ok (.iconst (-1), 1) := by decide +kernel
theorem dX11_layWay_12 : decode cX11_layWay 12 = .ok (.iastore, 1) := by decide +kernel
theorem dX11_layWay_13 : decode cX11_layWay 13 = .ok (.iload_n 2, 1) := by decide +kernel
theorem dX11_layWay_14 : decode cX11_layWay 14 = .ok (.ifCond .lt 80, 3) := by decide +kernel
theorem dX11_layWay_17 : decode cX11_layWay 17 = .ok (.iload_n 2, 1) := by decide +kernel
theorem dX11_layWay_18 : decode cX11_layWay 18 = .ok (.iload_n 1, 1) := by decide +kernel
theorem dX11_layWay_19 : decode cX11_layWay 19 = .ok (.if_icmp .ne 19, 3) := by decide +kernel
theorem dX11_layWay_22 : decode cX11_layWay 22 = .ok (.aload_n 0, 1) := by decide +kernel
theorem dX11_layWay_23 : decode cX11_layWay 23 = .ok (.iload_n 2, 1) := by decide +kernel
theorem dX11_layWay_24 : decode cX11_layWay 24 = .ok (.invokevirtual 240, 3) := by decide +kernel
theorem dX11_layWay_27 : decode cX11_layWay 27 = .ok (.ifCond .eq 5, 3) := by decide +kernel
theorem dX11_layWay_30 : decode cX11_layWay 30 = .ok (.iconst 1, 1) := by decide +kernel
theorem dX11_layWay_31 : decode cX11_layWay 31 = .ok (.ireturn, 1) := by decide +kernel
theorem dX11_layWay_32 : decode cX11_layWay 32 = .ok (.iinc 2 (-1), 3) := by decide +kernel
theorem dX11_layWay_35 : decode cX11_layWay 35 = .ok (.goto (-22), 3) := by decide +kernel
theorem dX11_layWay_38 : decode cX11_layWay 38 = .ok (.aload_n 0, 1) := by decide +kernel
theorem dX11_layWay_39 : decode cX11_layWay 39 = .ok (.getfield 40, 3) := by decide +kernel
theorem dX11_layWay_42 : decode cX11_layWay 42 = .ok (.iload_n 2, 1) := by decide +kernel
theorem dX11_layWay_43 : decode cX11_layWay 43 = .ok (.dup2, 1) := by decide +kernel
theorem dX11_layWay_44 : decode cX11_layWay 44 = .ok (.iaload, 1) := by decide +kernel
theorem dX11_layWay_45 : decode cX11_layWay 45 = .ok (.iconst 1, 1) := by decide +kernel
theorem dX11_layWay_46 : decode cX11_layWay 46 = .ok (.iadd, 1) := by decide +kernel
theorem dX11_layWay_47 : decode cX11_layWay 47 = .ok (.iastore, 1) := by decide +kernel
theorem dX11_layWay_48 : decode cX11_layWay 48 = .ok (.aload_n 0, 1) := by decide +kernel
theorem dX11_layWay_49 : decode cX11_layWay 49 = .ok (.getfield 40, 3) := by decide +kernel
theorem dX11_layWay_52 : decode cX11_layWay 52 = .ok (.iload_n 2, 1) := by decide +kernel
theorem dX11_layWay_53 : decode cX11_layWay 53 = .ok (.iaload, 1) := by decide +kernel
theorem dX11_layWay_54 : decode cX11_layWay 54 = .ok (.aload_n 0, 1) := by decide +kernel
theorem dX11_layWay_55 : decode cX11_layWay 55 = .ok (.getfield 108, 3) := by decide +kernel
theorem dX11_layWay_58 : decode cX11_layWay 58 = .ok (.if_icmp .ne 9, 3) := by decide +kernel
theorem dX11_layWay_61 : decode cX11_layWay 61 = .ok (.iinc 2 (-1), 3) := by decide +kernel
theorem dX11_layWay_64 : decode cX11_layWay 64 = .ok (.goto (-51), 3) := by decide +kernel
theorem dX11_layWay_67 : decode cX11_layWay 67 = .ok (.aload_n 0, 1) := by decide +kernel
theorem dX11_layWay_68 : decode cX11_layWay 68 = .ok (.iload_n 2, 1) := by decide +kernel
theorem dX11_layWay_69 : decode cX11_layWay 69 = .ok (.aload_n 0, 1) := by decide +kernel
theorem dX11_layWay_70 : decode cX11_layWay 70 = .ok (.getfield 40, 3) := by decide +kernel
theorem dX11_layWay_73 : decode cX11_layWay 73 = .ok (.iload_n 2, 1) := by decide +kernel
theorem dX11_layWay_74 : decode cX11_layWay 74 = .ok (.iaload, 1) := by decide +kernel
theorem dX11_layWay_75 : decode cX11_layWay 75 = .ok (.invokevirtual 243, 3) := by decide +kernel
theorem dX11_layWay_78 : decode cX11_layWay 78 = .ok (.ifCond .eq (-65), 3) := by decide +kernel
theorem dX11_layWay_81 : decode cX11_layWay 81 = .ok (.iinc 2 1, 3) := by decide +kernel
theorem dX11_layWay_84 : decode cX11_layWay 84 = .ok (.aload_n 0, 1) := by decide +kernel
theorem dX11_layWay_85 : decode cX11_layWay 85 = .ok (.getfield 40, 3) := by decide +kernel
theorem dX11_layWay_88 : decode cX11_layWay 88 = .ok (.iload_n 2, 1) := by decide +kernel
theorem dX11_layWay_89 : decode cX11_layWay 89 = .ok (.iconst (-1), 1) := by decide +kernel
theorem dX11_layWay_90 : decode cX11_layWay 90 = .ok (.iastore, 1) := by decide +kernel
theorem dX11_layWay_91 : decode cX11_layWay 91 = .ok (.goto (-78), 3) := by decide +kernel
theorem dX11_layWay_94 : decode cX11_layWay 94 = .ok (.iconst 0, 1) := by decide +kernel
theorem dX11_layWay_95 : decode cX11_layWay 95 = .ok (.ireturn, 1) := by decide +kernel
theorem dX11_wayOf_0 : decode cX11_wayOf 0 = .ok (.iconst 0, 1) := by decide +kernel
theorem dX11_wayOf_1 : decode cX11_wayOf 1 = .ok (.istore_n 2, 1) := by decide +kernel
theorem dX11_wayOf_2 : decode cX11_wayOf 2 = .ok (.iload_n 2, 1) := by decide +kernel
theorem dX11_wayOf_3 : decode cX11_wayOf 3 = .ok (.bipush 6, 2) := by decide +kernel
theorem dX11_wayOf_5 : decode cX11_wayOf 5 = .ok (.if_icmp .ge 61, 3) := by decide +kernel
theorem dX11_wayOf_8 : decode cX11_wayOf 8 = .ok (.aload_n 0, 1) := by decide +kernel
theorem dX11_wayOf_9 : decode cX11_wayOf 9 = .ok (.iload_n 2, 1) := by decide +kernel
theorem dX11_wayOf_10 : decode cX11_wayOf 10 = .ok (.invokevirtual 246, 3) := by decide +kernel
theorem dX11_wayOf_13 : decode cX11_wayOf 13 = .ok (.ifCond .eq 47, 3) := by decide +kernel
theorem dX11_wayOf_16 : decode cX11_wayOf 16 = .ok (.iload_n 1, 1) := by decide +kernel
theorem dX11_wayOf_17 : decode cX11_wayOf 17 = .ok (.ifCond .ne 7, 3) := by decide +kernel
theorem dX11_wayOf_20 : decode cX11_wayOf 20 = .ok (.iload_n 2, 1) := by decide +kernel
theorem dX11_wayOf_21 : decode cX11_wayOf 21 = .ok (.goto 38, 3) := by decide +kernel
theorem dX11_wayOf_24 : decode cX11_wayOf 24 = .ok (.iload_n 1, 1) := by decide +kernel
theorem dX11_wayOf_25 : decode cX11_wayOf 25 = .ok (.iconst 1, 1) := by decide +kernel
theorem dX11_wayOf_26 : decode cX11_wayOf 26 = .ok (.if_icmp .ne 12, 3) := by decide +kernel
theorem dX11_wayOf_29 : decode cX11_wayOf 29 = .ok (.aload_n 0, 1) := by decide +kernel
theorem dX11_wayOf_30 : decode cX11_wayOf 30 = .ok (.getfield 37, 3) := by decide +kernel
theorem dX11_wayOf_33 : decode cX11_wayOf 33 = .ok (.iload_n 2, 1) := by decide +kernel
theorem dX11_wayOf_34 : decode cX11_wayOf 34 = .ok (.iaload, 1) := by decide +kernel
theorem dX11_wayOf_35 : decode cX11_wayOf 35 = .ok (.goto 24, 3) := by decide +kernel
theorem dX11_wayOf_38 : decode cX11_wayOf 38 = .ok (.iload_n 1, 1) := by decide +kernel
theorem dX11_wayOf_39 : decode cX11_wayOf 39 = .ok (.bipush 10, 2) := by decide +kernel
theorem dX11_wayOf_41 : decode cX11_wayOf 41 = .ok (.isub, 1) := by decide +kernel
theorem dX11_wayOf_42 : decode cX11_wayOf 42 = .ok (.iload_n 2, 1) := by decide +kernel
theorem dX11_wayOf_43 : decode cX11_wayOf 43 = .ok (.if_icmp .ge 15, 3) := by decide +kernel
theorem dX11_wayOf_46 : decode cX11_wayOf 46 = .ok (.aload_n 0, 1) := by decide +kernel
theorem dX11_wayOf_47 : decode cX11_wayOf 47 = .ok (.getfield 40, 3) := by decide +kernel
theorem dX11_wayOf_50 : decode cX11_wayOf 50 = .ok (.iload_n 1, 1) := by decide +kernel
theorem dX11_wayOf_51 : decode cX11_wayOf 51 = .ok (.bipush 10, 2) := by decide +kernel
theorem dX11_wayOf_53 : decode cX11_wayOf 53 = .ok (.isub, 1) := by decide +kernel
theorem dX11_wayOf_54 : decode cX11_wayOf 54 = .ok (.iaload, 1) := by decide +kernel
theorem dX11_wayOf_55 : decode cX11_wayOf 55 = .ok (.goto 4, 3) := by decide +kernel
theorem dX11_wayOf_58 : decode cX11_wayOf 58 = .ok (.iconst (-1), 1) := by decide +kernel
theorem dX11_wayOf_59 : decode cX11_wayOf 59 = .ok (.ireturn, 1) := by decide +kernel
theorem dX11_wayOf_60 : decode cX11_wayOf 60 = .ok (.iinc 2 1, 3) := by decide +kernel
theorem dX11_wayOf_63 : decode cX11_wayOf 63 = .ok (.goto (-61), 3) := by decide +kernel
theorem dX11_wayOf_66 : decode cX11_wayOf 66 = .ok (.iconst (-1), 1) := by decide +kernel
theorem dX11_wayOf_67 : decode cX11_wayOf 67 = .ok (.ireturn, 1) := by decide +kernel
theorem dX11_way_0 : decode cX11_way 0 = .ok (.iload_n 1, 1) := by decide +kernel
theorem dX11_way_1 : decode cX11_way 1 = .ok (.i2l, 1) := by decide +kernel
theorem dX11_way_2 : decode cX11_way 2 = .ok (.lconst 0, 1) := by decide +kernel
theorem dX11_way_3 : decode cX11_way 3 = .ok (.lconst 1, 1) := by decide +kernel
theorem dX11_way_4 : decode cX11_way 4 = .ok (.invokestatic 73, 3) := by decide +kernel
theorem dX11_way_7 : decode cX11_way 7 = .ok (.ifCond .ne 20, 3) := by decide +kernel
theorem dX11_way_10 : decode cX11_way 10 = .ok (.iload_n 1, 1) := by decide +kernel
theorem dX11_way_11 : decode cX11_way 11 = .ok (.i2l, 1) := by decide +kernel
theorem dX11_way_12 : decode cX11_way 12 = .ok (.ldc2_w 158, 3) := by decide +kernel
theorem dX11_way_15 : decode cX11_way 15 = .ok (.ldc2_w 249, 3) := by decide +kernel
theorem dX11_way_18 : decode cX11_way 18 = .ok (.invokestatic 73, 3) := by decide +kernel
theorem dX11_way_21 : decode cX11_way 21 = .ok (.ifCond .ne 6, 3) := by decide +kernel
theorem dX11_way_24 : decode cX11_way 24 = .ok (.bipush (-102), 2) := by decide +kernel
theorem dX11_way_26 : decode cX11_way 26 = .ok (.ireturn, 1) := by decide +kernel
theorem dX11_way_27 : decode cX11_way 27 = .ok (.aload_n 0, 1) := by decide +kernel
theorem dX11_way_28 : decode cX11_way 28 = .ok (.invokevirtual 234, 3) := by decide +kernel
theorem dX11_way_31 : decode cX11_way 31 = .ok (.ifCond .ne 19, 3) := by decide +kernel
theorem dX11_way_34 : decode cX11_way 34 = .ok (.aload_n 0, 1) := by decide +kernel
theorem dX11_way_35 : decode cX11_way 35 = .ok (.invokevirtual 251, 3) := by decide +kernel
theorem dX11_way_38 : decode cX11_way 38 = .ok (.ifCond .eq 12, 3) := by decide +kernel
theorem dX11_way_41 : decode cX11_way 41 = .ok (.aload_n 0, 1) := by decide +kernel
theorem dX11_way_42 : decode cX11_way 42 = .ok (.getfield 254, 3) := by decide +kernel
theorem dX11_way_45 : decode cX11_way 45 = .ok (.bipush 16, 2) := by decide +kernel
theorem dX11_way_47 : decode cX11_way 47 = .ok (.if_icmp .ne 6, 3) := by decide +kernel
theorem dX11_way_50 : decode cX11_way 50 = .ok (.bipush (-103), 2) := by decide +kernel
theorem dX11_way_52 : decode cX11_way 52 = .ok (.ireturn, 1) := by decide +kernel
theorem dX11_way_53 : decode cX11_way 53 = .ok (.aload_n 0, 1) := by decide +kernel
theorem dX11_way_54 : decode cX11_way 54 = .ok (.dup, 1) := by decide +kernel
theorem dX11_way_55 : decode cX11_way 55 = .ok (.getfield 254, 3) := by decide +kernel
theorem dX11_way_58 : decode cX11_way 58 = .ok (.iconst 1, 1) := by decide +kernel
theorem dX11_way_59 : decode cX11_way 59 = .ok (.iadd, 1) := by decide +kernel
theorem dX11_way_60 : decode cX11_way 60 = .ok (.putfield 254, 3) := by decide +kernel
theorem dX11_way_63 : decode cX11_way 63 = .ok (.aload_n 0, 1) := by decide +kernel
theorem dX11_way_64 : decode cX11_way 64 = .ok (.iload_n 1, 1) := by decide +kernel
theorem dX11_way_65 : decode cX11_way 65 = .ok (.invokevirtual 257, 3) := by decide +kernel
theorem dX11_way_68 : decode cX11_way 68 = .ok (.ireturn, 1) := by decide +kernel
theorem dX11_meet_0 : decode cX11_meet 0 = .ok (.iconst 0, 1) := by decide +kernel
theorem dX11_meet_1 : decode cX11_meet 1 = .ok (.istore_n 2, 1) := by decide +kernel
theorem dX11_meet_2 : decode cX11_meet 2 = .ok (.iconst 0, 1) := by decide +kernel
theorem dX11_meet_3 : decode cX11_meet 3 = .ok (.istore_n 3, 1) := by decide +kernel
theorem dX11_meet_4 : decode cX11_meet 4 = .ok (.iload_n 3, 1) := by decide +kernel
theorem dX11_meet_5 : decode cX11_meet 5 = .ok (.aload_n 0, 1) := by decide +kernel
theorem dX11_meet_6 : decode cX11_meet 6 = .ok (.getfield 135, 3) := by decide +kernel
theorem dX11_meet_9 : decode cX11_meet 9 = .ok (.if_icmp .ge 26, 3) := by decide +kernel
theorem dX11_meet_12 : decode cX11_meet 12 = .ok (.bipush 12, 2) := by decide +kernel
theorem dX11_meet_14 : decode cX11_meet 14 = .ok (.iload_n 2, 1) := by decide +kernel
theorem dX11_meet_15 : decode cX11_meet 15 = .ok (.imul, 1) := by decide +kernel
theorem dX11_meet_16 : decode cX11_meet 16 = .ok (.aload_n 0, 1) := by decide +kernel
theorem dX11_meet_17 : decode cX11_meet 17 = .ok (.getfield 34, 3) := by decide +kernel
theorem dX11_meet_20 : decode cX11_meet 20 = .ok (.bipush 8, 2) := by decide +kernel
theorem dX11_meet_22 : decode cX11_meet 22 = .ok (.iload_n 1, 1) := by decide +kernel
theorem dX11_meet_23 : decode cX11_meet 23 = .ok (.imul, 1) := by decide +kernel
theorem dX11_meet_24 : decode cX11_meet 24 = .ok (.iload_n 3, 1) := by decide +kernel
theorem dX11_meet_25 : decode cX11_meet 25 = .ok (.iadd, 1) := by decide +kernel
theorem dX11_meet_26 : decode cX11_meet 26 = .ok (.iaload, 1) := by decide +kernel
theorem dX11_meet_27 : decode cX11_meet 27 = .ok (.iadd, 1) := by decide +kernel
theorem dX11_meet_28 : decode cX11_meet 28 = .ok (.istore_n 2, 1) := by decide +kernel
theorem dX11_meet_29 : decode cX11_meet 29 = .ok (.iinc 3 1, 3) := by decide +kernel
theorem dX11_meet_32 : decode cX11_meet 32 = .ok (.goto (-28), 3) := by decide +kernel
theorem dX11_meet_35 : decode cX11_meet 35 = .ok (.iconst 0, 1) := by decide +kernel
theorem dX11_meet_36 : decode cX11_meet 36 = .ok (.istore_n 3, 1) := by decide +kernel
theorem dX11_meet_37 : decode cX11_meet 37 = .ok (.iload_n 3, 1) := by decide +kernel
theorem dX11_meet_38 : decode cX11_meet 38 = .ok (.aload_n 0, 1) := by decide +kernel
theorem dX11_meet_39 : decode cX11_meet 39 = .ok (.getfield 260, 3) := by decide +kernel
theorem dX11_meet_42 : decode cX11_meet 42 = .ok (.if_icmp .ge 19, 3) := by decide +kernel
theorem dX11_meet_45 : decode cX11_meet 45 = .ok (.aload_n 0, 1) := by decide +kernel
theorem dX11_meet_46 : decode cX11_meet 46 = .ok (.getfield 43, 3) := by decide +kernel
theorem dX11_meet_49 : decode cX11_meet 49 = .ok (.iload_n 3, 1) := by decide +kernel
theorem dX11_meet_50 : decode cX11_meet 50 = .ok (.iaload, 1) := by decide +kernel
theorem dX11_meet_51 : decode cX11_meet 51 = .ok (.iload_n 2, 1) := by decide +kernel
theorem dX11_meet_52 : decode cX11_meet 52 = .ok (.if_icmp .eq 9, 3) := by decide +kernel
theorem dX11_meet_55 : decode cX11_meet 55 = .ok (.iinc 3 1, 3) := by decide +kernel
theorem dX11_meet_58 : decode cX11_meet 58 = .ok (.goto (-21), 3) := by decide +kernel
theorem dX11_meet_61 : decode cX11_meet 61 = .ok (.aload_n 0, 1) := by decide +kernel
theorem dX11_meet_62 : decode cX11_meet 62 = .ok (.getfield 43, 3) := by decide +kernel
theorem dX11_meet_65 : decode cX11_meet 65 = .ok (.iload_n 3, 1) := by decide +kernel
theorem dX11_meet_66 : decode cX11_meet 66 = .ok (.iload_n 2, 1) := by decide +kernel
theorem dX11_meet_67 : decode cX11_meet 67 = .ok (.iastore, 1) := by decide +kernel
theorem dX11_meet_68 : decode cX11_meet 68 = .ok (.aload_n 0, 1) := by decide +kernel
theorem dX11_meet_69 : decode cX11_meet 69 = .ok (.iload_n 3, 1) := by decide +kernel
theorem dX11_meet_70 : decode cX11_meet 70 = .ok (.aload_n 0, 1) := by decide +kernel
theorem dX11_meet_71 : decode cX11_meet 71 = .ok (.getfield 260, 3) := by decide +kernel
theorem dX11_meet_74 : decode cX11_meet 74 = .ok (.if_icmp .ne 9, 3) := by decide +kernel
theorem dX11_meet_77 : decode cX11_meet 77 = .ok (.iload_n 3, 1) := by decide +kernel
theorem dX11_meet_78 : decode cX11_meet 78 = .ok (.iconst 1, 1) := by decide +kernel
theorem dX11_meet_79 : decode cX11_meet 79 = .ok (.iadd, 1) := by decide +kernel
theorem dX11_meet_80 : decode cX11_meet 80 = .ok (.goto 7, 3) := by decide +kernel
theorem dX11_meet_83 : decode cX11_meet 83 = .ok (.aload_n 0, 1) := by decide +kernel
theorem dX11_meet_84 : decode cX11_meet 84 = .ok (.getfield 260, 3) := by decide +kernel
theorem dX11_meet_87 : decode cX11_meet 87 = .ok (.putfield 260, 3) := by decide +kernel
theorem dX11_meet_90 : decode cX11_meet 90 = .ok (.return_, 1) := by decide +kernel
theorem dX11_becomeOf_0 : decode cX11_becomeOf 0 = .ok (.aload_n 0, 1) := by decide +kernel
theorem dX11_becomeOf_1 : decode cX11_becomeOf 1 = .ok (.invokevirtual 237, 3) := by decide +kernel
theorem dX11_becomeOf_4 : decode cX11_becomeOf 4 = .ok (.aload_n 0, 1) := by decide +kernel
theorem dX11_becomeOf_5 : decode cX11_becomeOf 5 = .ok (.iconst 0, 1) := by decide +kernel
theorem dX11_becomeOf_6 : decode cX11_becomeOf 6 = .ok (.putfield 260, 3) := by decide +kernel
theorem dX11_becomeOf_9 : decode cX11_becomeOf 9 = .ok (.iconst 0, 1) := by decide +kernel
theorem dX11_becomeOf_10 : decode cX11_becomeOf 10 = .ok (.istore_n 2, 1) := by decide +kernel
theorem dX11_becomeOf_11 : decode cX11_becomeOf 11 = .ok (.aload_n 0, 1) := by decide +kernel
theorem dX11_becomeOf_12 : decode cX11_becomeOf 12 = .ok (.getfield 40, 3) := by decide +kernel
theorem dX11_becomeOf_15 : decode cX11_becomeOf 15 = .ok (.iconst 0, 1) := by decide +kernel
theorem dX11_becomeOf_16 : decode cX11_becomeOf 16 = .ok (.iconst (-1), 1) := by decide +kernel
theorem dX11_becomeOf_17 : decode cX11_becomeOf 17 = .ok (.iastore, 1) := by decide +kernel
theorem dX11_becomeOf_18 : decode cX11_becomeOf 18 = .ok (.iload_n 2, 1) := by decide +kernel
theorem dX11_becomeOf_19 : decode cX11_becomeOf 19 = .ok (.ifCond .lt 75, 3) := by decide +kernel
theorem dX11_becomeOf_22 : decode cX11_becomeOf 22 = .ok (.iload_n 2, 1) := by decide +kernel
theorem dX11_becomeOf_23 : decode cX11_becomeOf 23 = .ok (.iload_n 1, 1) := by decide +kernel
theorem dX11_becomeOf_24 : decode cX11_becomeOf 24 = .ok (.if_icmp .ne 14, 3) := by decide +kernel
theorem dX11_becomeOf_27 : decode cX11_becomeOf 27 = .ok (.aload_n 0, 1) := by decide +kernel
theorem dX11_becomeOf_28 : decode cX11_becomeOf 28 = .ok (.iload_n 2, 1) := by decide +kernel
theorem dX11_becomeOf_29 : decode cX11_becomeOf 29 = .ok (.invokevirtual 263, 3) := by decide +kernel
theorem dX11_becomeOf_32 : decode cX11_becomeOf 32 = .ok (.iinc 2 (-1), 3) := by decide +kernel
theorem dX11_becomeOf_35 : decode cX11_becomeOf 35 = .ok (.goto (-17), 3) := by decide +kernel
theorem dX11_becomeOf_38 : decode cX11_becomeOf 38 = .ok (.aload_n 0, 1) := by decide +kernel
theorem dX11_becomeOf_39 : decode cX11_becomeOf 39 = .ok (.getfield 40, 3) := by decide +kernel
theorem dX11_becomeOf_42 : decode cX11_becomeOf 42 = .ok (.iload_n 2, 1) := by decide +kernel
theorem dX11_becomeOf_43 : decode cX11_becomeOf 43 = .ok (.dup2, 1) := by decide +kernel
theorem dX11_becomeOf_44 : decode cX11_becomeOf 44 = .ok (.iaload, 1) := by decide +kernel
theorem dX11_becomeOf_45 : decode cX11_becomeOf 45 = .ok (.iconst 1, 1) := by decide +kernel
theorem dX11_becomeOf_46 : decode cX11_becomeOf 46 = .ok (.iadd, 1) := by decide +kernel
theorem dX11_becomeOf_47 : decode cX11_becomeOf 47 = .ok (.iastore, 1) := by decide +kernel
theorem dX11_becomeOf_48 : decode cX11_becomeOf 48 = .ok (.aload_n 0, 1) := by decide +kernel
theorem dX11_becomeOf_49 : decode cX11_becomeOf 49 = .ok (.getfield 40, 3) := by decide +kernel
theorem dX11_becomeOf_52 : decode cX11_becomeOf 52 = .ok (.iload_n 2, 1) := by decide +kernel
theorem dX11_becomeOf_53 : decode cX11_becomeOf 53 = .ok (.iaload, 1) := by decide +kernel
theorem dX11_becomeOf_54 : decode cX11_becomeOf 54 = .ok (.aload_n 0, 1) := by decide +kernel
theorem dX11_becomeOf_55 : decode cX11_becomeOf 55 = .ok (.getfield 108, 3) := by decide +kernel
theorem dX11_becomeOf_58 : decode cX11_becomeOf 58 = .ok (.if_icmp .ne 9, 3) := by decide +kernel
theorem dX11_becomeOf_61 : decode cX11_becomeOf 61 = .ok (.iinc 2 (-1), 3) := by decide +kernel
theorem dX11_becomeOf_64 : decode cX11_becomeOf 64 = .ok (.goto (-46), 3) := by decide +kernel
theorem dX11_becomeOf_67 : decode cX11_becomeOf 67 = .ok (.aload_n 0, 1) := by decide +kernel
theorem dX11_becomeOf_68 : decode cX11_becomeOf 68 = .ok (.iload_n 2, 1) := by decide +kernel
theorem dX11_becomeOf_69 : decode cX11_becomeOf 69 = .ok (.aload_n 0, 1) := by decide +kernel
theorem dX11_becomeOf_70 : decode cX11_becomeOf 70 = .ok (.getfield 40, 3) := by decide +kernel
theorem dX11_becomeOf_73 : decode cX11_becomeOf 73 = .ok (.iload_n 2, 1) := by decide +kernel
theorem dX11_becomeOf_74 : decode cX11_becomeOf 74 = .ok (.iaload, 1) := by decide +kernel
theorem dX11_becomeOf_75 : decode cX11_becomeOf 75 = .ok (.invokevirtual 243, 3) := by decide +kernel
theorem dX11_becomeOf_78 : decode cX11_becomeOf 78 = .ok (.ifCond .eq (-60), 3) := by decide +kernel
theorem dX11_becomeOf_81 : decode cX11_becomeOf 81 = .ok (.iinc 2 1, 3) := by decide +kernel
theorem dX11_becomeOf_84 : decode cX11_becomeOf 84 = .ok (.aload_n 0, 1) := by decide +kernel
theorem dX11_becomeOf_85 : decode cX11_becomeOf 85 = .ok (.getfield 40, 3) := by decide +kernel
theorem dX11_becomeOf_88 : decode cX11_becomeOf 88 = .ok (.iload_n 2, 1) := by decide +kernel
theorem dX11_becomeOf_89 : decode cX11_becomeOf 89 = .ok (.iconst (-1), 1) := by decide +kernel
theorem dX11_becomeOf_90 : decode cX11_becomeOf 90 = .ok (.iastore, 1) := by decide +kernel
theorem dX11_becomeOf_91 : decode cX11_becomeOf 91 = .ok (.goto (-73), 3) := by decide +kernel
theorem dX11_becomeOf_94 : decode cX11_becomeOf 94 = .ok (.aload_n 0, 1) := by decide +kernel
theorem dX11_becomeOf_95 : decode cX11_becomeOf 95 = .ok (.getfield 260, 3) := by decide +kernel
theorem dX11_becomeOf_98 : decode cX11_becomeOf 98 = .ok (.ireturn, 1) := by decide +kernel
theorem dX11_become_0 : decode cX11_become 0 = .ok (.iload_n 1, 1) := by decide +kernel
theorem dX11_become_1 : decode cX11_become 1 = .ok (.i2l, 1) := by decide +kernel
theorem dX11_become_2 : decode cX11_become 2 = .ok (.lconst 0, 1) := by decide +kernel
theorem dX11_become_3 : decode cX11_become 3 = .ok (.ldc2_w 267, 3) := by decide +kernel
theorem dX11_become_6 : decode cX11_become 6 = .ok (.invokestatic 73, 3) := by decide +kernel
theorem dX11_become_9 : decode cX11_become 9 = .ok (.ifCond .ne 6, 3) := by decide +kernel
theorem dX11_become_12 : decode cX11_become 12 = .ok (.bipush (-102), 2) := by decide +kernel
theorem dX11_become_14 : decode cX11_become 14 = .ok (.ireturn, 1) := by decide +kernel
theorem dX11_become_15 : decode cX11_become 15 = .ok (.aload_n 0, 1) := by decide +kernel
theorem dX11_become_16 : decode cX11_become 16 = .ok (.invokevirtual 234, 3) := by decide +kernel
theorem dX11_become_19 : decode cX11_become 19 = .ok (.ifCond .ne 10, 3) := by decide +kernel
theorem dX11_become_22 : decode cX11_become 22 = .ok (.aload_n 0, 1) := by decide +kernel
theorem dX11_become_23 : decode cX11_become 23 = .ok (.getfield 135, 3) := by decide +kernel
theorem dX11_become_26 : decode cX11_become 26 = .ok (.ifCond .ne 8, 3) := by decide +kernel
theorem dX11_become_29 : decode cX11_become 29 = .ok (.bipush (-103), 2) := by decide +kernel
theorem dX11_become_31 : decode cX11_become 31 = .ok (.goto 8, 3) := by decide +kernel
theorem dX11_become_34 : decode cX11_become 34 = .ok (.aload_n 0, 1) := by decide +kernel
theorem dX11_become_35 : decode cX11_become 35 = .ok (.iload_n 1, 1) := by decide +kernel
theorem dX11_become_36 : decode cX11_become 36 = .ok (.invokevirtual 269, 3) := by decide +kernel
theorem dX11_become_39 : decode cX11_become 39 = .ok (.ireturn, 1) := by decide +kernel
theorem dX11_apartOf_0 : decode cX11_apartOf 0 = .ok (.iload_n 1, 1) := by decide +kernel
theorem dX11_apartOf_1 : decode cX11_apartOf 1 = .ok (.iload_n 3, 1) := by decide +kernel
theorem dX11_apartOf_2 : decode cX11_apartOf 2 = .ok (.if_icmp .ge 7, 3) := by decide +kernel
theorem dX11_apartOf_5 : decode cX11_apartOf 5 = .ok (.iload_n 1, 1) := by decide +kernel
theorem dX11_apartOf_6 : decode cX11_apartOf 6 = .ok (.goto 4, 3) := by decide +kernel
theorem dX11_apartOf_9 : decode cX11_apartOf 9 = .ok (.iload_n 3, 1) := by decide +kernel
theorem dX11_apartOf_10 : decode cX11_apartOf 10 = .ok (.istore 4, 2) := by decide +kernel
theorem dX11_apartOf_12 : decode cX11_apartOf 12 = .ok (.iload_n 1, 1) := by decide +kernel
theorem dX11_apartOf_13 : decode cX11_apartOf 13 = .ok (.iload_n 3, 1) := by decide +kernel
theorem dX11_apartOf_14 : decode cX11_apartOf 14 = .ok (.iadd, 1) := by decide +kernel
theorem dX11_apartOf_15 : decode cX11_apartOf 15 = .ok (.iconst 2, 1) := by decide +kernel
theorem dX11_apartOf_16 : decode cX11_apartOf 16 = .ok (.iload 4, 2) := by decide +kernel
theorem dX11_apartOf_18 : decode cX11_apartOf 18 = .ok (.imul, 1) := by decide +kernel
theorem dX11_apartOf_19 : decode cX11_apartOf 19 = .ok (.isub, 1) := by decide +kernel
theorem dX11_apartOf_20 : decode cX11_apartOf 20 = .ok (.istore 5, 2) := by decide +kernel
theorem dX11_apartOf_22 : decode cX11_apartOf 22 = .ok (.iconst 0, 1) := by decide +kernel
theorem dX11_apartOf_23 : decode cX11_apartOf 23 = .ok (.istore 6, 2) := by decide +kernel
theorem dX11_apartOf_25 : decode cX11_apartOf 25 = .ok (.iload 6, 2) := by decide +kernel
theorem dX11_apartOf_27 : decode cX11_apartOf 27 = .ok (.iload 4, 2) := by decide +kernel
theorem dX11_apartOf_29 : decode cX11_apartOf 29 = .ok (.if_icmp .ge 30, 3) := by decide +kernel
theorem dX11_apartOf_32 : decode cX11_apartOf 32 = .ok (.iload 5, 2) := by decide +kernel
theorem dX11_apartOf_34 : decode cX11_apartOf 34 = .ok (.aload_n 0, 1) := by decide +kernel
theorem dX11_apartOf_35 : decode cX11_apartOf 35 = .ok (.iload 6, 2) := by decide +kernel
theorem dX11_apartOf_37 : decode cX11_apartOf 37 = .ok (.iaload, 1) := by decide +kernel
theorem dX11_apartOf_38 : decode cX11_apartOf 38 = .ok (.aload_n 2, 1) := by decide +kernel
theorem dX11_apartOf_39 : decode cX11_apartOf 39 = .ok (.iload 6, 2) := by decide +kernel
theorem dX11_apartOf_41 : decode cX11_apartOf 41 = .ok (.iaload, 1) := by decide +kernel
theorem dX11_apartOf_42 : decode cX11_apartOf 42 = .ok (.if_icmp .ne 7, 3) := by decide +kernel
theorem dX11_apartOf_45 : decode cX11_apartOf 45 = .ok (.iconst 0, 1) := by decide +kernel
theorem dX11_apartOf_46 : decode cX11_apartOf 46 = .ok (.goto 4, 3) := by decide +kernel
theorem dX11_apartOf_49 : decode cX11_apartOf 49 = .ok (.iconst 1, 1) := by decide +kernel
theorem dX11_apartOf_50 : decode cX11_apartOf 50 = .ok (.iadd, 1) := by decide +kernel
theorem dX11_apartOf_51 : decode cX11_apartOf 51 = .ok (.istore 5, 2) := by decide +kernel
theorem dX11_apartOf_53 : decode cX11_apartOf 53 = .ok (.iinc 6 1, 3) := by decide +kernel
