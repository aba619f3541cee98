theorem z_code_0 : zCw 0 ∈ lw_tbl := List.mem_of_getElem? (i := 455) (by decide +kernel)
theorem z_code_1 : zCw 1 ∈ lw_tbl := List.mem_of_getElem? (i := 1114) (by decide +kernel)
theorem z_code_2 : zCw 2 ∈ lw_tbl := List.mem_of_getElem? (i := 1081) (by decide +kernel)
theorem z_code_3 : zCw 3 ∈ lw_tbl := List.mem_of_getElem? (i := 1103) (by decide +kernel)
theorem z_code_4 : zCw 4 ∈ lw_tbl := List.mem_of_getElem? (i := 1110) (by decide +kernel)
theorem z_code_5 : zCw 5 ∈ lw_tbl := List.mem_of_getElem? (i := 1096) (by decide +kernel)
theorem z_code_6 : zCw 6 ∈ lw_tbl := List.mem_of_getElem? (i := 168) (by decide +kernel)
theorem z_code_7 : zCw 7 ∈ lw_tbl := List.mem_of_getElem? (i := 590) (by decide +kernel)
theorem z_code_8 : zCw 8 ∈ lw_tbl := List.mem_of_getElem? (i := 625) (by decide +kernel)
theorem z_code_9 : zCw 9 ∈ lw_tbl := List.mem_of_getElem? (i := 729) (by decide +kernel)
theorem z_code_10 : zCw 10 ∈ lw_tbl := List.mem_of_getElem? (i := 733) (by decide +kernel)
theorem z_code_11 : zCw 11 ∈ lw_tbl := List.mem_of_getElem? (i := 1088) (by decide +kernel)
theorem z_code_12 : zCw 12 ∈ lw_tbl := List.mem_of_getElem? (i := 779) (by decide +kernel)
theorem z_code_13 : zCw 13 ∈ lw_tbl := List.mem_of_getElem? (i := 793) (by decide +kernel)
theorem z_code_14 : zCw 14 ∈ lw_tbl := List.mem_of_getElem? (i := 783) (by decide +kernel)
theorem z_code_15 : zCw 15 ∈ lw_tbl := List.mem_of_getElem? (i := 786) (by decide +kernel)
theorem z_code_16 : zCw 16 ∈ lw_tbl := List.mem_of_getElem? (i := 789) (by decide +kernel)
theorem z_code_17 : zCw 17 ∈ lw_tbl := List.mem_of_getElem? (i := 162) (by decide +kernel)
theorem z_code_18 : zCw 18 ∈ lw_tbl := List.mem_of_getElem? (i := 737) (by decide +kernel)
theorem z_code_19 : zCw 19 ∈ lw_tbl := List.mem_of_getElem? (i := 583) (by decide +kernel)
theorem z_code_20 : zCw 20 ∈ lw_tbl := List.mem_of_getElem? (i := 594) (by decide +kernel)
theorem z_code_21 : zCw 21 ∈ lw_tbl := List.mem_of_getElem? (i := 709) (by decide +kernel)
theorem z_code_22 : zCw 22 ∈ lw_tbl := List.mem_of_getElem? (i := 713) (by decide +kernel)
theorem z_code_23 : zCw 23 ∈ lw_tbl := List.mem_of_getElem? (i := 717) (by decide +kernel)
theorem z_code_24 : zCw 24 ∈ lw_tbl := List.mem_of_getElem? (i := 721) (by decide +kernel)
theorem z_code_25 : zCw 25 ∈ lw_tbl := List.mem_of_getElem? (i := 606) (by decide +kernel)
theorem z_code_26 : zCw 26 ∈ lw_tbl := List.mem_of_getElem? (i := 610) (by decide +kernel)
theorem z_code_27 : zCw 27 ∈ lw_tbl := List.mem_of_getElem? (i := 614) (by decide +kernel)
theorem z_code_28 : zCw 28 ∈ lw_tbl := List.mem_of_getElem? (i := 621) (by decide +kernel)
theorem z_code_29 : zCw 29 ∈ lw_tbl := List.mem_of_getElem? (i := 725) (by decide +kernel)
theorem z_code_30 : zCw 30 ∈ lw_tbl := List.mem_of_getElem? (i := 598) (by decide +kernel)
theorem z_code_31 : zCw 31 ∈ lw_tbl := List.mem_of_getElem? (i := 629) (by decide +kernel)
theorem z_code_32 : zCw 32 ∈ lw_tbl := List.mem_of_getElem? (i := 602) (by decide +kernel)
theorem z_code_33 : zCw 33 ∈ lw_tbl := List.mem_of_getElem? (i := 617) (by decide +kernel)
theorem z_code_34 : zCw 34 ∈ lw_tbl := List.mem_of_getElem? (i := 389) (by decide +kernel)
theorem z_code_35 : zCw 35 ∈ lw_tbl := List.mem_of_getElem? (i := 913) (by decide +kernel)
theorem z_code_36 : zCw 36 ∈ lw_tbl := List.mem_of_getElem? (i := 917) (by decide +kernel)
theorem z_code_37 : zCw 37 ∈ lw_tbl := List.mem_of_getElem? (i := 921) (by decide +kernel)
theorem z_code_38 : zCw 38 ∈ lw_tbl := List.mem_of_getElem? (i := 936) (by decide +kernel)
theorem z_code_39 : zCw 39 ∈ lw_tbl := List.mem_of_getElem? (i := 925) (by decide +kernel)
theorem z_code_40 : zCw 40 ∈ lw_tbl := List.mem_of_getElem? (i := 224) (by decide +kernel)
theorem z_code_41 : zCw 41 ∈ lw_tbl := List.mem_of_getElem? (i := 843) (by decide +kernel)
theorem z_code_42 : zCw 42 ∈ lw_tbl := List.mem_of_getElem? (i := 836) (by decide +kernel)
theorem z_code_43 : zCw 43 ∈ lw_tbl := List.mem_of_getElem? (i := 359) (by decide +kernel)
theorem z_code_44 : zCw 44 ∈ lw_tbl := List.mem_of_getElem? (i := 891) (by decide +kernel)
theorem z_code_45 : zCw 45 ∈ lw_tbl := List.mem_of_getElem? (i := 901) (by decide +kernel)
theorem z_code_46 : zCw 46 ∈ lw_tbl := List.mem_of_getElem? (i := 897) (by decide +kernel)
theorem z_code_47 : zCw 47 ∈ lw_tbl := List.mem_of_getElem? (i := 1042) (by decide +kernel)
theorem z_code_48 : zCw 48 ∈ lw_tbl := List.mem_of_getElem? (i := 1050) (by decide +kernel)
theorem z_code_49 : zCw 49 ∈ lw_tbl := List.mem_of_getElem? (i := 1046) (by decide +kernel)
theorem z_code_50 : zCw 50 ∈ lw_tbl := List.mem_of_getElem? (i := 1055) (by decide +kernel)
theorem z_code_51 : zCw 51 ∈ lw_tbl := List.mem_of_getElem? (i := 307) (by decide +kernel)
theorem z_code_52 : zCw 52 ∈ lw_tbl := List.mem_of_getElem? (i := 771) (by decide +kernel)
theorem z_code_53 : zCw 53 ∈ lw_tbl := List.mem_of_getElem? (i := 828) (by decide +kernel)
theorem z_code_54 : zCw 54 ∈ lw_tbl := List.mem_of_getElem? (i := 775) (by decide +kernel)
theorem z_code_55 : zCw 55 ∈ lw_tbl := List.mem_of_getElem? (i := 811) (by decide +kernel)
theorem z_code_56 : zCw 56 ∈ lw_tbl := List.mem_of_getElem? (i := 1063) (by decide +kernel)
theorem z_code_57 : zCw 57 ∈ lw_tbl := List.mem_of_getElem? (i := 819) (by decide +kernel)
theorem z_code_58 : zCw 58 ∈ lw_tbl := List.mem_of_getElem? (i := 824) (by decide +kernel)
theorem z_code_59 : zCw 59 ∈ lw_tbl := List.mem_of_getElem? (i := 832) (by decide +kernel)
theorem z_code_60 : zCw 60 ∈ lw_tbl := List.mem_of_getElem? (i := 250) (by decide +kernel)
theorem z_code_61 : zCw 61 ∈ lw_tbl := List.mem_of_getElem? (i := 854) (by decide +kernel)
theorem z_code_62 : zCw 62 ∈ lw_tbl := List.mem_of_getElem? (i := 859) (by decide +kernel)
theorem z_code_63 : zCw 63 ∈ lw_tbl := List.mem_of_getElem? (i := 551) (by decide +kernel)
theorem z_code_64 : zCw 64 ∈ lw_tbl := List.mem_of_getElem? (i := 555) (by decide +kernel)
theorem z_code_65 : zCw 65 ∈ lw_tbl := List.mem_of_getElem? (i := 815) (by decide +kernel)
theorem z_code_66 : zCw 66 ∈ lw_tbl := List.mem_of_getElem? (i := 753) (by decide +kernel)
theorem z_code_67 : zCw 67 ∈ lw_tbl := List.mem_of_getElem? (i := 867) (by decide +kernel)
theorem z_code_68 : zCw 68 ∈ lw_tbl := List.mem_of_getElem? (i := 1069) (by decide +kernel)
theorem z_code_69 : zCw 69 ∈ lw_tbl := List.mem_of_getElem? (i := 1170) (by decide +kernel)
theorem z_code_70 : zCw 70 ∈ lw_tbl := List.mem_of_getElem? (i := 1175) (by decide +kernel)
theorem z_code_71 : zCw 71 ∈ lw_tbl := List.mem_of_getElem? (i := 408) (by decide +kernel)
theorem z_code_72 : zCw 72 ∈ lw_tbl := List.mem_of_getElem? (i := 952) (by decide +kernel)
theorem z_code_73 : zCw 73 ∈ lw_tbl := List.mem_of_getElem? (i := 956) (by decide +kernel)
theorem z_code_74 : zCw 74 ∈ lw_tbl := List.mem_of_getElem? (i := 963) (by decide +kernel)
theorem z_code_75 : zCw 75 ∈ lw_tbl := List.mem_of_getElem? (i := 980) (by decide +kernel)
theorem z_code_76 : zCw 76 ∈ lw_tbl := List.mem_of_getElem? (i := 968) (by decide +kernel)
theorem z_code_77 : zCw 77 ∈ lw_tbl := List.mem_of_getElem? (i := 972) (by decide +kernel)
theorem z_code_78 : zCw 78 ∈ lw_tbl := List.mem_of_getElem? (i := 984) (by decide +kernel)
theorem z_code_79 : zCw 79 ∈ lw_tbl := List.mem_of_getElem? (i := 976) (by decide +kernel)
theorem z_code_80 : zCw 80 ∈ lw_tbl := List.mem_of_getElem? (i := 993) (by decide +kernel)
theorem z_code_81 : zCw 81 ∈ lw_tbl := List.mem_of_getElem? (i := 146) (by decide +kernel)
theorem z_code_82 : zCw 82 ∈ lw_tbl := List.mem_of_getElem? (i := 571) (by decide +kernel)
theorem z_code_83 : zCw 83 ∈ lw_tbl := List.mem_of_getElem? (i := 575) (by decide +kernel)
theorem z_code_84 : zCw 84 ∈ lw_tbl := List.mem_of_getElem? (i := 749) (by decide +kernel)
theorem z_code_85 : zCw 85 ∈ lw_tbl := List.mem_of_getElem? (i := 1162) (by decide +kernel)
theorem z_code_86 : zCw 86 ∈ lw_tbl := List.mem_of_getElem? (i := 1077) (by decide +kernel)
theorem z_code_87 : zCw 87 ∈ lw_tbl := List.mem_of_getElem? (i := 745) (by decide +kernel)
theorem z_code_88 : zCw 88 ∈ lw_tbl := List.mem_of_getElem? (i := 435) (by decide +kernel)
theorem z_code_89 : zCw 89 ∈ lw_tbl := List.mem_of_getElem? (i := 1001) (by decide +kernel)
theorem z_code_90 : zCw 90 ∈ lw_tbl := List.mem_of_getElem? (i := 1014) (by decide +kernel)
theorem z_code_91 : zCw 91 ∈ lw_tbl := List.mem_of_getElem? (i := 1023) (by decide +kernel)
theorem z_code_92 : zCw 92 ∈ lw_tbl := List.mem_of_getElem? (i := 1019) (by decide +kernel)
theorem z_code_93 : zCw 93 ∈ lw_tbl := List.mem_of_getElem? (i := 1027) (by decide +kernel)
theorem z_code_94 : zCw 94 ∈ lw_tbl := List.mem_of_getElem? (i := 1031) (by decide +kernel)
theorem z_code_95 : zCw 95 ∈ lw_tbl := List.mem_of_getElem? (i := 138) (by decide +kernel)
theorem z_code_96 : zCw 96 ∈ lw_tbl := List.mem_of_getElem? (i := 544) (by decide +kernel)
theorem z_code_97 : zCw 97 ∈ lw_tbl := List.mem_of_getElem? (i := 559) (by decide +kernel)
theorem z_code_98 : zCw 98 ∈ lw_tbl := List.mem_of_getElem? (i := 563) (by decide +kernel)
theorem z_code_99 : zCw 99 ∈ lw_tbl := List.mem_of_getElem? (i := 567) (by decide +kernel)
theorem z_code_100 : zCw 100 ∈ lw_tbl := List.mem_of_getElem? (i := 579) (by decide +kernel)
theorem z_code_101 : zCw 101 ∈ lw_tbl := List.mem_of_getElem? (i := 741) (by decide +kernel)
theorem z_code_102 : zCw 102 ∈ lw_tbl := List.mem_of_getElem? (i := 758) (by decide +kernel)
theorem z_code_103 : zCw 103 ∈ lw_tbl := List.mem_of_getElem? (i := 799) (by decide +kernel)
theorem z_code_104 : zCw 104 ∈ lw_tbl := List.mem_of_getElem? (i := 803) (by decide +kernel)
theorem z_code_105 : zCw 105 ∈ lw_tbl := List.mem_of_getElem? (i := 850) (by decide +kernel)
theorem z_code_106 : zCw 106 ∈ lw_tbl := List.mem_of_getElem? (i := 871) (by decide +kernel)
theorem z_code_107 : zCw 107 ∈ lw_tbl := List.mem_of_getElem? (i := 875) (by decide +kernel)
theorem z_code_108 : zCw 108 ∈ lw_tbl := List.mem_of_getElem? (i := 879) (by decide +kernel)
theorem z_code_109 : zCw 109 ∈ lw_tbl := List.mem_of_getElem? (i := 905) (by decide +kernel)
theorem z_code_110 : zCw 110 ∈ lw_tbl := List.mem_of_getElem? (i := 932) (by decide +kernel)
theorem z_code_111 : zCw 111 ∈ lw_tbl := List.mem_of_getElem? (i := 940) (by decide +kernel)
theorem z_code_112 : zCw 112 ∈ lw_tbl := List.mem_of_getElem? (i := 945) (by decide +kernel)
theorem z_code_113 : zCw 113 ∈ lw_tbl := List.mem_of_getElem? (i := 989) (by decide +kernel)
theorem z_code_114 : zCw 114 ∈ lw_tbl := List.mem_of_getElem? (i := 997) (by decide +kernel)
theorem z_code_115 : zCw 115 ∈ lw_tbl := List.mem_of_getElem? (i := 1006) (by decide +kernel)
theorem z_code_116 : zCw 116 ∈ lw_tbl := List.mem_of_getElem? (i := 1010) (by decide +kernel)
theorem z_code_117 : zCw 117 ∈ lw_tbl := List.mem_of_getElem? (i := 1038) (by decide +kernel)
theorem z_code_118 : zCw 118 ∈ lw_tbl := List.mem_of_getElem? (i := 1059) (by decide +kernel)
theorem z_code_119 : zCw 119 ∈ lw_tbl := List.mem_of_getElem? (i := 1073) (by decide +kernel)
theorem z_code_120 : zCw 120 ∈ lw_tbl := List.mem_of_getElem? (i := 1118) (by decide +kernel)
theorem z_code_121 : zCw 121 ∈ lw_tbl := List.mem_of_getElem? (i := 1134) (by decide +kernel)
theorem z_code_122 : zCw 122 ∈ lw_tbl := List.mem_of_getElem? (i := 1140) (by decide +kernel)
theorem z_code_123 : zCw 123 ∈ lw_tbl := List.mem_of_getElem? (i := 1145) (by decide +kernel)
theorem z_code_124 : zCw 124 ∈ lw_tbl := List.mem_of_getElem? (i := 1150) (by decide +kernel)
theorem z_code_125 : zCw 125 ∈ lw_tbl := List.mem_of_getElem? (i := 1154) (by decide +kernel)
theorem z_code_126 : zCw 126 ∈ lw_tbl := List.mem_of_getElem? (i := 1158) (by decide +kernel)
theorem z_code_127 : zCw 127 ∈ lw_tbl := List.mem_of_getElem? (i := 1166) (by decide +kernel)
theorem z_code_128 : zCw 128 ∈ lw_tbl := List.mem_of_getElem? (i := 547) (by decide +kernel)
theorem z_code_129 : zCw 129 ∈ lw_tbl := List.mem_of_getElem? (i := 948) (by decide +kernel)
theorem z_code_130 : zCw 130 ∈ lw_tbl := List.mem_of_getElem? (i := 762) (by decide +kernel)
theorem z_code_131 : zCw 131 ∈ lw_tbl := List.mem_of_getElem? (i := 807) (by decide +kernel)
theorem z_code_132 : zCw 132 ∈ lw_tbl := List.mem_of_getElem? (i := 767) (by decide +kernel)
theorem z_code_133 : zCw 133 ∈ lw_tbl := List.mem_of_getElem? (i := 863) (by decide +kernel)
theorem z_code_134 : zCw 134 ∈ lw_tbl := List.mem_of_getElem? (i := 887) (by decide +kernel)
theorem z_code_135 : zCw 135 ∈ lw_tbl := List.mem_of_getElem? (i := 883) (by decide +kernel)
theorem z_code_136 : zCw 136 ∈ lw_tbl := List.mem_of_getElem? (i := 909) (by decide +kernel)
theorem z_code_137 : zCw 137 ∈ lw_tbl := List.mem_of_getElem? (i := 1124) (by decide +kernel)
theorem z_code_138 : zCw 138 ∈ lw_tbl := List.mem_of_getElem? (i := 1130) (by decide +kernel)
theorem z_code_139 : zCw 139 ∈ lw_tbl := List.mem_of_getElem? (i := 1180) (by decide +kernel)
theorem z_code_140 : zCw 140 ∈ lw_tbl := List.mem_of_getElem? (i := 1423) (by decide +kernel)
theorem z_code_141 : zCw 141 ∈ lw_tbl := List.mem_of_getElem? (i := 1710) (by decide +kernel)
theorem z_code_142 : zCw 142 ∈ lw_tbl := List.mem_of_getElem? (i := 1733) (by decide +kernel)
theorem z_code_143 : zCw 143 ∈ lw_tbl := List.mem_of_getElem? (i := 1541) (by decide +kernel)
theorem z_code_144 : zCw 144 ∈ lw_tbl := List.mem_of_getElem? (i := 1534) (by decide +kernel)
theorem z_code_145 : zCw 145 ∈ lw_tbl := List.mem_of_getElem? (i := 1420) (by decide +kernel)
theorem z_code_146 : zCw 146 ∈ lw_tbl := List.mem_of_getElem? (i := 1557) (by decide +kernel)
theorem z_code_147 : zCw 147 ∈ lw_tbl := List.mem_of_getElem? (i := 1427) (by decide +kernel)
theorem z_code_148 : zCw 148 ∈ lw_tbl := List.mem_of_getElem? (i := 1417) (by decide +kernel)
theorem z_code_149 : zCw 149 ∈ lw_tbl := List.mem_of_getElem? (i := 1431) (by decide +kernel)
theorem z_code_150 : zCw 150 ∈ lw_tbl := List.mem_of_getElem? (i := 1435) (by decide +kernel)
theorem z_code_151 : zCw 151 ∈ lw_tbl := List.mem_of_getElem? (i := 1538) (by decide +kernel)
theorem z_code_152 : zCw 152 ∈ lw_tbl := List.mem_of_getElem? (i := 1443) (by decide +kernel)
theorem z_code_153 : zCw 153 ∈ lw_tbl := List.mem_of_getElem? (i := 1439) (by decide +kernel)
theorem z_code_154 : zCw 154 ∈ lw_tbl := List.mem_of_getElem? (i := 1455) (by decide +kernel)
theorem z_code_155 : zCw 155 ∈ lw_tbl := List.mem_of_getElem? (i := 1476) (by decide +kernel)
theorem z_code_156 : zCw 156 ∈ lw_tbl := List.mem_of_getElem? (i := 1459) (by decide +kernel)
theorem z_code_157 : zCw 157 ∈ lw_tbl := List.mem_of_getElem? (i := 1526) (by decide +kernel)
theorem z_code_158 : zCw 158 ∈ lw_tbl := List.mem_of_getElem? (i := 1480) (by decide +kernel)
theorem z_code_159 : zCw 159 ∈ lw_tbl := List.mem_of_getElem? (i := 1484) (by decide +kernel)
theorem z_code_160 : zCw 160 ∈ lw_tbl := List.mem_of_getElem? (i := 1471) (by decide +kernel)
theorem z_code_161 : zCw 161 ∈ lw_tbl := List.mem_of_getElem? (i := 1498) (by decide +kernel)
theorem z_code_162 : zCw 162 ∈ lw_tbl := List.mem_of_getElem? (i := 1487) (by decide +kernel)
theorem z_code_163 : zCw 163 ∈ lw_tbl := List.mem_of_getElem? (i := 1490) (by decide +kernel)
theorem z_code_164 : zCw 164 ∈ lw_tbl := List.mem_of_getElem? (i := 1494) (by decide +kernel)
theorem z_code_165 : zCw 165 ∈ lw_tbl := List.mem_of_getElem? (i := 1467) (by decide +kernel)
theorem z_code_166 : zCw 166 ∈ lw_tbl := List.mem_of_getElem? (i := 1502) (by decide +kernel)
theorem z_code_167 : zCw 167 ∈ lw_tbl := List.mem_of_getElem? (i := 1463) (by decide +kernel)
theorem z_code_168 : zCw 168 ∈ lw_tbl := List.mem_of_getElem? (i := 1514) (by decide +kernel)
theorem z_code_169 : zCw 169 ∈ lw_tbl := List.mem_of_getElem? (i := 1518) (by decide +kernel)
theorem z_code_170 : zCw 170 ∈ lw_tbl := List.mem_of_getElem? (i := 1522) (by decide +kernel)
theorem z_code_171 : zCw 171 ∈ lw_tbl := List.mem_of_getElem? (i := 1510) (by decide +kernel)
theorem z_code_172 : zCw 172 ∈ lw_tbl := List.mem_of_getElem? (i := 1506) (by decide +kernel)
theorem z_code_173 : zCw 173 ∈ lw_tbl := List.mem_of_getElem? (i := 1451) (by decide +kernel)
theorem z_code_174 : zCw 174 ∈ lw_tbl := List.mem_of_getElem? (i := 1447) (by decide +kernel)
theorem z_code_175 : zCw 175 ∈ lw_tbl := List.mem_of_getElem? (i := 1564) (by decide +kernel)
theorem z_code_176 : zCw 176 ∈ lw_tbl := List.mem_of_getElem? (i := 1561) (by decide +kernel)
theorem z_code_177 : zCw 177 ∈ lw_tbl := List.mem_of_getElem? (i := 1572) (by decide +kernel)
theorem z_code_178 : zCw 178 ∈ lw_tbl := List.mem_of_getElem? (i := 1553) (by decide +kernel)
theorem z_code_179 : zCw 179 ∈ lw_tbl := List.mem_of_getElem? (i := 1549) (by decide +kernel)
theorem z_code_180 : zCw 180 ∈ lw_tbl := List.mem_of_getElem? (i := 1568) (by decide +kernel)
theorem z_code_181 : zCw 181 ∈ lw_tbl := List.mem_of_getElem? (i := 1604) (by decide +kernel)
theorem z_code_182 : zCw 182 ∈ lw_tbl := List.mem_of_getElem? (i := 1596) (by decide +kernel)
theorem z_code_183 : zCw 183 ∈ lw_tbl := List.mem_of_getElem? (i := 1612) (by decide +kernel)
theorem z_code_184 : zCw 184 ∈ lw_tbl := List.mem_of_getElem? (i := 1600) (by decide +kernel)
theorem z_code_185 : zCw 185 ∈ lw_tbl := List.mem_of_getElem? (i := 1608) (by decide +kernel)
theorem z_code_186 : zCw 186 ∈ lw_tbl := List.mem_of_getElem? (i := 1592) (by decide +kernel)
theorem z_code_187 : zCw 187 ∈ lw_tbl := List.mem_of_getElem? (i := 1588) (by decide +kernel)
theorem z_code_188 : zCw 188 ∈ lw_tbl := List.mem_of_getElem? (i := 1584) (by decide +kernel)
theorem z_code_189 : zCw 189 ∈ lw_tbl := List.mem_of_getElem? (i := 1631) (by decide +kernel)
theorem z_code_190 : zCw 190 ∈ lw_tbl := List.mem_of_getElem? (i := 1628) (by decide +kernel)
theorem z_code_191 : zCw 191 ∈ lw_tbl := List.mem_of_getElem? (i := 1635) (by decide +kernel)
theorem z_code_192 : zCw 192 ∈ lw_tbl := List.mem_of_getElem? (i := 1530) (by decide +kernel)
theorem z_code_193 : zCw 193 ∈ lw_tbl := List.mem_of_getElem? (i := 1545) (by decide +kernel)
theorem z_code_194 : zCw 194 ∈ lw_tbl := List.mem_of_getElem? (i := 1576) (by decide +kernel)
theorem z_code_195 : zCw 195 ∈ lw_tbl := List.mem_of_getElem? (i := 1580) (by decide +kernel)
theorem z_code_196 : zCw 196 ∈ lw_tbl := List.mem_of_getElem? (i := 1620) (by decide +kernel)
theorem z_code_197 : zCw 197 ∈ lw_tbl := List.mem_of_getElem? (i := 1616) (by decide +kernel)
theorem z_code_198 : zCw 198 ∈ lw_tbl := List.mem_of_getElem? (i := 1624) (by decide +kernel)
theorem z_code_199 : zCw 199 ∈ lw_tbl := List.mem_of_getElem? (i := 1639) (by decide +kernel)
theorem z_code_200 : zCw 200 ∈ lw_tbl := List.mem_of_getElem? (i := 1647) (by decide +kernel)
theorem z_code_201 : zCw 201 ∈ lw_tbl := List.mem_of_getElem? (i := 1651) (by decide +kernel)
theorem z_code_202 : zCw 202 ∈ lw_tbl := List.mem_of_getElem? (i := 1643) (by decide +kernel)
theorem z_code_203 : zCw 203 ∈ lw_tbl := List.mem_of_getElem? (i := 1667) (by decide +kernel)
theorem z_code_204 : zCw 204 ∈ lw_tbl := List.mem_of_getElem? (i := 1663) (by decide +kernel)
theorem z_code_205 : zCw 205 ∈ lw_tbl := List.mem_of_getElem? (i := 1659) (by decide +kernel)
theorem z_code_206 : zCw 206 ∈ lw_tbl := List.mem_of_getElem? (i := 1655) (by decide +kernel)
theorem z_code_207 : zCw 207 ∈ lw_tbl := List.mem_of_getElem? (i := 1675) (by decide +kernel)
theorem z_code_208 : zCw 208 ∈ lw_tbl := List.mem_of_getElem? (i := 1671) (by decide +kernel)
theorem z_code_209 : zCw 209 ∈ lw_tbl := List.mem_of_getElem? (i := 1679) (by decide +kernel)
theorem z_code_210 : zCw 210 ∈ lw_tbl := List.mem_of_getElem? (i := 1704) (by decide +kernel)
theorem z_code_211 : zCw 211 ∈ lw_tbl := List.mem_of_getElem? (i := 1695) (by decide +kernel)
theorem z_code_212 : zCw 212 ∈ lw_tbl := List.mem_of_getElem? (i := 1718) (by decide +kernel)
theorem z_code_213 : zCw 213 ∈ lw_tbl := List.mem_of_getElem? (i := 1714) (by decide +kernel)
theorem z_code_214 : zCw 214 ∈ lw_tbl := List.mem_of_getElem? (i := 1707) (by decide +kernel)
theorem z_code_215 : zCw 215 ∈ lw_tbl := List.mem_of_getElem? (i := 1699) (by decide +kernel)
theorem z_code_216 : zCw 216 ∈ lw_tbl := List.mem_of_getElem? (i := 1691) (by decide +kernel)
theorem z_code_217 : zCw 217 ∈ lw_tbl := List.mem_of_getElem? (i := 1687) (by decide +kernel)
theorem z_code_218 : zCw 218 ∈ lw_tbl := List.mem_of_getElem? (i := 1683) (by decide +kernel)
theorem z_code_219 : zCw 219 ∈ lw_tbl := List.mem_of_getElem? (i := 1722) (by decide +kernel)
theorem z_code_220 : zCw 220 ∈ lw_tbl := List.mem_of_getElem? (i := 1730) (by decide +kernel)
theorem z_code_221 : zCw 221 ∈ lw_tbl := List.mem_of_getElem? (i := 1726) (by decide +kernel)
theorem z_code_222 : zCw 222 ∈ lw_tbl := List.mem_of_getElem? (i := 1737) (by decide +kernel)
theorem z_code_223 : zCw 223 ∈ lw_tbl := List.mem_of_getElem? (i := 1753) (by decide +kernel)
theorem z_code_224 : zCw 224 ∈ lw_tbl := List.mem_of_getElem? (i := 1749) (by decide +kernel)
theorem z_code_225 : zCw 225 ∈ lw_tbl := List.mem_of_getElem? (i := 1745) (by decide +kernel)
theorem z_code_226 : zCw 226 ∈ lw_tbl := List.mem_of_getElem? (i := 1741) (by decide +kernel)
theorem z_code_227 : zCw 227 ∈ lw_tbl := List.mem_of_getElem? (i := 1761) (by decide +kernel)
theorem z_code_228 : zCw 228 ∈ lw_tbl := List.mem_of_getElem? (i := 1773) (by decide +kernel)
theorem z_code_229 : zCw 229 ∈ lw_tbl := List.mem_of_getElem? (i := 1769) (by decide +kernel)
theorem z_code_230 : zCw 230 ∈ lw_tbl := List.mem_of_getElem? (i := 1765) (by decide +kernel)
theorem z_code_231 : zCw 231 ∈ lw_tbl := List.mem_of_getElem? (i := 1757) (by decide +kernel)
theorem z_code_232 : zCw 232 ∈ lw_tbl := List.mem_of_getElem? (i := 1781) (by decide +kernel)
theorem z_code_233 : zCw 233 ∈ lw_tbl := List.mem_of_getElem? (i := 1785) (by decide +kernel)
theorem z_code_234 : zCw 234 ∈ lw_tbl := List.mem_of_getElem? (i := 1788) (by decide +kernel)
theorem z_code_235 : zCw 235 ∈ lw_tbl := List.mem_of_getElem? (i := 1792) (by decide +kernel)
theorem z_code_236 : zCw 236 ∈ lw_tbl := List.mem_of_getElem? (i := 1777) (by decide +kernel)
theorem z_code_237 : zCw 237 ∈ lw_tbl := List.mem_of_getElem? (i := 1800) (by decide +kernel)
theorem z_code_238 : zCw 238 ∈ lw_tbl := List.mem_of_getElem? (i := 1796) (by decide +kernel)
theorem z_code_239 : zCw 239 ∈ lw_tbl := List.mem_of_getElem? (i := 1804) (by decide +kernel)
theorem z_code_240 : zCw 240 ∈ lw_tbl := List.mem_of_getElem? (i := 1808) (by decide +kernel)
theorem z_code_241 : zCw 241 ∈ lw_tbl := List.mem_of_getElem? (i := 1812) (by decide +kernel)
theorem z_code_242 : zCw 242 ∈ lw_tbl := List.mem_of_getElem? (i := 1817) (by decide +kernel)
theorem z_code_243 : zCw 243 ∈ lw_tbl := List.mem_of_getElem? (i := 1822) (by decide +kernel)
theorem z_code_244 : zCw 244 ∈ lw_tbl := List.mem_of_getElem? (i := 1826) (by decide +kernel)
theorem z_code_245 : zCw 245 ∈ lw_tbl := List.mem_of_getElem? (i := 1834) (by decide +kernel)
theorem z_code_246 : zCw 246 ∈ lw_tbl := List.mem_of_getElem? (i := 1830) (by decide +kernel)
theorem z_code_247 : zCw 247 ∈ lw_tbl := List.mem_of_getElem? (i := 1842) (by decide +kernel)
theorem z_code_248 : zCw 248 ∈ lw_tbl := List.mem_of_getElem? (i := 1846) (by decide +kernel)
theorem z_code_249 : zCw 249 ∈ lw_tbl := List.mem_of_getElem? (i := 1838) (by decide +kernel)
theorem z_code_251 : zCw 251 ∈ lw_tbl := List.mem_of_getElem? (i := 839) (by decide +kernel)
theorem z_code {m : Nat} (h : m < zNm) (hl : m ≠ zNl) : zCw m ∈ lw_tbl := by
  match m, h, hl with
  | 0, _, h2 => exact z_code_0
  | 1, _, h2 => exact z_code_1
  | 2, _, h2 => exact z_code_2
  | 3, _, h2 => exact z_code_3
  | 4, _, h2 => exact z_code_4
  | 5, _, h2 => exact z_code_5
  | 6, _, h2 => exact z_code_6
  | 7, _, h2 => exact z_code_7
  | 8, _, h2 => exact z_code_8
  | 9, _, h2 => exact z_code_9
  | 10, _, h2 => exact z_code_10
  | 11, _, h2 => exact z_code_11
  | 12, _, h2 => exact z_code_12
  | 13, _, h2 => exact z_code_13
  | 14, _, h2 => exact z_code_14
  | 15, _, h2 => exact z_code_15
  | 16, _, h2 => exact z_code_16
  | 17, _, h2 => exact z_code_17
  | 18, _, h2 => exact z_code_18
  | 19, _, h2 => exact z_code_19
  | 20, _, h2 => exact z_code_20
  | 21, _, h2 => exact z_code_21
  | 22, _, h2 => exact z_code_22
  | 23, _, h2 => exact z_code_23
  | 24, _, h2 => exact z_code_24
  | 25, _, h2 => exact z_code_25
  | 26, _, h2 => exact z_code_26
  | 27, _, h2 => exact z_code_27
  | 28, _, h2 => exact z_code_28
  | 29, _, h2 => exact z_code_29
  | 30, _, h2 => exact z_code_30
  | 31, _, h2 => exact z_code_31
  | 32, _, h2 => exact z_code_32
  | 33, _, h2 => exact z_code_33
  | 34, _, h2 => exact z_code_34
  | 35, _, h2 => exact z_code_35
  | 36, _, h2 => exact z_code_36
  | 37, _, h2 => exact z_code_37
  | 38, _, h2 => exact z_code_38
  | 39, _, h2 => exact z_code_39
  | 40, _, h2 => exact z_code_40
  | 41, _, h2 => exact z_code_41
  | 42, _, h2 => exact z_code_42
  | 43, _, h2 => exact z_code_43
  | 44, _, h2 => exact z_code_44
  | 45, _, h2 => exact z_code_45
  | 46, _, h2 => exact z_code_46
  | 47, _, h2 => exact z_code_47
  | 48, _, h2 => exact z_code_48
  | 49, _, h2 => exact z_code_49
  | 50, _, h2 => exact z_code_50
  | 51, _, h2 => exact z_code_51
  | 52, _, h2 => exact z_code_52
  | 53, _, h2 => exact z_code_53
  | 54, _, h2 => exact z_code_54
  | 55, _, h2 => exact z_code_55
  | 56, _, h2 => exact z_code_56
  | 57, _, h2 => exact z_code_57
  | 58, _, h2 => exact z_code_58
  | 59, _, h2 => exact z_code_59
  | 60, _, h2 => exact z_code_60
  | 61, _, h2 => exact z_code_61
  | 62, _, h2 => exact z_code_62
  | 63, _, h2 => exact z_code_63
  | 64, _, h2 => exact z_code_64
  | 65, _, h2 => exact z_code_65
  | 66, _, h2 => exact z_code_66
  | 67, _, h2 => exact z_code_67
  | 68, _, h2 => exact z_code_68
  | 69, _, h2 => exact z_code_69
  | 70, _, h2 => exact z_code_70
  | 71, _, h2 => exact z_code_71
  | 72, _, h2 => exact z_code_72
  | 73, _, h2 => exact z_code_73
  | 74, _, h2 => exact z_code_74
  | 75, _, h2 => exact z_code_75
  | 76, _, h2 => exact z_code_76
  | 77, _, h2 => exact z_code_77
  | 78, _, h2 => exact z_code_78
  | 79, _, h2 => exact z_code_79
  | 80, _, h2 => exact z_code_80
  | 81, _, h2 => exact z_code_81
  | 82, _, h2 => exact z_code_82
  | 83, _, h2 => exact z_code_83
  | 84, _, h2 => exact z_code_84
  | 85, _, h2 => exact z_code_85
  | 86, _, h2 => exact z_code_86
  | 87, _, h2 => exact z_code_87
  | 88, _, h2 => exact z_code_88
  | 89, _, h2 => exact z_code_89
  | 90, _, h2 => exact z_code_90
  | 91, _, h2 => exact z_code_91
  | 92, _, h2 => exact z_code_92
  | 93, _, h2 => exact z_code_93
  | 94, _, h2 => exact z_code_94
  | 95, _, h2 => exact z_code_95
  | 96, _, h2 => exact z_code_96
  | 97, _, h2 => exact z_code_97
  | 98, _, h2 => exact z_code_98
  | 99, _, h2 => exact z_code_99
  | 100, _, h2 => exact z_code_100
  | 101, _, h2 => exact z_code_101
  | 102, _, h2 => exact z_code_102
  | 103, _, h2 => exact z_code_103
  | 104, _, h2 => exact z_code_104
  | 105, _, h2 => exact z_code_105
  | 106, _, h2 => exact z_code_106
  | 107, _, h2 => exact z_code_107
  | 108, _, h2 => exact z_code_108
  | 109, _, h2 => exact z_code_109
  | 110, _, h2 => exact z_code_110
  | 111, _, h2 => exact z_code_111
  | 112, _, h2 => exact z_code_112
  | 113, _, h2 => exact z_code_113
  | 114, _, h2 => exact z_code_114
  | 115, _, h2 => exact z_code_115
  | 116, _, h2 => exact z_code_116
  | 117, _, h2 => exact z_code_117
  | 118, _, h2 => exact z_code_118
  | 119, _, h2 => exact z_code_119
  | 120, _, h2 => exact z_code_120
  | 121, _, h2 => exact z_code_121
  | 122, _, h2 => exact z_code_122
  | 123, _, h2 => exact z_code_123
  | 124, _, h2 => exact z_code_124
  | 125, _, h2 => exact z_code_125
  | 126, _, h2 => exact z_code_126
  | 127, _, h2 => exact z_code_127
  | 128, _, h2 => exact z_code_128
  | 129, _, h2 => exact z_code_129
  | 130, _, h2 => exact z_code_130
  | 131, _, h2 => exact z_code_131
  | 132, _, h2 => exact z_code_132
  | 133, _, h2 => exact z_code_133
  | 134, _, h2 => exact z_code_134
  | 135, _, h2 => exact z_code_135
  | 136, _, h2 => exact z_code_136
  | 137, _, h2 => exact z_code_137
  | 138, _, h2 => exact z_code_138
  | 139, _, h2 => exact z_code_139
  | 140, _, h2 => exact z_code_140
  | 141, _, h2 => exact z_code_141
  | 142, _, h2 => exact z_code_142
  | 143, _, h2 => exact z_code_143
  | 144, _, h2 => exact z_code_144
  | 145, _, h2 => exact z_code_145
  | 146, _, h2 => exact z_code_146
  | 147, _, h2 => exact z_code_147
  | 148, _, h2 => exact z_code_148
  | 149, _, h2 => exact z_code_149
  | 150, _, h2 => exact z_code_150
  | 151, _, h2 => exact z_code_151
  | 152, _, h2 => exact z_code_152
  | 153, _, h2 => exact z_code_153
  | 154, _, h2 => exact z_code_154
  | 155, _, h2 => exact z_code_155
  | 156, _, h2 => exact z_code_156
  | 157, _, h2 => exact z_code_157
  | 158, _, h2 => exact z_code_158
  | 159, _, h2 => exact z_code_159
  | 160, _, h2 => exact z_code_160
  | 161, _, h2 => exact z_code_161
  | 162, _, h2 => exact z_code_162
  | 163, _, h2 => exact z_code_163
  | 164, _, h2 => exact z_code_164
  | 165, _, h2 => exact z_code_165
  | 166, _, h2 => exact z_code_166
  | 167, _, h2 => exact z_code_167
  | 168, _, h2 => exact z_code_168
  | 169, _, h2 => exact z_code_169
  | 170, _, h2 => exact z_code_170
  | 171, _, h2 => exact z_code_171
  | 172, _, h2 => exact z_code_172
  | 173, _, h2 => exact z_code_173
  | 174, _, h2 => exact z_code_174
  | 175, _, h2 => exact z_code_175
  | 176, _, h2 => exact z_code_176
  | 177, _, h2 => exact z_code_177
  | 178, _, h2 => exact z_code_178
  | 179, _, h2 => exact z_code_179
  | 180, _, h2 => exact z_code_180
  | 181, _, h2 => exact z_code_181
  | 182, _, h2 => exact z_code_182
  | 183, _, h2 => exact z_code_183
  | 184, _, h2 => exact z_code_184
  | 185, _, h2 => exact z_code_185
  | 186, _, h2 => exact z_code_186
  | 187, _, h2 => exact z_code_187
  | 188, _, h2 => exact z_code_188
  | 189, _, h2 => exact z_code_189
  | 190, _, h2 => exact z_code_190
  | 191, _, h2 => exact z_code_191
  | 192, _, h2 => exact z_code_192
  | 193, _, h2 => exact z_code_193
  | 194, _, h2 => exact z_code_194
  | 195, _, h2 => exact z_code_195
  | 196, _, h2 => exact z_code_196
  | 197, _, h2 => exact z_code_197
  | 198, _, h2 => exact z_code_198
  | 199, _, h2 => exact z_code_199
  | 200, _, h2 => exact z_code_200
  | 201, _, h2 => exact z_code_201
  | 202, _, h2 => exact z_code_202
  | 203, _, h2 => exact z_code_203
  | 204, _, h2 => exact z_code_204
  | 205, _, h2 => exact z_code_205
  | 206, _, h2 => exact z_code_206
  | 207, _, h2 => exact z_code_207
  | 208, _, h2 => exact z_code_208
  | 209, _, h2 => exact z_code_209
  | 210, _, h2 => exact z_code_210
  | 211, _, h2 => exact z_code_211
  | 212, _, h2 => exact z_code_212
  | 213, _, h2 => exact z_code_213
  | 214, _, h2 => exact z_code_214
  | 215, _, h2 => exact z_code_215
  | 216, _, h2 => exact z_code_216
  | 217, _, h2 => exact z_code_217
  | 218, _, h2 => exact z_code_218
  | 219, _, h2 => exact z_code_219
  | 220, _, h2 => exact z_code_220
  | 221, _, h2 => exact z_code_221
  | 222, _, h2 => exact z_code_222
  | 223, _, h2 => exact z_code_223
  | 224, _, h2 => exact z_code_224
  | 225, _, h2 => exact z_code_225
  | 226, _, h2 => exact z_code_226
  | 227, _, h2 => exact z_code_227
  | 228, _, h2 => exact z_code_228
  | 229, _, h2 => exact z_code_229
  | 230, _, h2 => exact z_code_230
  | 231, _, h2 => exact z_code_231
  | 232, _, h2 => exact z_code_232
  | 233, _, h2 => exact z_code_233
  | 234, _, h2 => exact z_code_234
  | 235, _, h2 => exact z_code_235
  | 236, _, h2 => exact z_code_236
  | 237, _, h2 => exact z_code_237
  | 238, _, h2 => exact z_code_238
  | 239, _, h2 => exact z_code_239
  | 240, _, h2 => exact z_code_240
  | 241, _, h2 => exact z_code_241
  | 242, _, h2 => exact z_code_242
  | 243, _, h2 => exact z_code_243
  | 244, _, h2 => exact z_code_244
  | 245, _, h2 => exact z_code_245
  | 246, _, h2 => exact z_code_246
  | 247, _, h2 => exact z_code_247
  | 248, _, h2 => exact z_code_248
  | 249, _, h2 => exact z_code_249
  | 250, _, h2 => exact absurd rfl h2
  | 251, _, h2 => exact z_code_251
  | n + 252, h, _ => exact absurd (show n + 252 < 252 from h) (by omega)
