/-! the law's body (printed by a program) -/
def f_L_law_L114 (v5 : Int32) (v6 : Int32) (v7 : Int32) (v8 : Int32) (kx175 : St → Option Int32) : Nat → Int32 → St → Option Int32
  | 0, _, _ => none
  | n + 1, v9, σ =>     if v9 < (v6 * v6) then
      jn (fun (s_17 : Int32) => ast σ 82 25 v9 s_17 fun σ_18 =>
      ald σ_18 82 25 v9 fun r_19 =>
      ast σ_18 83 25 v9 r_19 fun σ_20 =>
      f_L_law_L114 v5 v6 v7 v8 kx175 n (v9 + 1) σ_20) fun j160_16 =>
      if v7 = 0 then
        dvi v9 v6 fun q_21 =>
        rmi v9 v6 fun q_22 =>
        dvi v5 32 fun q_23 =>
        cap (f_L_up σ q_23 5) fun r_25 =>
        rmi ((q_21 + q_22) + r_25) v6 fun q_26 =>
        j160_16 q_26
      else
        j160_16 (-1)
    else
      kx175 σ

def f_L_law_L759 (v6 : Int32) (v9 : Int32) (kx932 : Int32 → Int32 → Int32 → Int32 → St → Option Int32) : Nat → Int32 → Int32 → Int32 → Int32 → Int32 → St → Option Int32
  | 0, _, _, _, _, _, _ => none
  | n + 1, v8, v14, v15, v16, v17, σ =>     if v17 < (v6 * v6) then
      ald σ 82 25 v17 fun r_42 =>
      jn (fun (s_44 : Int32) => ald σ 82 25 v17 fun r_45 =>
      jn (fun (s_47 : Int32) => ald σ 82 25 v17 fun r_48 =>
      ald σ 83 25 v17 fun r_49 =>
      jn (fun (s_51 : Int32) => ald σ 82 25 v17 fun r_52 =>
      ast σ 84 25 v17 r_52 fun σ_53 =>
      jn (fun (s_55 : Int32) (σ_56 : St) => f_L_law_L759 v6 v9 kx932 n s_55 (v14 + s_44) (v15 + s_47) (v16 + s_51) (v17 + 1) σ_56) fun j924_54 =>
      jn (fun (σ_58 : St) => j924_54 0 σ_58) fun j923_57 =>
      if v8 = 0 then
        j923_57 σ_53
      else
        dvi v17 v6 fun q_59 =>
        rmi v17 v6 fun q_60 =>
        cay (f_Q_cell σ_53 0 q_59 q_60) fun r_62 σ_63 =>
        ald σ_63 82 25 v17 fun r_64 =>
        if r_62 = r_64 then
          dvi v17 v6 fun q_65 =>
          rmi v17 v6 fun q_66 =>
          cay (f_Q_can σ_63 0 q_65 q_66) fun r_68 σ_69 =>
          cap (f_L_set σ_69 82 v6 v17) fun r_71 =>
          if r_68 = r_71 then
            dvi v17 v6 fun q_72 =>
            rmi v17 v6 fun q_73 =>
            cay (f_Q_cell σ_69 1 q_72 q_73) fun r_75 σ_76 =>
            ald σ_76 83 25 v17 fun r_77 =>
            if r_75 = r_77 then
              j924_54 1 σ_76
            else
              j923_57 σ_76
          else
            j923_57 σ_69
        else
          j923_57 σ_63) fun j832_50 =>
      if r_48 = r_49 then
        j832_50 0
      else
        j832_50 1) fun j811_46 =>
      jn (j811_46 0) fun j810_78 =>
      if r_45 < 0 then
        cap (f_L_set σ 82 v6 v17) fun r_80 =>
        if r_80 = 0 then
          j811_46 1
        else
          j810_78
      else
        j810_78) fun j783_43 =>
      if r_42 < 0 then
        j783_43 0
      else
        j783_43 1
    else
      kx932 v8 v14 v15 v16 σ

def f_L_law_L1010 (v6 : Int32) (v8 : Int32) (v9 : Int32) (kx1043 : Int32 → St → Option Int32) : Nat → Int32 → Int32 → St → Option Int32
  | 0, _, _, _ => none
  | n + 1, v17, v18, σ =>     if v18 < 0 then
      kx1043 v17 σ
    else
      dvi v18 10 fun q_91 =>
      rmi v18 10 fun q_92 =>
      ast σ 84 25 q_91 q_92 fun σ_93 =>
      cap (f_L_forced σ_93 84 v6) fun r_95 =>
      f_L_law_L1010 v6 v8 v9 kx1043 n (v17 + 1) r_95 σ_93

def f_L_law_L439 (v6 : Int32) (v9 : Int32) (v11 : Int32) (v12 : Int32) (v14 : Int32) (σ : St) (kx490 : Int32 → Option Int32) : Nat → Int32 → Int32 → Option Int32
  | 0, _, _ => none
  | n + 1, v15, v16 =>     if v16 < v6 then
      jn (fun (s_127 : Int32) => f_L_law_L439 v6 v9 v11 v12 v14 σ kx490 n s_127 (v16 + 1)) fun j482_126 =>
      jn (j482_126 0) fun j481_128 =>
      if v15 = 0 then
        j481_128
      else
        ald σ 82 25 ((v6 * v11) + v16) fun r_129 =>
        if r_129 < 0 then
          j481_128
        else
          ald σ 82 25 ((v6 * v14) + v16) fun r_130 =>
          if r_130 < 0 then
            j481_128
          else
            j482_126 1
    else
      kx490 v15

def f_L_law_L541 (v6 : Int32) (v9 : Int32) (v11 : Int32) (v12 : Int32) (v14 : Int32) (v15 : Int32) (v16 : Int32) (v17 : Int32) (v18 : Int32) (σ : St) (kx586 : Int32 → Option Int32) : Nat → Int32 → Int32 → Option Int32
  | 0, _, _ => none
  | n + 1, v19, v20 =>     if v20 < v6 then
      ald σ 82 25 ((v6 * v11) + v20) fun r_133 =>
      ald σ 82 25 ((v6 * v14) + v17) fun r_134 =>
      jn (fun (s_136 : Int32) => f_L_law_L541 v6 v9 v11 v12 v14 v15 v16 v17 v18 σ kx586 n s_136 (v20 + 1)) fun j578_135 =>
      if r_133 = r_134 then
        j578_135 v20
      else
        j578_135 v19
    else
      kx586 v19

def f_L_law_L500 (v6 : Int32) (v9 : Int32) (v11 : Int32) (v12 : Int32) (v14 : Int32) (v15 : Int32) (σ : St) (kx593 : Int32 → Int32 → Option Int32) : Nat → Int32 → Int32 → Int32 → Option Int32
  | 0, _, _, _ => none
  | n + 1, v16, v17, v18 =>     if v11 = v14 then
      kx593 v16 v18
    else
      if v15 = 0 then
        kx593 v16 v18
      else
        if ((v18 >>> (v17 &&& 31)) &&& 1) = 0 then
          lt1 (v18 ||| (1 <<< (v17 &&& 31))) fun v18_132 =>
          f_L_law_L541 v6 v9 v11 v12 v14 v15 (v16 + 1) v17 v18_132 σ (fun (v19_137 : Int32) => f_L_law_L500 v6 v9 v11 v12 v14 v15 σ kx593 n (v16 + 1) v19_137 v18_132) FU v17 0
        else
          kx593 v16 v18

def f_L_law_L644 (v6 : Int32) (v8 : Int32) (v9 : Int32) (v11 : Int32) (v14 : Int32) (v18 : Int32) (kx747 : St → Option Int32) : Nat → Int32 → St → Option Int32
  | 0, _, _ => none
  | n + 1, v19, σ =>     if v19 < v6 then
      ald σ 82 25 ((v6 * v11) + v19) fun r_147 =>
      jn (fun (s_149 : Int32) => jn (fun (s_151 : Int32) => ast σ 82 25 ((v6 * v11) + v19) s_151 fun σ_152 =>
      jn (fun (s_154 : Int32) => ast σ_152 82 25 ((v6 * v14) + v19) s_154 fun σ_155 =>
      f_L_law_L644 v6 v8 v9 v11 v14 v18 kx747 n (v19 + 1) σ_155) fun j740_153 =>
      if s_149 = 0 then
        ald σ_152 82 25 ((v6 * v14) + v19) fun r_156 =>
        j740_153 r_156
      else
        j740_153 r_147) fun j710_150 =>
      if s_149 = 0 then
        j710_150 r_147
      else
        ald σ 82 25 ((v6 * v14) + v19) fun r_157 =>
        j710_150 r_157) fun j679_148 =>
      if ((v18 >>> (v19 &&& 31)) &&& 1) = 1 then
        j679_148 1
      else
        j679_148 0
    else
      kx747 σ

def f_L_law_L276 (v6 : Int32) (v9 : Int32) (v11 : Int32) (v12 : Int32) (v13 : Int32) (v14 : Int32) (σ : St) (kx345 : Int32 → Option Int32) : Nat → Int32 → Int32 → Option Int32
  | 0, _, _ => none
  | n + 1, v15, v16 =>     if v16 < v6 then
      jn (fun (s_164 : Int32) => f_L_law_L276 v6 v9 v11 v12 v13 v14 σ kx345 n s_164 (v16 + 1)) fun j337_163 =>
      jn (j337_163 1) fun j332_165 =>
      if v15 = 0 then
        jn (jn (j337_163 0) fun j336_167 =>
        if v16 = v11 then
          j336_167
        else
          ald σ 82 25 ((v6 * v16) + v12) fun r_168 =>
          if r_168 = v14 then
            j332_165
          else
            j336_167) fun j310_166 =>
        if v16 = v12 then
          j310_166
        else
          ald σ 82 25 ((v6 * v11) + v16) fun r_169 =>
          if r_169 = v14 then
            j332_165
          else
            j310_166
      else
        j332_165
    else
      kx345 v15

def f_L_law_L178 (N : Nat) (xs : Nat → Int32) (v6 : Int32) (kx1071 : Int32 → St → Option Int32) : Nat → Int32 → Int32 → St → Option Int32
  | 0, _, _, _ => none
  | n + 1, v8, v9, σ =>     if v9 < 45 then
      if v8 = 0 then
        kx1071 v8 σ
      else
        cap (f_L_cell N xs v9) fun r_29 =>
        dvi r_29 16 fun q_30 =>
        cap (f_L_up σ q_30 v6) fun r_32 =>
        dvi r_29 64 fun q_33 =>
        cap (f_L_up σ q_33 v6) fun r_35 =>
        lt1 ((v6 * r_32) + r_35) fun v13_36 =>
        cap (f_L_up σ r_29 4) fun r_38 =>
        jn (fun (v8_40 : Int32) (σ_41 : St) => f_L_law_L759 v6 v9 (fun (v8_81 : Int32) (v14_82 : Int32) (v15_83 : Int32) (v16_84 : Int32) (σ_85 : St) => cap (f_L_forced σ_85 84 v6) fun r_87 =>
        jn (fun (s_89 : Int32) (σ_90 : St) => f_L_law_L1010 v6 s_89 v9 (fun (v17_96 : Int32) (σ_97 : St) => jn (fun (s_99 : Int32) (σ_100 : St) => f_L_law_L178 N xs v6 kx1071 n s_99 (v9 + 1) σ_100) fun j1063_98 =>
        jn (fun (σ_102 : St) => j1063_98 0 σ_102) fun j1062_101 =>
        if s_89 = 0 then
          j1062_101 σ_97
        else
          cay (f_Q_logic σ_97 0) fun r_104 σ_105 =>
          if r_104 = v17_96 then
            j1063_98 1 σ_105
          else
            j1062_101 σ_105) FU 0 r_87 σ_90) fun j1008_88 =>
        jn (fun (σ_107 : St) => j1008_88 0 σ_107) fun j1007_106 =>
        if v8_81 = 0 then
          j1007_106 σ_85
        else
          cay (f_Q_forced σ_85 0) fun r_109 σ_110 =>
          if r_109 = r_87 then
            cay (f_Q_of σ_110 0 0) fun r_112 σ_113 =>
            if r_112 = v6 then
              cay (f_Q_of σ_113 0 1) fun r_115 σ_116 =>
              if r_115 = v14_82 then
                cay (f_Q_of σ_116 0 2) fun r_118 σ_119 =>
                if r_118 = v15_83 then
                  cay (f_Q_distance σ_119 0 1) fun r_121 σ_122 =>
                  if r_121 = v16_84 then
                    j1008_88 1 σ_122
                  else
                    j1007_106 σ_122
                else
                  j1007_106 σ_119
              else
                j1007_106 σ_116
            else
              j1007_106 σ_113
          else
            j1007_106 σ_110) FU v8_40 0 0 0 0 σ_41) fun j747_39 =>
        if r_38 < 3 then
          cap (f_L_up σ r_29 16) fun r_160 =>
          jn (fun (s_162 : Int32) => f_L_law_L276 v6 v9 r_32 r_35 v13_36 s_162 σ (fun (v15_170 : Int32) => jn (fun (s_172 : Int32) => cal (f_L_act σ 0 0 r_32 r_35 s_162) fun r_174 σ_175 =>
          jn (fun (s_177 : Int32) => jn (fun (s_179 : Int32) => jn (fun (s_181 : Int32) => ast σ_175 82 25 v13_36 s_181 fun σ_182 =>
          j747_39 s_179 σ_182) fun j416_180 =>
          if s_172 = 0 then
            ald σ_175 82 25 v13_36 fun r_183 =>
            j416_180 r_183
          else
            j416_180 s_162) fun j397_178 =>
          if r_174 = s_177 then
            j397_178 1
          else
            j397_178 0) fun j389_176 =>
          if s_172 = 0 then
            j389_176 (-1003)
          else
            ald σ_175 82 25 v13_36 fun r_184 =>
            j389_176 r_184) fun j360_171 =>
          jn (j360_171 1) fun j355_185 =>
          if s_162 < 0 then
            j355_185
          else
            if v15_170 = 0 then
              j355_185
            else
              j360_171 0) FU 0 0) fun j268_161 =>
          if r_160 < 4 then
            j268_161 (-1)
          else
            dvi r_29 256 fun q_186 =>
            cap (f_L_up σ q_186 v6) fun r_188 =>
            j268_161 r_188
        else
          dvi r_29 256 fun q_123 =>
          cap (f_L_up σ q_123 v6) fun r_125 =>
          f_L_law_L439 v6 v9 r_32 r_35 r_125 σ (fun (v15_131 : Int32) => f_L_law_L500 v6 v9 r_32 r_35 r_125 v15_131 σ (fun (v16_138 : Int32) (v18_139 : Int32) => cal (f_L_act σ 1 0 r_32 r_125 r_35) fun r_141 σ_142 =>
          jn (fun (s_144 : Int32) => jn (fun (s_146 : Int32) => f_L_law_L644 v6 s_146 v9 r_32 r_125 v18_139 (fun (σ_158 : St) => j747_39 s_146 σ_158) FU 0 σ_142) fun j639_145 =>
          if r_141 = s_144 then
            j639_145 1
          else
            j639_145 0) fun j631_143 =>
          if r_32 = r_125 then
            j631_143 (-1002)
          else
            if v15_131 = 0 then
              j631_143 (-1003)
            else
              j631_143 v16_138) FU 0 r_35 0) FU 1 0
    else
      kx1071 v8 σ

def f_L_law (N : Nat) (xs : Nat → Int32) (σ : St) : Option Int32 :=
  cap (f_L_cell N xs 0) fun r_2 =>
  cap (f_L_up σ r_2 4) fun r_4 =>
  dvi r_2 16 fun q_5 =>
  cap (f_L_up σ q_5 2) fun r_7 =>
  jn (fun (s_9 : Int32) => jn (fun (s_11 : Int32) (σ_12 : St) => jn (fun (s_14 : Int32) (σ_15 : St) => f_L_law_L114 r_2 (2 + r_4) s_9 s_14 (fun (σ_27 : St) => f_L_law_L178 N xs (2 + r_4) (fun (v8_189 : Int32) (σ_190 : St) => some v8_189) 46 s_14 1 σ_27) FU 0 σ_15) fun j109_13 =>
  jn (fun (σ_192 : St) => j109_13 0 σ_192) fun j108_191 =>
  if s_11 = 0 then
    cay (f_Q_conjugate σ_12 0 0) fun r_194 σ_195 =>
    if r_194 = 1 then
      j109_13 1 σ_195
    else
      j108_191 σ_195
  else
    j108_191 σ_12) fun j91_10 =>
  if s_9 = 0 then
    dvi r_2 32 fun q_196 =>
    cap (f_L_up σ q_196 5) fun r_198 =>
    cay (f_Q_linear σ (2 + r_4) 1 1 r_198) fun r_200 σ_201 =>
    j91_10 r_200 σ_201
  else
    cay (f_Q_grid σ (2 + r_4)) fun r_203 σ_204 =>
    j91_10 r_203 σ_204) fun j58_8 =>
  if r_7 = 0 then
    j58_8 1
  else
    j58_8 0

