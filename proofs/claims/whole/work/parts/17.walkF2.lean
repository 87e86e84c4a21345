theorem dX12_turn_0 : decode cX12_turn 0 = .ok (.aload_n 0, 1) := by decide +kernel
theorem dX12_turn_1 : decode cX12_turn 1 = .ok (.getfield 143, 3) := by decide +kernel
theorem dX12_turn_4 : decode cX12_turn 4 = .ok (.iload_n 1, 1) := by decide +kernel
theorem dX12_turn_5 : decode cX12_turn 5 = .ok (.iaload, 1) := by decide +kernel
theorem dX12_turn_6 : decode cX12_turn 6 = .ok (.iconst 5, 1) := by decide +kernel
theorem dX12_turn_7 : decode cX12_turn 7 = .ok (.if_icmp .ne 31, 3) := by decide +kernel
theorem dX12_turn_10 : decode cX12_turn 10 = .ok (.aload_n 0, 1) := by decide +kernel
theorem dX12_turn_11 : decode cX12_turn 11 = .ok (.getfield 149, 3) := by decide +kernel
theorem dX12_turn_14 : decode cX12_turn 14 = .ok (.iload_n 1, 1) := by decide +kernel
theorem dX12_turn_15 : decode cX12_turn 15 = .ok (.iaload, 1) := by decide +kernel
theorem dX12_turn_16 : decode cX12_turn 16 = .ok (.aload_n 0, 1) := by decide +kernel
theorem dX12_turn_17 : decode cX12_turn 17 = .ok (.getfield 155, 3) := by decide +kernel
theorem dX12_turn_20 : decode cX12_turn 20 = .ok (.iload_n 1, 1) := by decide +kernel
theorem dX12_turn_21 : decode cX12_turn 21 = .ok (.iaload, 1) := by decide +kernel
theorem dX12_turn_22 : decode cX12_turn 22 = .ok (.if_icmp .eq 9, 3) := by decide +kernel
theorem dX12_turn_25 : decode cX12_turn 25 = .ok (.aload_n 0, 1) := by decide +kernel
theorem dX12_turn_26 : decode cX12_turn 26 = .ok (.iload_n 1, 1) := by decide +kernel
theorem dX12_turn_27 : decode cX12_turn 27 = .ok (.invokevirtual 390, 3) := by decide +kernel
theorem dX12_turn_30 : decode cX12_turn 30 = .ok (.return_, 1) := by decide +kernel
theorem dX12_turn_31 : decode cX12_turn 31 = .ok (.aload_n 0, 1) := by decide +kernel
theorem dX12_turn_32 : decode cX12_turn 32 = .ok (.getfield 143, 3) := by decide +kernel
theorem dX12_turn_35 : decode cX12_turn 35 = .ok (.iload_n 1, 1) := by decide +kernel
theorem dX12_turn_36 : decode cX12_turn 36 = .ok (.iconst 0, 1) := by decide +kernel
theorem dX12_turn_37 : decode cX12_turn 37 = .ok (.iastore, 1) := by decide +kernel
theorem dX12_turn_38 : decode cX12_turn 38 = .ok (.aload_n 0, 1) := by decide +kernel
theorem dX12_turn_39 : decode cX12_turn 39 = .ok (.getfield 143, 3) := by decide +kernel
theorem dX12_turn_42 : decode cX12_turn 42 = .ok (.iload_n 1, 1) := by decide +kernel
theorem dX12_turn_43 : decode cX12_turn 43 = .ok (.iaload, 1) := by decide +kernel
theorem dX12_turn_44 : decode cX12_turn 44 = .ok (.iconst 4, 1) := by decide +kernel
theorem dX12_turn_45 : decode cX12_turn 45 = .ok (.if_icmp .eq 26, 3) := by decide +kernel
theorem dX12_turn_48 : decode cX12_turn 48 = .ok (.aload_n 0, 1) := by decide +kernel
theorem dX12_turn_49 : decode cX12_turn 49 = .ok (.getfield 143, 3) := by decide +kernel
theorem dX12_turn_52 : decode cX12_turn 52 = .ok (.iload_n 1, 1) := by decide +kernel
theorem dX12_turn_53 : decode cX12_turn 53 = .ok (.iaload, 1) := by decide +kernel
theorem dX12_turn_54 : decode cX12_turn 54 = .ok (.iconst 1, 1) := by decide +kernel
theorem dX12_turn_55 : decode cX12_turn 55 = .ok (.if_icmp .ne 17, 3) := by decide +kernel
theorem dX12_turn_58 : decode cX12_turn 58 = .ok (.aload_n 0, 1) := by decide +kernel
theorem dX12_turn_59 : decode cX12_turn 59 = .ok (.getfield 365, 3) := by decide +kernel
theorem dX12_turn_62 : decode cX12_turn 62 = .ok (.aload_n 0, 1) := by decide +kernel
theorem dX12_turn_63 : decode cX12_turn 63 = .ok (.getfield 158, 3) := by decide +kernel
theorem dX12_turn_66 : decode cX12_turn 66 = .ok (.iload_n 1, 1) := by decide +kernel
theorem dX12_turn_67 : decode cX12_turn 67 = .ok (.iaload, 1) := by decide +kernel
theorem dX12_turn_68 : decode cX12_turn 68 = .ok (.if_icmp .ge 4, 3) := by decide +kernel
theorem dX12_turn_71 : decode cX12_turn 71 = .ok (.return_, 1) := by decide +kernel
theorem dX12_turn_72 : decode cX12_turn 72 = .ok (.aload_n 0, 1) := by decide +kernel
theorem dX12_turn_73 : decode cX12_turn 73 = .ok (.getfield 143, 3) := by decide +kernel
theorem dX12_turn_76 : decode cX12_turn 76 = .ok (.iload_n 1, 1) := by decide +kernel
theorem dX12_turn_77 : decode cX12_turn 77 = .ok (.iaload, 1) := by decide +kernel
theorem dX12_turn_78 : decode cX12_turn 78 = .ok (.iconst 2, 1) := by decide +kernel
theorem dX12_turn_79 : decode cX12_turn 79 = .ok (.if_icmp .ne 58, 3) := by decide +kernel
theorem dX12_turn_82 : decode cX12_turn 82 = .ok (.aload_n 0, 1) := by decide +kernel
theorem dX12_turn_83 : decode cX12_turn 83 = .ok (.iload_n 1, 1) := by decide +kernel
theorem dX12_turn_84 : decode cX12_turn 84 = .ok (.aload_n 0, 1) := by decide +kernel
theorem dX12_turn_85 : decode cX12_turn 85 = .ok (.getfield 161, 3) := by decide +kernel
theorem dX12_turn_88 : decode cX12_turn 88 = .ok (.iload_n 1, 1) := by decide +kernel
theorem dX12_turn_89 : decode cX12_turn 89 = .ok (.iaload, 1) := by decide +kernel
theorem dX12_turn_90 : decode cX12_turn 90 = .ok (.invokevirtual 393, 3) := by decide +kernel
theorem dX12_turn_93 : decode cX12_turn 93 = .ok (.ifCond .eq 13, 3) := by decide +kernel
theorem dX12_turn_96 : decode cX12_turn 96 = .ok (.aload_n 0, 1) := by decide +kernel
theorem dX12_turn_97 : decode cX12_turn 97 = .ok (.getfield 143, 3) := by decide +kernel
theorem dX12_turn_100 : decode cX12_turn 100 = .ok (.iload_n 1, 1) := by decide +kernel
theorem dX12_turn_101 : decode cX12_turn 101 = .ok (.iconst 3, 1) := by decide +kernel
theorem dX12_turn_102 : decode cX12_turn 102 = .ok (.iastore, 1) := by decide +kernel
theorem dX12_turn_103 : decode cX12_turn 103 = .ok (.goto 34, 3) := by decide +kernel
theorem dX12_turn_106 : decode cX12_turn 106 = .ok (.aload_n 0, 1) := by decide +kernel
theorem dX12_turn_107 : decode cX12_turn 107 = .ok (.getfield 365, 3) := by decide +kernel
theorem dX12_turn_110 : decode cX12_turn 110 = .ok (.aload_n 0, 1) := by decide +kernel
theorem dX12_turn_111 : decode cX12_turn 111 = .ok (.getfield 158, 3) := by decide +kernel
theorem dX12_turn_114 : decode cX12_turn 114 = .ok (.iload_n 1, 1) := by decide +kernel
theorem dX12_turn_115 : decode cX12_turn 115 = .ok (.iaload, 1) := by decide +kernel
theorem dX12_turn_116 : decode cX12_turn 116 = .ok (.if_icmp .ge 4, 3) := by decide +kernel
theorem dX12_turn_119 : decode cX12_turn 119 = .ok (.return_, 1) := by decide +kernel
theorem dX12_turn_120 : decode cX12_turn 120 = .ok (.aload_n 0, 1) := by decide +kernel
theorem dX12_turn_121 : decode cX12_turn 121 = .ok (.getfield 146, 3) := by decide +kernel
theorem dX12_turn_124 : decode cX12_turn 124 = .ok (.iload_n 1, 1) := by decide +kernel
theorem dX12_turn_125 : decode cX12_turn 125 = .ok (.aload_n 0, 1) := by decide +kernel
theorem dX12_turn_126 : decode cX12_turn 126 = .ok (.getfield 58, 3) := by decide +kernel
theorem dX12_turn_129 : decode cX12_turn 129 = .ok (.aload_n 0, 1) := by decide +kernel
theorem dX12_turn_130 : decode cX12_turn 130 = .ok (.getfield 146, 3) := by decide +kernel
theorem dX12_turn_133 : decode cX12_turn 133 = .ok (.iload_n 1, 1) := by decide +kernel
theorem dX12_turn_134 : decode cX12_turn 134 = .ok (.iaload, 1) := by decide +kernel
theorem dX12_turn_135 : decode cX12_turn 135 = .ok (.iaload, 1) := by decide +kernel
theorem dX12_turn_136 : decode cX12_turn 136 = .ok (.iastore, 1) := by decide +kernel
theorem dX12_turn_137 : decode cX12_turn 137 = .ok (.aload_n 0, 1) := by decide +kernel
theorem dX12_turn_138 : decode cX12_turn 138 = .ok (.getfield 143, 3) := by decide +kernel
theorem dX12_turn_141 : decode cX12_turn 141 = .ok (.iload_n 1, 1) := by decide +kernel
theorem dX12_turn_142 : decode cX12_turn 142 = .ok (.iaload, 1) := by decide +kernel
theorem dX12_turn_143 : decode cX12_turn 143 = .ok (.iconst 3, 1) := by decide +kernel
theorem dX12_turn_144 : decode cX12_turn 144 = .ok (.if_icmp .ne 25, 3) := by decide +kernel
theorem dX12_turn_147 : decode cX12_turn 147 = .ok (.aload_n 0, 1) := by decide +kernel
theorem dX12_turn_148 : decode cX12_turn 148 = .ok (.iload_n 1, 1) := by decide +kernel
theorem dX12_turn_149 : decode cX12_turn 149 = .ok (.iconst 2, 1) := by decide +kernel
theorem dX12_turn_150 : decode cX12_turn 150 = .ok (.aload_n 0, 1) := by decide +kernel
theorem dX12_turn_151 : decode cX12_turn 151 = .ok (.getfield 161, 3) := by decide +kernel
theorem dX12_turn_154 : decode cX12_turn 154 = .ok (.iload_n 1, 1) := by decide +kernel
theorem dX12_turn_155 : decode cX12_turn 155 = .ok (.iaload, 1) := by decide +kernel
theorem dX12_turn_156 : decode cX12_turn 156 = .ok (.invokevirtual 396, 3) := by decide +kernel
theorem dX12_turn_159 : decode cX12_turn 159 = .ok (.aload_n 0, 1) := by decide +kernel
theorem dX12_turn_160 : decode cX12_turn 160 = .ok (.getfield 146, 3) := by decide +kernel
theorem dX12_turn_163 : decode cX12_turn 163 = .ok (.iload_n 1, 1) := by decide +kernel
theorem dX12_turn_164 : decode cX12_turn 164 = .ok (.dup2, 1) := by decide +kernel
theorem dX12_turn_165 : decode cX12_turn 165 = .ok (.iaload, 1) := by decide +kernel
theorem dX12_turn_166 : decode cX12_turn 166 = .ok (.iconst 1, 1) := by decide +kernel
theorem dX12_turn_167 : decode cX12_turn 167 = .ok (.iadd, 1) := by decide +kernel
theorem dX12_turn_168 : decode cX12_turn 168 = .ok (.iastore, 1) := by decide +kernel
theorem dX12_turn_169 : decode cX12_turn 169 = .ok (.aload_n 0, 1) := by decide +kernel
theorem dX12_turn_170 : decode cX12_turn 170 = .ok (.getfield 143, 3) := by decide +kernel
theorem dX12_turn_173 : decode cX12_turn 173 = .ok (.iload_n 1, 1) := by decide +kernel
theorem dX12_turn_174 : decode cX12_turn 174 = .ok (.iconst 0, 1) := by decide +kernel
theorem dX12_turn_175 : decode cX12_turn 175 = .ok (.iastore, 1) := by decide +kernel
theorem dX12_turn_176 : decode cX12_turn 176 = .ok (.aload_n 0, 1) := by decide +kernel
theorem dX12_turn_177 : decode cX12_turn 177 = .ok (.iconst 0, 1) := by decide +kernel
theorem dX12_turn_178 : decode cX12_turn 178 = .ok (.putfield 400, 3) := by decide +kernel
theorem dX12_turn_181 : decode cX12_turn 181 = .ok (.aload_n 0, 1) := by decide +kernel
theorem dX12_turn_182 : decode cX12_turn 182 = .ok (.getfield 143, 3) := by decide +kernel
theorem dX12_turn_185 : decode cX12_turn 185 = .ok (.iload_n 1, 1) := by decide +kernel
theorem dX12_turn_186 : decode cX12_turn 186 = .ok (.iaload, 1) := by decide +kernel
theorem dX12_turn_187 : decode cX12_turn 187 = .ok (.ifCond .ne 52, 3) := by decide +kernel
theorem dX12_turn_190 : decode cX12_turn 190 = .ok (.aload_n 0, 1) := by decide +kernel
theorem dX12_turn_191 : decode cX12_turn 191 = .ok (.iload_n 1, 1) := by decide +kernel
theorem dX12_turn_192 : decode cX12_turn 192 = .ok (.invokevirtual 403, 3) := by decide +kernel
theorem dX12_turn_195 : decode cX12_turn 195 = .ok (.ifCond .eq 6, 3) := by decide +kernel
theorem dX12_turn_198 : decode cX12_turn 198 = .ok (.goto (-17), 3) := by decide +kernel
theorem dX12_turn_201 : decode cX12_turn 201 = .ok (.aload_n 0, 1) := by decide +kernel
theorem dX12_turn_202 : decode cX12_turn 202 = .ok (.getfield 400, 3) := by decide +kernel
theorem dX12_turn_205 : decode cX12_turn 205 = .ok (.bipush 40, 2) := by decide +kernel
theorem dX12_turn_207 : decode cX12_turn 207 = .ok (.if_icmp .ne 4, 3) := by decide +kernel
theorem dX12_turn_210 : decode cX12_turn 210 = .ok (.return_, 1) := by decide +kernel
theorem dX12_turn_211 : decode cX12_turn 211 = .ok (.aload_n 0, 1) := by decide +kernel
theorem dX12_turn_212 : decode cX12_turn 212 = .ok (.dup, 1) := by decide +kernel
theorem dX12_turn_213 : decode cX12_turn 213 = .ok (.getfield 400, 3) := by decide +kernel
theorem dX12_turn_216 : decode cX12_turn 216 = .ok (.iconst 1, 1) := by decide +kernel
theorem dX12_turn_217 : decode cX12_turn 217 = .ok (.iadd, 1) := by decide +kernel
theorem dX12_turn_218 : decode cX12_turn 218 = .ok (.putfield 400, 3) := by decide +kernel
theorem dX12_turn_221 : decode cX12_turn 221 = .ok (.aload_n 0, 1) := by decide +kernel
theorem dX12_turn_222 : decode cX12_turn 222 = .ok (.getfield 137, 3) := by decide +kernel
theorem dX12_turn_225 : decode cX12_turn 225 = .ok (.iload_n 1, 1) := by decide +kernel
theorem dX12_turn_226 : decode cX12_turn 226 = .ok (.dup2, 1) := by decide +kernel
theorem dX12_turn_227 : decode cX12_turn 227 = .ok (.iaload, 1) := by decide +kernel
theorem dX12_turn_228 : decode cX12_turn 228 = .ok (.iconst 1, 1) := by decide +kernel
theorem dX12_turn_229 : decode cX12_turn 229 = .ok (.iadd, 1) := by decide +kernel
theorem dX12_turn_230 : decode cX12_turn 230 = .ok (.iastore, 1) := by decide +kernel
theorem dX12_turn_231 : decode cX12_turn 231 = .ok (.aload_n 0, 1) := by decide +kernel
theorem dX12_turn_232 : decode cX12_turn 232 = .ok (.iload_n 1, 1) := by decide +kernel
theorem dX12_turn_233 : decode cX12_turn 233 = .ok (.invokevirtual 406, 3) := by decide +kernel
theorem dX12_turn_236 : decode cX12_turn 236 = .ok (.goto (-55), 3) := by decide +kernel
theorem dX12_turn_239 : decode cX12_turn 239 = .ok (.return_, 1) := by decide +kernel
abbrev rm_X12_turn : Room := { frames := 3, cells := 0, slots := 0, locals := 72 }
set_option maxRecDepth 100000 in
set_option maxHeartbeats 4000000 in
theorem ct_X12_turn {w : Wd} {l : Launch} {a1 : Int} {σ : St} {σ' : St} (ia1 : InI a1) (h : m_X12_turn a1 σ = some σ') : Ct w l yX12_turn (Cond.code yX12_turn cX12_turn 2 none :: TB) rm_X12_turn [rv w 170, iv a1] σ none True σ' := by
  refine Ct.of2 [some (rv w 170), some (iv a1)] 0 rfl pn_RX12 (Nat.le_of_ble_eq_true rfl) ?_
  intro p e s m args below meth c C hr hlk
  unfold m_X12_turn at h
  refine g_aload_n C dX12_turn_0 rfl ?_
  refine g_getR (j := 61) C dX12_turn_1 rfl (Nat.le_of_ble_eq_true rfl) (Nat.le_of_ble_eq_true rfl) fl_12_143 rfl rfl (r := 211) rfl ?_
  refine g_iload_n C dX12_turn_4 rfl ?_
  obtain ⟨x1, qx1, h⟩ := bnd h
  refine g_iald C dX12_turn_5 rfl rfl qx1 ia1 (fun ix1 => ?_)
  refine g_iconst C dX12_turn_6 ?_
  have hJ38_57 : ∀ (σ8 : St) , m_X12_turn_J38 a1 σ8 = some σ' → GM w p l e rm_X12_turn s m args below meth c none True σ' 2 38 [some (rv w 170), some (iv a1)] [] σ8 := by
    intro σ8 h
    unfold m_X12_turn_J38 at h
    refine g_aload_n C dX12_turn_38 rfl ?_
    refine g_getR (j := 61) C dX12_turn_39 rfl (Nat.le_of_ble_eq_true rfl) (Nat.le_of_ble_eq_true rfl) fl_12_143 rfl rfl (r := 211) rfl ?_
    refine g_iload_n C dX12_turn_42 rfl ?_
    obtain ⟨x9, qx9, h⟩ := bnd h
    refine g_iald C dX12_turn_43 rfl rfl qx9 ia1 (fun ix9 => ?_)
    refine g_iconst C dX12_turn_44 ?_
    refine g_icmp_eq C dX12_turn_45 ix9 (by decide) rfl (tgt := 71) (fun c10 => ?_) (fun c10 => ?_)
    · have h := ifT c10 h
      exact g_vretP C dX12_turn_71 hr hlk h
    · have h := ifF c10 h
      refine g_aload_n C dX12_turn_48 rfl ?_
      refine g_getR (j := 61) C dX12_turn_49 rfl (Nat.le_of_ble_eq_true rfl) (Nat.le_of_ble_eq_true rfl) fl_12_143 rfl rfl (r := 211) rfl ?_
      refine g_iload_n C dX12_turn_52 rfl ?_
      obtain ⟨x11, qx11, h⟩ := bnd h
      refine g_iald C dX12_turn_53 rfl rfl qx11 ia1 (fun ix11 => ?_)
      refine g_iconst C dX12_turn_54 ?_
      have hJ72_56 : m_X12_turn_J72 σ8 a1 = some σ' → GM w p l e rm_X12_turn s m args below meth c none True σ' 2 72 [some (rv w 170), some (iv a1)] [] σ8 := by
        intro h
        unfold m_X12_turn_J72 at h
        refine g_aload_n C dX12_turn_72 rfl ?_
        refine g_getR (j := 61) C dX12_turn_73 rfl (Nat.le_of_ble_eq_true rfl) (Nat.le_of_ble_eq_true rfl) fl_12_143 rfl rfl (r := 211) rfl ?_
        refine g_iload_n C dX12_turn_76 rfl ?_
        obtain ⟨x16, qx16, h⟩ := bnd h
        refine g_iald C dX12_turn_77 rfl rfl qx16 ia1 (fun ix16 => ?_)
        refine g_iconst C dX12_turn_78 ?_
        have hJ137_55 : ∀ (σ29 : St) , m_X12_turn_J137 a1 σ29 = some σ' → GM w p l e rm_X12_turn s m args below meth c none True σ' 2 137 [some (rv w 170), some (iv a1)] [] σ29 := by
          intro σ29 h
          unfold m_X12_turn_J137 at h
          refine g_aload_n C dX12_turn_137 rfl ?_
          refine g_getR (j := 61) C dX12_turn_138 rfl (Nat.le_of_ble_eq_true rfl) (Nat.le_of_ble_eq_true rfl) fl_12_143 rfl rfl (r := 211) rfl ?_
          refine g_iload_n C dX12_turn_141 rfl ?_
          obtain ⟨x30, qx30, h⟩ := bnd h
          refine g_iald C dX12_turn_142 rfl rfl qx30 ia1 (fun ix30 => ?_)
          refine g_iconst C dX12_turn_143 ?_
          have hJ169_54 : ∀ (σ36 : St) , m_X12_turn_J169 a1 σ36 = some σ' → GM w p l e rm_X12_turn s m args below meth c none True σ' 2 169 [some (rv w 170), some (iv a1)] [] σ36 := by
            intro σ36 h
            unfold m_X12_turn_J169 at h
            refine g_aload_n C dX12_turn_169 rfl ?_
            refine g_getR (j := 61) C dX12_turn_170 rfl (Nat.le_of_ble_eq_true rfl) (Nat.le_of_ble_eq_true rfl) fl_12_143 rfl rfl (r := 211) rfl ?_
            refine g_iload_n C dX12_turn_173 rfl ?_
            refine g_iconst C dX12_turn_174 ?_
            obtain ⟨σ37, qσ37, h⟩ := bnd h
            refine g_iast C dX12_turn_175 rfl rfl qσ37 ia1 (by decide) ?_
            refine g_aload_n C dX12_turn_176 rfl ?_
            refine g_iconst C dX12_turn_177 ?_
            obtain ⟨σ38, qσ38, h⟩ := bnd h
            refine g_putI (j := 72) C dX12_turn_178 rfl (Nat.le_of_ble_eq_true rfl) (Nat.le_of_ble_eq_true rfl) fl_12_400 rfl rfl rfl rfl qσ38 (by decide) ?_
            obtain ⟨b39, hb39, hF39⟩ := bnd h
            have hX39 : ∀ (σ53 : St) , Sum.inl σ53 = b39 → GM w p l e rm_X12_turn s m args below meth c none True σ' 2 239 [none, none] [] σ53 := by
              intro σ53 q
              subst q
              have h := hF39
              exact g_vretP C dX12_turn_239 hr hlk h
            have hL39 : ∀ (n : Nat) (σ40 : St) , lpN (fun a => m_X12_turn_L181 a1 a) n σ40 = some b39 → GM w p l e rm_X12_turn s m args below meth c none True σ' 2 181 [some (rv w 170), some (iv a1)] [] σ40 := by
              intro n
              induction n with
              | zero => intro σ40 q; cases q
              | succ n ih39 =>
                intro σ40 q
                obtain ⟨o39, h, hk39⟩ := lp_step q
                replace h : m_X12_turn_L181 a1 σ40 = some o39 := h
                unfold m_X12_turn_L181 at h
                refine g_aload_n C dX12_turn_181 rfl ?_
                refine g_getR (j := 61) C dX12_turn_182 rfl (Nat.le_of_ble_eq_true rfl) (Nat.le_of_ble_eq_true rfl) fl_12_143 rfl rfl (r := 211) rfl ?_
                refine g_iload_n C dX12_turn_185 rfl ?_
                obtain ⟨x41, qx41, h⟩ := bnd h
                refine g_iald C dX12_turn_186 rfl rfl qx41 ia1 (fun ix41 => ?_)
                refine g_if_ne C dX12_turn_187 ix41 rfl (tgt := 239) (fun c42 => ?_) (fun c42 => ?_)
                · have h := ifF c42 h
                  refine g_mask [false, false] ?_
                  obtain rfl := Option.some.inj h
                  exact hX39 σ40 (lpR hk39).symm
                · have h := ifT c42 h
                  refine g_aload_n C dX12_turn_190 rfl ?_
                  refine g_iload_n C dX12_turn_191 rfl ?_
                  obtain ⟨⟨x43, σ44⟩, qx43, h⟩ := bnd h
                  refine g_callV1 (As := [iv a1]) C dX12_turn_192 mi_X12_passes ml_12_403 (ct_X12_passes ia1 qx43) rfl rfl ⟨rfl, rfl⟩ ⟨Nat.le_of_ble_eq_true rfl, Nat.le_of_ble_eq_true rfl⟩ ⟨Nat.zero_le _, Nat.zero_le _⟩ rfl (Nat.le_of_ble_eq_true rfl) (fun ix43 => ?_)
                  refine g_if_eq C dX12_turn_195 (zI ix43) rfl (tgt := 201) (fun c45 => ?_) (fun c45 => ?_)
                  · have h := ifT c45 h
                    refine g_aload_n C dX12_turn_201 rfl ?_
                    refine g_getI (j := 72) C dX12_turn_202 rfl (Nat.le_of_ble_eq_true rfl) (Nat.le_of_ble_eq_true rfl) fl_12_400 rfl rfl (fun i46 => ?_)
                    refine g_bipush C dX12_turn_205 rfl ?_
                    refine g_icmp_ne C dX12_turn_207 i46 (by decide) rfl (tgt := 211) (fun c47 => ?_) (fun c47 => ?_)
                    · have h := ifF c47 h
                      refine g_aload_n C dX12_turn_211 rfl ?_
                      refine g_dup C dX12_turn_212 rfl ?_
                      refine g_getI (j := 72) C dX12_turn_213 rfl (Nat.le_of_ble_eq_true rfl) (Nat.le_of_ble_eq_true rfl) fl_12_400 rfl rfl (fun i48 => ?_)
                      refine g_iconst C dX12_turn_216 ?_
                      refine g_iadd C dX12_turn_217 ?_
                      obtain ⟨σ49, qσ49, h⟩ := bnd h
                      refine g_putI (j := 72) C dX12_turn_218 rfl (Nat.le_of_ble_eq_true rfl) (Nat.le_of_ble_eq_true rfl) fl_12_400 rfl rfl rfl rfl qσ49 (iwr _) ?_
                      refine g_aload_n C dX12_turn_221 rfl ?_
                      refine g_getR (j := 57) C dX12_turn_222 rfl (Nat.le_of_ble_eq_true rfl) (Nat.le_of_ble_eq_true rfl) fl_12_137 rfl rfl (r := 209) rfl ?_
                      refine g_iload_n C dX12_turn_225 rfl ?_
                      refine g_dup2 C dX12_turn_226 rfl rfl ?_
                      obtain ⟨x50, qx50, h⟩ := bnd h
                      refine g_iald C dX12_turn_227 rfl rfl qx50 ia1 (fun ix50 => ?_)
                      refine g_iconst C dX12_turn_228 ?_
                      refine g_iadd C dX12_turn_229 ?_
                      obtain ⟨σ51, qσ51, h⟩ := bnd h
                      refine g_iast C dX12_turn_230 rfl rfl qσ51 ia1 (iwr _) ?_
                      refine g_aload_n C dX12_turn_231 rfl ?_
                      refine g_iload_n C dX12_turn_232 rfl ?_
                      obtain ⟨σ52, qσ52, h⟩ := bnd h
                      refine g_callV0 (As := [iv a1]) C dX12_turn_233 mi_X12_deed ml_12_406 (ct_X12_deed ia1 qσ52) rfl rfl ⟨rfl, rfl⟩ ⟨Nat.le_of_ble_eq_true rfl, Nat.le_of_ble_eq_true rfl⟩ ⟨Nat.zero_le _, Nat.zero_le _⟩ rfl (Nat.le_of_ble_eq_true rfl) (fun _ => ?_)
                      refine g_goto C dX12_turn_236 rfl (tgt := 181) ?_
                      obtain rfl := Option.some.inj h
                      exact ih39 _ (lpL hk39)
                    · have h := ifT c47 h
                      obtain rfl := Option.some.inj h
                      have e39 := (lpR hk39).symm
                      subst e39
                      have h := hF39
                      exact g_vretP C dX12_turn_210 hr hlk h
                  · have h := ifF c45 h
                    refine g_goto C dX12_turn_198 rfl (tgt := 181) ?_
                    obtain rfl := Option.some.inj h
                    exact ih39 _ (lpL hk39)
            exact hL39 FU _ hb39
          refine g_icmp_ne C dX12_turn_144 ix30 (by decide) rfl (tgt := 169) (fun c31 => ?_) (fun c31 => ?_)
          · have h := ifF c31 h
            exact hJ169_54 σ29 h
          · have h := ifT c31 h
            refine g_aload_n C dX12_turn_147 rfl ?_
            refine g_iload_n C dX12_turn_148 rfl ?_
            refine g_iconst C dX12_turn_149 ?_
            refine g_aload_n C dX12_turn_150 rfl ?_
            refine g_getR (j := 67) C dX12_turn_151 rfl (Nat.le_of_ble_eq_true rfl) (Nat.le_of_ble_eq_true rfl) fl_12_161 rfl rfl (r := 217) rfl ?_
            refine g_iload_n C dX12_turn_154 rfl ?_
            obtain ⟨x32, qx32, h⟩ := bnd h
            refine g_iald C dX12_turn_155 rfl rfl qx32 ia1 (fun ix32 => ?_)
            obtain ⟨σ33, qσ33, h⟩ := bnd h
            refine g_callV0 (As := [iv a1, iv 2, iv x32]) C dX12_turn_156 mi_X12_pushes ml_12_396 (ct_X12_pushes ia1 (by decide) ix32 qσ33) rfl rfl ⟨rfl, rfl⟩ ⟨Nat.le_of_ble_eq_true rfl, Nat.le_of_ble_eq_true rfl⟩ ⟨Nat.zero_le _, Nat.zero_le _⟩ rfl (Nat.le_of_ble_eq_true rfl) (fun _ => ?_)
            refine g_aload_n C dX12_turn_159 rfl ?_
            refine g_getR (j := 62) C dX12_turn_160 rfl (Nat.le_of_ble_eq_true rfl) (Nat.le_of_ble_eq_true rfl) fl_12_146 rfl rfl (r := 212) rfl ?_
            refine g_iload_n C dX12_turn_163 rfl ?_
            refine g_dup2 C dX12_turn_164 rfl rfl ?_
            obtain ⟨x34, qx34, h⟩ := bnd h
            refine g_iald C dX12_turn_165 rfl rfl qx34 ia1 (fun ix34 => ?_)
            refine g_iconst C dX12_turn_166 ?_
            refine g_iadd C dX12_turn_167 ?_
            obtain ⟨σ35, qσ35, h⟩ := bnd h
            refine g_iast C dX12_turn_168 rfl rfl qσ35 ia1 (iwr _) ?_
            exact hJ169_54 σ35 h
        refine g_icmp_ne C dX12_turn_79 ix16 (by decide) rfl (tgt := 137) (fun c17 => ?_) (fun c17 => ?_)
        · have h := ifF c17 h
          exact hJ137_55 σ8 h
        · have h := ifT c17 h
          refine g_aload_n C dX12_turn_82 rfl ?_
          refine g_iload_n C dX12_turn_83 rfl ?_
          refine g_aload_n C dX12_turn_84 rfl ?_
          refine g_getR (j := 67) C dX12_turn_85 rfl (Nat.le_of_ble_eq_true rfl) (Nat.le_of_ble_eq_true rfl) fl_12_161 rfl rfl (r := 217) rfl ?_
          refine g_iload_n C dX12_turn_88 rfl ?_
          obtain ⟨x18, qx18, h⟩ := bnd h
          refine g_iald C dX12_turn_89 rfl rfl qx18 ia1 (fun ix18 => ?_)
          obtain ⟨⟨x19, σ20⟩, qx19, h⟩ := bnd h
          refine g_callV1 (As := [iv a1, iv x18]) C dX12_turn_90 mi_X12_comesAbout ml_12_393 (ct_X12_comesAbout ia1 ix18 qx19) rfl rfl ⟨rfl, rfl⟩ ⟨Nat.le_of_ble_eq_true rfl, Nat.le_of_ble_eq_true rfl⟩ ⟨Nat.zero_le _, Nat.zero_le _⟩ rfl (Nat.le_of_ble_eq_true rfl) (fun ix19 => ?_)
          refine g_if_eq C dX12_turn_93 (zI ix19) rfl (tgt := 106) (fun c21 => ?_) (fun c21 => ?_)
          · have h := ifT c21 h
            refine g_aload_n C dX12_turn_106 rfl ?_
            refine g_getI (j := 71) C dX12_turn_107 rfl (Nat.le_of_ble_eq_true rfl) (Nat.le_of_ble_eq_true rfl) fl_12_365 rfl rfl (fun i22 => ?_)
            refine g_aload_n C dX12_turn_110 rfl ?_
            refine g_getR (j := 66) C dX12_turn_111 rfl (Nat.le_of_ble_eq_true rfl) (Nat.le_of_ble_eq_true rfl) fl_12_158 rfl rfl (r := 216) rfl ?_
            refine g_iload_n C dX12_turn_114 rfl ?_
            obtain ⟨x23, qx23, h⟩ := bnd h
            refine g_iald C dX12_turn_115 rfl rfl qx23 ia1 (fun ix23 => ?_)
            refine g_icmp_ge C dX12_turn_116 i22 ix23 rfl (tgt := 120) (fun c24 => ?_) (fun c24 => ?_)
            · have h := ifT c24 h
              refine g_aload_n C dX12_turn_120 rfl ?_
              refine g_getR (j := 62) C dX12_turn_121 rfl (Nat.le_of_ble_eq_true rfl) (Nat.le_of_ble_eq_true rfl) fl_12_146 rfl rfl (r := 212) rfl ?_
              refine g_iload_n C dX12_turn_124 rfl ?_
              refine g_aload_n C dX12_turn_125 rfl ?_
              refine g_getR (j := 26) C dX12_turn_126 rfl (Nat.le_of_ble_eq_true rfl) (Nat.le_of_ble_eq_true rfl) fl_12_58 rfl rfl (r := 184) rfl ?_
              refine g_aload_n C dX12_turn_129 rfl ?_
              refine g_getR (j := 62) C dX12_turn_130 rfl (Nat.le_of_ble_eq_true rfl) (Nat.le_of_ble_eq_true rfl) fl_12_146 rfl rfl (r := 212) rfl ?_
              refine g_iload_n C dX12_turn_133 rfl ?_
              obtain ⟨x25, qx25, h⟩ := bnd h
              refine g_iald C dX12_turn_134 rfl rfl qx25 ia1 (fun ix25 => ?_)
              obtain ⟨x26, qx26, h⟩ := bnd h
              refine g_iald C dX12_turn_135 rfl rfl qx26 ix25 (fun ix26 => ?_)
              obtain ⟨σ27, qσ27, h⟩ := bnd h
              refine g_iast C dX12_turn_136 rfl rfl qσ27 ia1 ix26 ?_
              exact hJ137_55 σ27 h
            · have h := ifF c24 h
              exact g_vretP C dX12_turn_119 hr hlk h
          · have h := ifF c21 h
            refine g_aload_n C dX12_turn_96 rfl ?_
            refine g_getR (j := 61) C dX12_turn_97 rfl (Nat.le_of_ble_eq_true rfl) (Nat.le_of_ble_eq_true rfl) fl_12_143 rfl rfl (r := 211) rfl ?_
            refine g_iload_n C dX12_turn_100 rfl ?_
            refine g_iconst C dX12_turn_101 ?_
            obtain ⟨σ28, qσ28, h⟩ := bnd h
            refine g_iast C dX12_turn_102 rfl rfl qσ28 ia1 (by decide) ?_
            refine g_goto C dX12_turn_103 rfl (tgt := 137) ?_
            exact hJ137_55 σ28 h
      refine g_icmp_ne C dX12_turn_55 ix11 (by decide) rfl (tgt := 72) (fun c12 => ?_) (fun c12 => ?_)
      · have h := ifF c12 h
        exact hJ72_56  h
      · have h := ifT c12 h
        refine g_aload_n C dX12_turn_58 rfl ?_
        refine g_getI (j := 71) C dX12_turn_59 rfl (Nat.le_of_ble_eq_true rfl) (Nat.le_of_ble_eq_true rfl) fl_12_365 rfl rfl (fun i13 => ?_)
        refine g_aload_n C dX12_turn_62 rfl ?_
        refine g_getR (j := 66) C dX12_turn_63 rfl (Nat.le_of_ble_eq_true rfl) (Nat.le_of_ble_eq_true rfl) fl_12_158 rfl rfl (r := 216) rfl ?_
        refine g_iload_n C dX12_turn_66 rfl ?_
        obtain ⟨x14, qx14, h⟩ := bnd h
        refine g_iald C dX12_turn_67 rfl rfl qx14 ia1 (fun ix14 => ?_)
        refine g_icmp_ge C dX12_turn_68 i13 ix14 rfl (tgt := 72) (fun c15 => ?_) (fun c15 => ?_)
        · have h := ifT c15 h
          exact hJ72_56  h
        · have h := ifF c15 h
          exact g_vretP C dX12_turn_71 hr hlk h
  refine g_icmp_ne C dX12_turn_7 ix1 (by decide) rfl (tgt := 38) (fun c2 => ?_) (fun c2 => ?_)
  · have h := ifF c2 h
    exact hJ38_57 σ h
  · have h := ifT c2 h
    refine g_aload_n C dX12_turn_10 rfl ?_
    refine g_getR (j := 63) C dX12_turn_11 rfl (Nat.le_of_ble_eq_true rfl) (Nat.le_of_ble_eq_true rfl) fl_12_149 rfl rfl (r := 213) rfl ?_
    refine g_iload_n C dX12_turn_14 rfl ?_
    obtain ⟨x3, qx3, h⟩ := bnd h
    refine g_iald C dX12_turn_15 rfl rfl qx3 ia1 (fun ix3 => ?_)
    refine g_aload_n C dX12_turn_16 rfl ?_
    refine g_getR (j := 65) C dX12_turn_17 rfl (Nat.le_of_ble_eq_true rfl) (Nat.le_of_ble_eq_true rfl) fl_12_155 rfl rfl (r := 215) rfl ?_
    refine g_iload_n C dX12_turn_20 rfl ?_
    obtain ⟨x4, qx4, h⟩ := bnd h
    refine g_iald C dX12_turn_21 rfl rfl qx4 ia1 (fun ix4 => ?_)
    refine g_icmp_eq C dX12_turn_22 ix3 ix4 rfl (tgt := 31) (fun c5 => ?_) (fun c5 => ?_)
    · have h := ifT c5 h
      refine g_aload_n C dX12_turn_31 rfl ?_
      refine g_getR (j := 61) C dX12_turn_32 rfl (Nat.le_of_ble_eq_true rfl) (Nat.le_of_ble_eq_true rfl) fl_12_143 rfl rfl (r := 211) rfl ?_
      refine g_iload_n C dX12_turn_35 rfl ?_
      refine g_iconst C dX12_turn_36 ?_
      obtain ⟨σ6, qσ6, h⟩ := bnd h
      refine g_iast C dX12_turn_37 rfl rfl qσ6 ia1 (by decide) ?_
      exact hJ38_57 σ6 h
    · have h := ifF c5 h
      refine g_aload_n C dX12_turn_25 rfl ?_
      refine g_iload_n C dX12_turn_26 rfl ?_
      obtain ⟨σ7, qσ7, h⟩ := bnd h
      refine g_callV0 (As := [iv a1]) C dX12_turn_27 mi_X12_walks ml_12_390 (ct_X12_walks ia1 qσ7) rfl rfl ⟨rfl, rfl⟩ ⟨Nat.le_of_ble_eq_true rfl, Nat.le_of_ble_eq_true rfl⟩ ⟨Nat.zero_le _, Nat.zero_le _⟩ rfl (Nat.le_of_ble_eq_true rfl) (fun _ => ?_)
      exact g_vretP C dX12_turn_30 hr hlk h
theorem dX12_tick_0 : decode cX12_tick 0 = .ok (.iconst 0, 1) := by decide +kernel
theorem dX12_tick_1 : decode cX12_tick 1 = .ok (.istore_n 1, 1) := by decide +kernel
theorem dX12_tick_2 : decode cX12_tick 2 = .ok (.iload_n 1, 1) := by decide +kernel
theorem dX12_tick_3 : decode cX12_tick 3 = .ok (.aload_n 0, 1) := by decide +kernel
theorem dX12_tick_4 : decode cX12_tick 4 = .ok (.getfield 333, 3) := by decide +kernel
theorem dX12_tick_7 : decode cX12_tick 7 = .ok (.if_icmp .ge 134, 3) := by decide +kernel
theorem dX12_tick_10 : decode cX12_tick 10 = .ok (.aload_n 0, 1) := by decide +kernel
theorem dX12_tick_11 : decode cX12_tick 11 = .ok (.getfield 143, 3) := by decide +kernel
theorem dX12_tick_14 : decode cX12_tick 14 = .ok (.iload_n 1, 1) := by decide +kernel
theorem dX12_tick_15 : decode cX12_tick 15 = .ok (.iaload, 1) := by decide +kernel
theorem dX12_tick_16 : decode cX12_tick 16 = .ok (.iconst 5, 1) := by decide +kernel
theorem dX12_tick_17 : decode cX12_tick 17 = .ok (.if_icmp .ne 16, 3) := by decide +kernel
theorem dX12_tick_20 : decode cX12_tick 20 = .ok (.aload_n 0, 1) := by decide +kernel
theorem dX12_tick_21 : decode cX12_tick 21 = .ok (.getfield 152, 3) := by decide +kernel
theorem dX12_tick_24 : decode cX12_tick 24 = .ok (.iload_n 1, 1) := by decide +kernel
theorem dX12_tick_25 : decode cX12_tick 25 = .ok (.iaload, 1) := by decide +kernel
theorem dX12_tick_26 : decode cX12_tick 26 = .ok (.aload_n 0, 1) := by decide +kernel
theorem dX12_tick_27 : decode cX12_tick 27 = .ok (.getfield 365, 3) := by decide +kernel
theorem dX12_tick_30 : decode cX12_tick 30 = .ok (.if_icmp .gt 7, 3) := by decide +kernel
theorem dX12_tick_33 : decode cX12_tick 33 = .ok (.iconst 1, 1) := by decide +kernel
theorem dX12_tick_34 : decode cX12_tick 34 = .ok (.goto 4, 3) := by decide +kernel
theorem dX12_tick_37 : decode cX12_tick 37 = .ok (.iconst 0, 1) := by decide +kernel
theorem dX12_tick_38 : decode cX12_tick 38 = .ok (.istore_n 2, 1) := by decide +kernel
theorem dX12_tick_39 : decode cX12_tick 39 = .ok (.aload_n 0, 1) := by decide +kernel
theorem dX12_tick_40 : decode cX12_tick 40 = .ok (.getfield 113, 3) := by decide +kernel
theorem dX12_tick_43 : decode cX12_tick 43 = .ok (.bipush 96, 2) := by decide +kernel
theorem dX12_tick_45 : decode cX12_tick 45 = .ok (.iload_n 1, 1) := by decide +kernel
theorem dX12_tick_46 : decode cX12_tick 46 = .ok (.imul, 1) := by decide +kernel
theorem dX12_tick_47 : decode cX12_tick 47 = .ok (.aload_n 0, 1) := by decide +kernel
theorem dX12_tick_48 : decode cX12_tick 48 = .ok (.getfield 365, 3) := by decide +kernel
theorem dX12_tick_51 : decode cX12_tick 51 = .ok (.iadd, 1) := by decide +kernel
theorem dX12_tick_52 : decode cX12_tick 52 = .ok (.iload_n 2, 1) := by decide +kernel
theorem dX12_tick_53 : decode cX12_tick 53 = .ok (.ifCond .eq 12, 3) := by decide +kernel
theorem dX12_tick_56 : decode cX12_tick 56 = .ok (.aload_n 0, 1) := by decide +kernel
theorem dX12_tick_57 : decode cX12_tick 57 = .ok (.getfield 149, 3) := by decide +kernel
theorem dX12_tick_60 : decode cX12_tick 60 = .ok (.iload_n 1, 1) := by decide +kernel
theorem dX12_tick_61 : decode cX12_tick 61 = .ok (.iaload, 1) := by decide +kernel
theorem dX12_tick_62 : decode cX12_tick 62 = .ok (.goto 4, 3) := by decide +kernel
theorem dX12_tick_65 : decode cX12_tick 65 = .ok (.iconst (-1), 1) := by decide +kernel
theorem dX12_tick_66 : decode cX12_tick 66 = .ok (.iastore, 1) := by decide +kernel
theorem dX12_tick_67 : decode cX12_tick 67 = .ok (.iload_n 2, 1) := by decide +kernel
theorem dX12_tick_68 : decode cX12_tick 68 = .ok (.ifCond .eq 67, 3) := by decide +kernel
theorem dX12_tick_71 : decode cX12_tick 71 = .ok (.aload_n 0, 1) := by decide +kernel
theorem dX12_tick_72 : decode cX12_tick 72 = .ok (.getfield 106, 3) := by decide +kernel
theorem dX12_tick_75 : decode cX12_tick 75 = .ok (.bipush 96, 2) := by decide +kernel
theorem dX12_tick_77 : decode cX12_tick 77 = .ok (.aload_n 0, 1) := by decide +kernel
theorem dX12_tick_78 : decode cX12_tick 78 = .ok (.getfield 149, 3) := by decide +kernel
theorem dX12_tick_81 : decode cX12_tick 81 = .ok (.iload_n 1, 1) := by decide +kernel
theorem dX12_tick_82 : decode cX12_tick 82 = .ok (.iaload, 1) := by decide +kernel
theorem dX12_tick_83 : decode cX12_tick 83 = .ok (.imul, 1) := by decide +kernel
theorem dX12_tick_84 : decode cX12_tick 84 = .ok (.aload_n 0, 1) := by decide +kernel
theorem dX12_tick_85 : decode cX12_tick 85 = .ok (.getfield 365, 3) := by decide +kernel
theorem dX12_tick_88 : decode cX12_tick 88 = .ok (.iadd, 1) := by decide +kernel
theorem dX12_tick_89 : decode cX12_tick 89 = .ok (.baload, 1) := by decide +kernel
theorem dX12_tick_90 : decode cX12_tick 90 = .ok (.ifCond .ne 6, 3) := by decide +kernel
theorem dX12_tick_93 : decode cX12_tick 93 = .ok (.goto 42, 3) := by decide +kernel
theorem dX12_tick_96 : decode cX12_tick 96 = .ok (.aload_n 0, 1) := by decide +kernel
theorem dX12_tick_97 : decode cX12_tick 97 = .ok (.getfield 140, 3) := by decide +kernel
theorem dX12_tick_100 : decode cX12_tick 100 = .ok (.aload_n 0, 1) := by decide +kernel
theorem dX12_tick_101 : decode cX12_tick 101 = .ok (.getfield 374, 3) := by decide +kernel
theorem dX12_tick_104 : decode cX12_tick 104 = .ok (.sipush 1000, 3) := by decide +kernel
theorem dX12_tick_107 : decode cX12_tick 107 = .ok (.aload_n 0, 1) := by decide +kernel
theorem dX12_tick_108 : decode cX12_tick 108 = .ok (.getfield 365, 3) := by decide +kernel
theorem dX12_tick_111 : decode cX12_tick 111 = .ok (.imul, 1) := by decide +kernel
theorem dX12_tick_112 : decode cX12_tick 112 = .ok (.bipush 10, 2) := by decide +kernel
theorem dX12_tick_114 : decode cX12_tick 114 = .ok (.iload_n 1, 1) := by decide +kernel
theorem dX12_tick_115 : decode cX12_tick 115 = .ok (.imul, 1) := by decide +kernel
theorem dX12_tick_116 : decode cX12_tick 116 = .ok (.iadd, 1) := by decide +kernel
theorem dX12_tick_117 : decode cX12_tick 117 = .ok (.aload_n 0, 1) := by decide +kernel
theorem dX12_tick_118 : decode cX12_tick 118 = .ok (.getfield 149, 3) := by decide +kernel
theorem dX12_tick_121 : decode cX12_tick 121 = .ok (.iload_n 1, 1) := by decide +kernel
theorem dX12_tick_122 : decode cX12_tick 122 = .ok (.iaload, 1) := by decide +kernel
theorem dX12_tick_123 : decode cX12_tick 123 = .ok (.iadd, 1) := by decide +kernel
theorem dX12_tick_124 : decode cX12_tick 124 = .ok (.iastore, 1) := by decide +kernel
theorem dX12_tick_125 : decode cX12_tick 125 = .ok (.aload_n 0, 1) := by decide +kernel
theorem dX12_tick_126 : decode cX12_tick 126 = .ok (.dup, 1) := by decide +kernel
theorem dX12_tick_127 : decode cX12_tick 127 = .ok (.getfield 374, 3) := by decide +kernel
theorem dX12_tick_130 : decode cX12_tick 130 = .ok (.iconst 1, 1) := by decide +kernel
theorem dX12_tick_131 : decode cX12_tick 131 = .ok (.iadd, 1) := by decide +kernel
theorem dX12_tick_132 : decode cX12_tick 132 = .ok (.putfield 374, 3) := by decide +kernel
theorem dX12_tick_135 : decode cX12_tick 135 = .ok (.iinc 1 1, 3) := by decide +kernel
theorem dX12_tick_138 : decode cX12_tick 138 = .ok (.goto (-136), 3) := by decide +kernel
theorem dX12_tick_141 : decode cX12_tick 141 = .ok (.iconst 0, 1) := by decide +kernel
theorem dX12_tick_142 : decode cX12_tick 142 = .ok (.istore_n 1, 1) := by decide +kernel
theorem dX12_tick_143 : decode cX12_tick 143 = .ok (.iload_n 1, 1) := by decide +kernel
theorem dX12_tick_144 : decode cX12_tick 144 = .ok (.aload_n 0, 1) := by decide +kernel
theorem dX12_tick_145 : decode cX12_tick 145 = .ok (.getfield 333, 3) := by decide +kernel
theorem dX12_tick_148 : decode cX12_tick 148 = .ok (.if_icmp .ge 23, 3) := by decide +kernel
theorem dX12_tick_151 : decode cX12_tick 151 = .ok (.aload_n 0, 1) := by decide +kernel
theorem dX12_tick_152 : decode cX12_tick 152 = .ok (.iload_n 1, 1) := by decide +kernel
theorem dX12_tick_153 : decode cX12_tick 153 = .ok (.invokevirtual 380, 3) := by decide +kernel
theorem dX12_tick_156 : decode cX12_tick 156 = .ok (.iconst (-1), 1) := by decide +kernel
theorem dX12_tick_157 : decode cX12_tick 157 = .ok (.if_icmp .eq 8, 3) := by decide +kernel
theorem dX12_tick_160 : decode cX12_tick 160 = .ok (.aload_n 0, 1) := by decide +kernel
theorem dX12_tick_161 : decode cX12_tick 161 = .ok (.iload_n 1, 1) := by decide +kernel
theorem dX12_tick_162 : decode cX12_tick 162 = .ok (.invokevirtual 383, 3) := by decide +kernel
theorem dX12_tick_165 : decode cX12_tick 165 = .ok (.iinc 1 1, 3) := by decide +kernel
theorem dX12_tick_168 : decode cX12_tick 168 = .ok (.goto (-25), 3) := by decide +kernel
theorem dX12_tick_171 : decode cX12_tick 171 = .ok (.return_, 1) := by decide +kernel
abbrev rm_X12_tick : Room := { frames := 4, cells := 0, slots := 0, locals := 93 }
set_option maxRecDepth 100000 in
set_option maxHeartbeats 4000000 in
theorem ct_X12_tick {w : Wd} {l : Launch} {σ : St} {σ' : St} (h : m_X12_tick σ = some σ') : Ct w l yX12_tick (Cond.code yX12_tick cX12_tick 3 none :: TB) rm_X12_tick [rv w 170] σ none True σ' := by
  refine Ct.of2 [some (rv w 170), none, none] 2 rfl pn_RX12 (Nat.le_of_ble_eq_true rfl) ?_
  intro p e s m args below meth c C hr hlk
  unfold m_X12_tick at h
  refine g_iconst C dX12_tick_0 ?_
  refine g_istore_n (L1 := [some (rv w 170), some (iv 0), none]) C dX12_tick_1 rfl (Nat.le_of_ble_eq_true rfl) rfl ?_
  obtain ⟨b1, hb1, hF1⟩ := bnd h
  have hX1 : ∀ (σ31 : St) , σ31 = b1 → GM w p l e rm_X12_tick s m args below meth c none True σ' 3 141 [some (rv w 170), none, none] [] σ31 := by
    intro σ31 q
    subst q
    have h := hF1
    refine g_iconst C dX12_tick_141 ?_
    refine g_istore_n (L1 := [some (rv w 170), some (iv 0), none]) C dX12_tick_142 rfl (Nat.le_of_ble_eq_true rfl) rfl ?_
    obtain ⟨b32, hb32, hF32⟩ := bnd h
    have hX32 : ∀ (σ40 : St) , σ40 = b32 → GM w p l e rm_X12_tick s m args below meth c none True σ' 3 171 [none, none, none] [] σ40 := by
      intro σ40 q
      subst q
      have h := hF32
      exact g_vretP C dX12_tick_171 hr hlk h
    have hL32 : ∀ (n : Nat) (x33 : Int) (σ34 : St) , InI x33 → lpN (fun a => m_X12_tick_L143 a.1 a.2) n (x33, σ34) = some b32 → GM w p l e rm_X12_tick s m args below meth c none True σ' 3 143 [some (rv w 170), some (iv x33), none] [] σ34 := by
      intro n
      induction n with
      | zero => intro x33 σ34 ix33 q; cases q
      | succ n ih32 =>
        intro x33 σ34 ix33 q
        obtain ⟨o32, h, hk32⟩ := lp_step q
        replace h : m_X12_tick_L143 x33 σ34 = some o32 := h
        unfold m_X12_tick_L143 at h
        refine g_iload_n C dX12_tick_143 rfl ?_
        refine g_aload_n C dX12_tick_144 rfl ?_
        refine g_getI (j := 35) C dX12_tick_145 rfl (Nat.le_of_ble_eq_true rfl) (Nat.le_of_ble_eq_true rfl) fl_12_333 rfl rfl (fun i35 => ?_)
        refine g_icmp_ge C dX12_tick_148 ix33 i35 rfl (tgt := 171) (fun c36 => ?_) (fun c36 => ?_)
        · have h := ifT c36 h
          refine g_mask [false, false, true] ?_
          obtain rfl := Option.some.inj h
          exact hX32 σ34 (lpR hk32).symm
        · have h := ifF c36 h
          refine g_aload_n C dX12_tick_151 rfl ?_
          refine g_iload_n C dX12_tick_152 rfl ?_
          obtain ⟨x37, qx37, h⟩ := bnd h
          refine g_callV1 (As := [iv x33]) C dX12_tick_153 mi_X12_placeNow ml_12_380 (ct_X12_placeNow ix33 qx37) rfl rfl ⟨rfl, rfl⟩ ⟨Nat.le_of_ble_eq_true rfl, Nat.le_of_ble_eq_true rfl⟩ ⟨Nat.zero_le _, Nat.zero_le _⟩ rfl (Nat.le_of_ble_eq_true rfl) (fun ix37 => ?_)
          refine g_iconst C dX12_tick_156 ?_
          refine g_icmp_eq C dX12_tick_157 ix37 (by decide) rfl (tgt := 165) (fun c38 => ?_) (fun c38 => ?_)
          · have h := ifT c38 h
            refine g_iinc (L1 := [some (rv w 170), some (iv (wr (x33 + 1))), none]) C dX12_tick_165 rfl rfl (Nat.le_of_ble_eq_true rfl) rfl ?_
            refine g_goto C dX12_tick_168 rfl (tgt := 143) ?_
            obtain rfl := Option.some.inj h
            exact ih32 _ _ (iwr _) (lpL hk32)
          · have h := ifF c38 h
            refine g_aload_n C dX12_tick_160 rfl ?_
            refine g_iload_n C dX12_tick_161 rfl ?_
            obtain ⟨σ39, qσ39, h⟩ := bnd h
            refine g_callV0 (As := [iv x33]) C dX12_tick_162 mi_X12_turn ml_12_383 (ct_X12_turn ix33 qσ39) rfl rfl ⟨rfl, rfl⟩ ⟨Nat.le_of_ble_eq_true rfl, Nat.le_of_ble_eq_true rfl⟩ ⟨Nat.zero_le _, Nat.zero_le _⟩ rfl (Nat.le_of_ble_eq_true rfl) (fun _ => ?_)
            refine g_iinc (L1 := [some (rv w 170), some (iv (wr (x33 + 1))), none]) C dX12_tick_165 rfl rfl (Nat.le_of_ble_eq_true rfl) rfl ?_
            refine g_goto C dX12_tick_168 rfl (tgt := 143) ?_
            obtain rfl := Option.some.inj h
            exact ih32 _ _ (iwr _) (lpL hk32)
    exact hL32 FU _ _ (by decide) hb32
  have hL1 : ∀ (n : Nat) (x2 : Int) (σ3 : St) , InI x2 → lpN (fun a => m_X12_tick_L2 a.1 a.2) n (x2, σ3) = some b1 → GM w p l e rm_X12_tick s m args below meth c none True σ' 3 2 [some (rv w 170), some (iv x2), none] [] σ3 := by
    intro n
    induction n with
    | zero => intro x2 σ3 ix2 q; cases q
    | succ n ih1 =>
      intro x2 σ3 ix2 q
      obtain ⟨o1, h, hk1⟩ := lp_step q
      replace h : m_X12_tick_L2 x2 σ3 = some o1 := h
      unfold m_X12_tick_L2 at h
      refine g_iload_n C dX12_tick_2 rfl ?_
      refine g_aload_n C dX12_tick_3 rfl ?_
      refine g_getI (j := 35) C dX12_tick_4 rfl (Nat.le_of_ble_eq_true rfl) (Nat.le_of_ble_eq_true rfl) fl_12_333 rfl rfl (fun i4 => ?_)
      refine g_icmp_ge C dX12_tick_7 ix2 i4 rfl (tgt := 141) (fun c5 => ?_) (fun c5 => ?_)
      · have h := ifT c5 h
        refine g_mask [true, false, true] ?_
        obtain rfl := Option.some.inj h
        exact hX1 σ3 (lpR hk1).symm
      · have h := ifF c5 h
        refine g_aload_n C dX12_tick_10 rfl ?_
        refine g_getR (j := 61) C dX12_tick_11 rfl (Nat.le_of_ble_eq_true rfl) (Nat.le_of_ble_eq_true rfl) fl_12_143 rfl rfl (r := 211) rfl ?_
        refine g_iload_n C dX12_tick_14 rfl ?_
        obtain ⟨x6, qx6, h⟩ := bnd h
        refine g_iald C dX12_tick_15 rfl rfl qx6 ix2 (fun ix6 => ?_)
        refine g_iconst C dX12_tick_16 ?_
        have hJ33_30 : m_X12_tick_J33 σ3 x2 = some o1 → GM w p l e rm_X12_tick s m args below meth c none True σ' 3 33 [some (rv w 170), some (iv x2), none] [] σ3 := by
          intro h
          unfold m_X12_tick_J33 at h
          refine g_iconst C dX12_tick_33 ?_
          refine g_goto C dX12_tick_34 rfl (tgt := 38) ?_
          refine g_istore_n (L1 := [some (rv w 170), some (iv x2), some (iv 1)]) C dX12_tick_38 rfl (Nat.le_of_ble_eq_true rfl) rfl ?_
          refine g_aload_n C dX12_tick_39 rfl ?_
          refine g_getR (j := 49) C dX12_tick_40 rfl (Nat.le_of_ble_eq_true rfl) (Nat.le_of_ble_eq_true rfl) fl_12_113 rfl rfl (r := 201) rfl ?_
          refine g_bipush C dX12_tick_43 rfl ?_
          refine g_iload_n C dX12_tick_45 rfl ?_
          refine g_imul C dX12_tick_46 ?_
          refine g_aload_n C dX12_tick_47 rfl ?_
          refine g_getI (j := 71) C dX12_tick_48 rfl (Nat.le_of_ble_eq_true rfl) (Nat.le_of_ble_eq_true rfl) fl_12_365 rfl rfl (fun i15 => ?_)
          refine g_iadd C dX12_tick_51 ?_
          refine g_iload_n C dX12_tick_52 rfl ?_
          refine g_if_eq C dX12_tick_53 (by decide) rfl (tgt := 65) (fun c16 => absurd c16 (by decide)) (fun c16 => ?_)
          refine g_aload_n C dX12_tick_56 rfl ?_
          refine g_getR (j := 63) C dX12_tick_57 rfl (Nat.le_of_ble_eq_true rfl) (Nat.le_of_ble_eq_true rfl) fl_12_149 rfl rfl (r := 213) rfl ?_
          refine g_iload_n C dX12_tick_60 rfl ?_
          obtain ⟨x17, qx17, h⟩ := bnd h
          refine g_iald C dX12_tick_61 rfl rfl qx17 ix2 (fun ix17 => ?_)
          refine g_goto C dX12_tick_62 rfl (tgt := 66) ?_
          obtain ⟨σ18, qσ18, h⟩ := bnd h
          refine g_iast C dX12_tick_66 rfl rfl qσ18 (iwr _) ix17 ?_
          refine g_iload_n C dX12_tick_67 rfl ?_
          refine g_if_eq C dX12_tick_68 (by decide) rfl (tgt := 135) (fun c19 => absurd c19 (by decide)) (fun c19 => ?_)
          refine g_aload_n C dX12_tick_71 rfl ?_
          refine g_getR (j := 47) C dX12_tick_72 rfl (Nat.le_of_ble_eq_true rfl) (Nat.le_of_ble_eq_true rfl) fl_12_106 rfl rfl (r := 200) rfl ?_
          refine g_bipush C dX12_tick_75 rfl ?_
          refine g_aload_n C dX12_tick_77 rfl ?_
          refine g_getR (j := 63) C dX12_tick_78 rfl (Nat.le_of_ble_eq_true rfl) (Nat.le_of_ble_eq_true rfl) fl_12_149 rfl rfl (r := 213) rfl ?_
          refine g_iload_n C dX12_tick_81 rfl ?_
          obtain ⟨x20, qx20, h⟩ := bnd h
          refine g_iald C dX12_tick_82 rfl rfl qx20 ix2 (fun ix20 => ?_)
          refine g_imul C dX12_tick_83 ?_
          refine g_aload_n C dX12_tick_84 rfl ?_
          refine g_getI (j := 71) C dX12_tick_85 rfl (Nat.le_of_ble_eq_true rfl) (Nat.le_of_ble_eq_true rfl) fl_12_365 rfl rfl (fun i21 => ?_)
          refine g_iadd C dX12_tick_88 ?_
          obtain ⟨x22, qx22, h⟩ := bnd h
          refine g_zald C dX12_tick_89 rfl rfl qx22 (iwr _) (fun ix22 => ?_)
          refine g_if_ne C dX12_tick_90 (zI ix22) rfl (tgt := 96) (fun c23 => ?_) (fun c23 => ?_)
          · have h := ifF c23 h
            refine g_aload_n C dX12_tick_96 rfl ?_
            refine g_getR (j := 59) C dX12_tick_97 rfl (Nat.le_of_ble_eq_true rfl) (Nat.le_of_ble_eq_true rfl) fl_12_140 rfl rfl (r := 210) rfl ?_
            refine g_aload_n C dX12_tick_100 rfl ?_
            refine g_getI (j := 58) C dX12_tick_101 rfl (Nat.le_of_ble_eq_true rfl) (Nat.le_of_ble_eq_true rfl) fl_12_374 rfl rfl (fun i24 => ?_)
            refine g_sipush C dX12_tick_104 rfl ?_
            refine g_aload_n C dX12_tick_107 rfl ?_
            refine g_getI (j := 71) C dX12_tick_108 rfl (Nat.le_of_ble_eq_true rfl) (Nat.le_of_ble_eq_true rfl) fl_12_365 rfl rfl (fun i25 => ?_)
            refine g_imul C dX12_tick_111 ?_
            refine g_bipush C dX12_tick_112 rfl ?_
            refine g_iload_n C dX12_tick_114 rfl ?_
            refine g_imul C dX12_tick_115 ?_
            refine g_iadd C dX12_tick_116 ?_
            refine g_aload_n C dX12_tick_117 rfl ?_
            refine g_getR (j := 63) C dX12_tick_118 rfl (Nat.le_of_ble_eq_true rfl) (Nat.le_of_ble_eq_true rfl) fl_12_149 rfl rfl (r := 213) rfl ?_
            refine g_iload_n C dX12_tick_121 rfl ?_
            obtain ⟨x26, qx26, h⟩ := bnd h
            refine g_iald C dX12_tick_122 rfl rfl qx26 ix2 (fun ix26 => ?_)
            refine g_iadd C dX12_tick_123 ?_
            obtain ⟨σ27, qσ27, h⟩ := bnd h
            refine g_iast C dX12_tick_124 rfl rfl qσ27 i24 (iwr _) ?_
            refine g_aload_n C dX12_tick_125 rfl ?_
            refine g_dup C dX12_tick_126 rfl ?_
            refine g_getI (j := 58) C dX12_tick_127 rfl (Nat.le_of_ble_eq_true rfl) (Nat.le_of_ble_eq_true rfl) fl_12_374 rfl rfl (fun i28 => ?_)
            refine g_iconst C dX12_tick_130 ?_
            refine g_iadd C dX12_tick_131 ?_
            obtain ⟨σ29, qσ29, h⟩ := bnd h
            refine g_putI (j := 58) C dX12_tick_132 rfl (Nat.le_of_ble_eq_true rfl) (Nat.le_of_ble_eq_true rfl) fl_12_374 rfl rfl rfl rfl qσ29 (iwr _) ?_
            refine g_iinc (L1 := [some (rv w 170), some (iv (wr (x2 + 1))), some (iv 1)]) C dX12_tick_135 rfl rfl (Nat.le_of_ble_eq_true rfl) rfl ?_
            refine g_goto C dX12_tick_138 rfl (tgt := 2) ?_
            refine g_mask [true, true, false] ?_
            obtain rfl := Option.some.inj h
            exact ih1 _ _ (iwr _) (lpL hk1)
          · have h := ifT c23 h
            refine g_goto C dX12_tick_93 rfl (tgt := 135) ?_
            refine g_iinc (L1 := [some (rv w 170), some (iv (wr (x2 + 1))), some (iv 1)]) C dX12_tick_135 rfl rfl (Nat.le_of_ble_eq_true rfl) rfl ?_
            refine g_goto C dX12_tick_138 rfl (tgt := 2) ?_
            refine g_mask [true, true, false] ?_
            obtain rfl := Option.some.inj h
            exact ih1 _ _ (iwr _) (lpL hk1)
        refine g_icmp_ne C dX12_tick_17 ix6 (by decide) rfl (tgt := 33) (fun c7 => ?_) (fun c7 => ?_)
        · have h := ifF c7 h
          exact hJ33_30  h
        · have h := ifT c7 h
          refine g_aload_n C dX12_tick_20 rfl ?_
          refine g_getR (j := 64) C dX12_tick_21 rfl (Nat.le_of_ble_eq_true rfl) (Nat.le_of_ble_eq_true rfl) fl_12_152 rfl rfl (r := 214) rfl ?_
          refine g_iload_n C dX12_tick_24 rfl ?_
          obtain ⟨x8, qx8, h⟩ := bnd h
          refine g_iald C dX12_tick_25 rfl rfl qx8 ix2 (fun ix8 => ?_)
          refine g_aload_n C dX12_tick_26 rfl ?_
          refine g_getI (j := 71) C dX12_tick_27 rfl (Nat.le_of_ble_eq_true rfl) (Nat.le_of_ble_eq_true rfl) fl_12_365 rfl rfl (fun i9 => ?_)
          refine g_icmp_gt C dX12_tick_30 ix8 i9 rfl (tgt := 37) (fun c10 => ?_) (fun c10 => ?_)
          · have h := ifT c10 h
            refine g_iconst C dX12_tick_37 ?_
            refine g_istore_n (L1 := [some (rv w 170), some (iv x2), some (iv 0)]) C dX12_tick_38 rfl (Nat.le_of_ble_eq_true rfl) rfl ?_
            refine g_aload_n C dX12_tick_39 rfl ?_
            refine g_getR (j := 49) C dX12_tick_40 rfl (Nat.le_of_ble_eq_true rfl) (Nat.le_of_ble_eq_true rfl) fl_12_113 rfl rfl (r := 201) rfl ?_
            refine g_bipush C dX12_tick_43 rfl ?_
            refine g_iload_n C dX12_tick_45 rfl ?_
            refine g_imul C dX12_tick_46 ?_
            refine g_aload_n C dX12_tick_47 rfl ?_
            refine g_getI (j := 71) C dX12_tick_48 rfl (Nat.le_of_ble_eq_true rfl) (Nat.le_of_ble_eq_true rfl) fl_12_365 rfl rfl (fun i11 => ?_)
            refine g_iadd C dX12_tick_51 ?_
            refine g_iload_n C dX12_tick_52 rfl ?_
            refine g_if_eq C dX12_tick_53 (by decide) rfl (tgt := 65) (fun c12 => ?_) (fun c12 => absurd c12 (by decide))
            refine g_iconst C dX12_tick_65 ?_
            obtain ⟨σ13, qσ13, h⟩ := bnd h
            refine g_iast C dX12_tick_66 rfl rfl qσ13 (iwr _) (by decide) ?_
            refine g_iload_n C dX12_tick_67 rfl ?_
            refine g_if_eq C dX12_tick_68 (by decide) rfl (tgt := 135) (fun c14 => ?_) (fun c14 => absurd c14 (by decide))
            refine g_iinc (L1 := [some (rv w 170), some (iv (wr (x2 + 1))), some (iv 0)]) C dX12_tick_135 rfl rfl (Nat.le_of_ble_eq_true rfl) rfl ?_
            refine g_goto C dX12_tick_138 rfl (tgt := 2) ?_
            refine g_mask [true, true, false] ?_
            obtain rfl := Option.some.inj h
            exact ih1 _ _ (iwr _) (lpL hk1)
          · have h := ifF c10 h
            exact hJ33_30  h
  exact hL1 FU _ _ (by decide) hb1
theorem dX12_run_0 : decode cX12_run 0 = .ok (.aload_n 0, 1) := by decide +kernel
theorem dX12_run_1 : decode cX12_run 1 = .ok (.iconst 0, 1) := by decide +kernel
theorem dX12_run_2 : decode cX12_run 2 = .ok (.putfield 1, 3) := by decide +kernel
theorem dX12_run_5 : decode cX12_run 5 = .ok (.aload_n 0, 1) := by decide +kernel
theorem dX12_run_6 : decode cX12_run 6 = .ok (.iload_n 1, 1) := by decide +kernel
theorem dX12_run_7 : decode cX12_run 7 = .ok (.invokevirtual 362, 3) := by decide +kernel
theorem dX12_run_10 : decode cX12_run 10 = .ok (.ifCond .ne 5, 3) := by decide +kernel
theorem dX12_run_13 : decode cX12_run 13 = .ok (.iconst (-1), 1) := by decide +kernel
theorem dX12_run_14 : decode cX12_run 14 = .ok (.ireturn, 1) := by decide +kernel
theorem dX12_run_15 : decode cX12_run 15 = .ok (.aload_n 0, 1) := by decide +kernel
theorem dX12_run_16 : decode cX12_run 16 = .ok (.invokevirtual 345, 3) := by decide +kernel
theorem dX12_run_19 : decode cX12_run 19 = .ok (.aload_n 0, 1) := by decide +kernel
theorem dX12_run_20 : decode cX12_run 20 = .ok (.iload_n 1, 1) := by decide +kernel
theorem dX12_run_21 : decode cX12_run 21 = .ok (.invokevirtual 371, 3) := by decide +kernel
theorem dX12_run_24 : decode cX12_run 24 = .ok (.aload_n 0, 1) := by decide +kernel
theorem dX12_run_25 : decode cX12_run 25 = .ok (.aload_n 0, 1) := by decide +kernel
theorem dX12_run_26 : decode cX12_run 26 = .ok (.getfield 333, 3) := by decide +kernel
theorem dX12_run_29 : decode cX12_run 29 = .ok (.putfield 110, 3) := by decide +kernel
theorem dX12_run_32 : decode cX12_run 32 = .ok (.aload_n 0, 1) := by decide +kernel
theorem dX12_run_33 : decode cX12_run 33 = .ok (.iconst 0, 1) := by decide +kernel
theorem dX12_run_34 : decode cX12_run 34 = .ok (.putfield 374, 3) := by decide +kernel
theorem dX12_run_37 : decode cX12_run 37 = .ok (.aload_n 0, 1) := by decide +kernel
theorem dX12_run_38 : decode cX12_run 38 = .ok (.iconst 0, 1) := by decide +kernel
theorem dX12_run_39 : decode cX12_run 39 = .ok (.putfield 368, 3) := by decide +kernel
theorem dX12_run_42 : decode cX12_run 42 = .ok (.iconst 0, 1) := by decide +kernel
theorem dX12_run_43 : decode cX12_run 43 = .ok (.istore_n 2, 1) := by decide +kernel
theorem dX12_run_44 : decode cX12_run 44 = .ok (.iload_n 2, 1) := by decide +kernel
theorem dX12_run_45 : decode cX12_run 45 = .ok (.bipush 64, 2) := by decide +kernel
theorem dX12_run_47 : decode cX12_run 47 = .ok (.if_icmp .ge 30, 3) := by decide +kernel
theorem dX12_run_50 : decode cX12_run 50 = .ok (.aload_n 0, 1) := by decide +kernel
theorem dX12_run_51 : decode cX12_run 51 = .ok (.getfield 116, 3) := by decide +kernel
theorem dX12_run_54 : decode cX12_run 54 = .ok (.iload_n 2, 1) := by decide +kernel
theorem dX12_run_55 : decode cX12_run 55 = .ok (.iconst (-1), 1) := by decide +kernel
theorem dX12_run_56 : decode cX12_run 56 = .ok (.iastore, 1) := by decide +kernel
theorem dX12_run_57 : decode cX12_run 57 = .ok (.aload_n 0, 1) := by decide +kernel
theorem dX12_run_58 : decode cX12_run 58 = .ok (.getfield 119, 3) := by decide +kernel
theorem dX12_run_61 : decode cX12_run 61 = .ok (.iload_n 2, 1) := by decide +kernel
theorem dX12_run_62 : decode cX12_run 62 = .ok (.iconst (-1), 1) := by decide +kernel
theorem dX12_run_63 : decode cX12_run 63 = .ok (.iastore, 1) := by decide +kernel
theorem dX12_run_64 : decode cX12_run 64 = .ok (.aload_n 0, 1) := by decide +kernel
theorem dX12_run_65 : decode cX12_run 65 = .ok (.getfield 131, 3) := by decide +kernel
theorem dX12_run_68 : decode cX12_run 68 = .ok (.iload_n 2, 1) := by decide +kernel
theorem dX12_run_69 : decode cX12_run 69 = .ok (.iconst (-1), 1) := by decide +kernel
theorem dX12_run_70 : decode cX12_run 70 = .ok (.iastore, 1) := by decide +kernel
theorem dX12_run_71 : decode cX12_run 71 = .ok (.iinc 2 1, 3) := by decide +kernel
theorem dX12_run_74 : decode cX12_run 74 = .ok (.goto (-30), 3) := by decide +kernel
theorem dX12_run_77 : decode cX12_run 77 = .ok (.iconst 0, 1) := by decide +kernel
theorem dX12_run_78 : decode cX12_run 78 = .ok (.istore_n 2, 1) := by decide +kernel
theorem dX12_run_79 : decode cX12_run 79 = .ok (.iload_n 2, 1) := by decide +kernel
theorem dX12_run_80 : decode cX12_run 80 = .ok (.bipush 10, 2) := by decide +kernel
theorem dX12_run_82 : decode cX12_run 82 = .ok (.if_icmp .ge 16, 3) := by decide +kernel
theorem dX12_run_85 : decode cX12_run 85 = .ok (.aload_n 0, 1) := by decide +kernel
theorem dX12_run_86 : decode cX12_run 86 = .ok (.getfield 125, 3) := by decide +kernel
theorem dX12_run_89 : decode cX12_run 89 = .ok (.iload_n 2, 1) := by decide +kernel
theorem dX12_run_90 : decode cX12_run 90 = .ok (.iconst 0, 1) := by decide +kernel
theorem dX12_run_91 : decode cX12_run 91 = .ok (.iastore, 1) := by decide +kernel
theorem dX12_run_92 : decode cX12_run 92 = .ok (.iinc 2 1, 3) := by decide +kernel
theorem dX12_run_95 : decode cX12_run 95 = .ok (.goto (-16), 3) := by decide +kernel
theorem dX12_run_98 : decode cX12_run 98 = .ok (.iconst 0, 1) := by decide +kernel
theorem dX12_run_99 : decode cX12_run 99 = .ok (.istore_n 2, 1) := by decide +kernel
theorem dX12_run_100 : decode cX12_run 100 = .ok (.iload_n 2, 1) := by decide +kernel
theorem dX12_run_101 : decode cX12_run 101 = .ok (.bipush 80, 2) := by decide +kernel
theorem dX12_run_103 : decode cX12_run 103 = .ok (.if_icmp .ge 16, 3) := by decide +kernel
theorem dX12_run_106 : decode cX12_run 106 = .ok (.aload_n 0, 1) := by decide +kernel
theorem dX12_run_107 : decode cX12_run 107 = .ok (.getfield 128, 3) := by decide +kernel
theorem dX12_run_110 : decode cX12_run 110 = .ok (.iload_n 2, 1) := by decide +kernel
theorem dX12_run_111 : decode cX12_run 111 = .ok (.iconst (-1), 1) := by decide +kernel
theorem dX12_run_112 : decode cX12_run 112 = .ok (.iastore, 1) := by decide +kernel
theorem dX12_run_113 : decode cX12_run 113 = .ok (.iinc 2 1, 3) := by decide +kernel
theorem dX12_run_116 : decode cX12_run 116 = .ok (.goto (-16), 3) := by decide +kernel
theorem dX12_run_119 : decode cX12_run 119 = .ok (.iconst 0, 1) := by decide +kernel
theorem dX12_run_120 : decode cX12_run 120 = .ok (.istore_n 2, 1) := by decide +kernel
theorem dX12_run_121 : decode cX12_run 121 = .ok (.iload_n 2, 1) := by decide +kernel
theorem dX12_run_122 : decode cX12_run 122 = .ok (.aload_n 0, 1) := by decide +kernel
theorem dX12_run_123 : decode cX12_run 123 = .ok (.getfield 333, 3) := by decide +kernel
theorem dX12_run_126 : decode cX12_run 126 = .ok (.if_icmp .ge 163, 3) := by decide +kernel
theorem dX12_run_129 : decode cX12_run 129 = .ok (.iconst 0, 1) := by decide +kernel
theorem dX12_run_130 : decode cX12_run 130 = .ok (.istore_n 3, 1) := by decide +kernel
theorem dX12_run_131 : decode cX12_run 131 = .ok (.iload_n 3, 1) := by decide +kernel
theorem dX12_run_132 : decode cX12_run 132 = .ok (.bipush 8, 2) := by decide +kernel
theorem dX12_run_134 : decode cX12_run 134 = .ok (.if_icmp .ge 35, 3) := by decide +kernel
theorem dX12_run_137 : decode cX12_run 137 = .ok (.aload_n 0, 1) := by decide +kernel
theorem dX12_run_138 : decode cX12_run 138 = .ok (.getfield 79, 3) := by decide +kernel
theorem dX12_run_141 : decode cX12_run 141 = .ok (.iload_n 2, 1) := by decide +kernel
theorem dX12_run_142 : decode cX12_run 142 = .ok (.iaload, 1) := by decide +kernel
theorem dX12_run_143 : decode cX12_run 143 = .ok (.iload_n 3, 1) := by decide +kernel
theorem dX12_run_144 : decode cX12_run 144 = .ok (.ishr, 1) := by decide +kernel
theorem dX12_run_145 : decode cX12_run 145 = .ok (.iconst 1, 1) := by decide +kernel
theorem dX12_run_146 : decode cX12_run 146 = .ok (.iand, 1) := by decide +kernel
theorem dX12_run_147 : decode cX12_run 147 = .ok (.iconst 1, 1) := by decide +kernel
theorem dX12_run_148 : decode cX12_run 148 = .ok (.if_icmp .ne 15, 3) := by decide +kernel
theorem dX12_run_151 : decode cX12_run 151 = .ok (.aload_n 0, 1) := by decide +kernel
theorem dX12_run_152 : decode cX12_run 152 = .ok (.getfield 116, 3) := by decide +kernel
theorem dX12_run_155 : decode cX12_run 155 = .ok (.bipush 8, 2) := by decide +kernel
theorem dX12_run_157 : decode cX12_run 157 = .ok (.iload_n 2, 1) := by decide +kernel
theorem dX12_run_158 : decode cX12_run 158 = .ok (.imul, 1) := by decide +kernel
theorem dX12_run_159 : decode cX12_run 159 = .ok (.iload_n 3, 1) := by decide +kernel
theorem dX12_run_160 : decode cX12_run 160 = .ok (.iadd, 1) := by decide +kernel
theorem dX12_run_161 : decode cX12_run 161 = .ok (.iconst 0, 1) := by decide +kernel
theorem dX12_run_162 : decode cX12_run 162 = .ok (.iastore, 1) := by decide +kernel
theorem dX12_run_163 : decode cX12_run 163 = .ok (.iinc 3 1, 3) := by decide +kernel
theorem dX12_run_166 : decode cX12_run 166 = .ok (.goto (-35), 3) := by decide +kernel
theorem dX12_run_169 : decode cX12_run 169 = .ok (.aload_n 0, 1) := by decide +kernel
theorem dX12_run_170 : decode cX12_run 170 = .ok (.getfield 122, 3) := by decide +kernel
theorem dX12_run_173 : decode cX12_run 173 = .ok (.iload_n 2, 1) := by decide +kernel
theorem dX12_run_174 : decode cX12_run 174 = .ok (.iconst 0, 1) := by decide +kernel
theorem dX12_run_175 : decode cX12_run 175 = .ok (.iastore, 1) := by decide +kernel
theorem dX12_run_176 : decode cX12_run 176 = .ok (.aload_n 0, 1) := by decide +kernel
theorem dX12_run_177 : decode cX12_run 177 = .ok (.getfield 137, 3) := by decide +kernel
theorem dX12_run_180 : decode cX12_run 180 = .ok (.iload_n 2, 1) := by decide +kernel
theorem dX12_run_181 : decode cX12_run 181 = .ok (.iconst 0, 1) := by decide +kernel
theorem dX12_run_182 : decode cX12_run 182 = .ok (.iastore, 1) := by decide +kernel
theorem dX12_run_183 : decode cX12_run 183 = .ok (.aload_n 0, 1) := by decide +kernel
theorem dX12_run_184 : decode cX12_run 184 = .ok (.getfield 164, 3) := by decide +kernel
theorem dX12_run_187 : decode cX12_run 187 = .ok (.iload_n 2, 1) := by decide +kernel
theorem dX12_run_188 : decode cX12_run 188 = .ok (.iconst 0, 1) := by decide +kernel
theorem dX12_run_189 : decode cX12_run 189 = .ok (.iastore, 1) := by decide +kernel
theorem dX12_run_190 : decode cX12_run 190 = .ok (.aload_n 0, 1) := by decide +kernel
theorem dX12_run_191 : decode cX12_run 191 = .ok (.getfield 149, 3) := by decide +kernel
theorem dX12_run_194 : decode cX12_run 194 = .ok (.iload_n 2, 1) := by decide +kernel
theorem dX12_run_195 : decode cX12_run 195 = .ok (.aload_n 0, 1) := by decide +kernel
theorem dX12_run_196 : decode cX12_run 196 = .ok (.getfield 76, 3) := by decide +kernel
theorem dX12_run_199 : decode cX12_run 199 = .ok (.iload_n 2, 1) := by decide +kernel
theorem dX12_run_200 : decode cX12_run 200 = .ok (.iaload, 1) := by decide +kernel
theorem dX12_run_201 : decode cX12_run 201 = .ok (.iastore, 1) := by decide +kernel
theorem dX12_run_202 : decode cX12_run 202 = .ok (.aload_n 0, 1) := by decide +kernel
theorem dX12_run_203 : decode cX12_run 203 = .ok (.getfield 143, 3) := by decide +kernel
theorem dX12_run_206 : decode cX12_run 206 = .ok (.iload_n 2, 1) := by decide +kernel
theorem dX12_run_207 : decode cX12_run 207 = .ok (.aload_n 0, 1) := by decide +kernel
theorem dX12_run_208 : decode cX12_run 208 = .ok (.getfield 82, 3) := by decide +kernel
theorem dX12_run_211 : decode cX12_run 211 = .ok (.iload_n 2, 1) := by decide +kernel
theorem dX12_run_212 : decode cX12_run 212 = .ok (.iaload, 1) := by decide +kernel
theorem dX12_run_213 : decode cX12_run 213 = .ok (.iconst (-1), 1) := by decide +kernel
theorem dX12_run_214 : decode cX12_run 214 = .ok (.if_icmp .ne 7, 3) := by decide +kernel
theorem dX12_run_217 : decode cX12_run 217 = .ok (.iconst 4, 1) := by decide +kernel
theorem dX12_run_218 : decode cX12_run 218 = .ok (.goto 4, 3) := by decide +kernel
theorem dX12_run_221 : decode cX12_run 221 = .ok (.iconst 0, 1) := by decide +kernel
theorem dX12_run_222 : decode cX12_run 222 = .ok (.iastore, 1) := by decide +kernel
theorem dX12_run_223 : decode cX12_run 223 = .ok (.aload_n 0, 1) := by decide +kernel
theorem dX12_run_224 : decode cX12_run 224 = .ok (.getfield 134, 3) := by decide +kernel
theorem dX12_run_227 : decode cX12_run 227 = .ok (.iload_n 2, 1) := by decide +kernel
theorem dX12_run_228 : decode cX12_run 228 = .ok (.aload_n 0, 1) := by decide +kernel
theorem dX12_run_229 : decode cX12_run 229 = .ok (.getfield 82, 3) := by decide +kernel
theorem dX12_run_232 : decode cX12_run 232 = .ok (.iload_n 2, 1) := by decide +kernel
theorem dX12_run_233 : decode cX12_run 233 = .ok (.iaload, 1) := by decide +kernel
theorem dX12_run_234 : decode cX12_run 234 = .ok (.iconst (-1), 1) := by decide +kernel
theorem dX12_run_235 : decode cX12_run 235 = .ok (.if_icmp .ne 7, 3) := by decide +kernel
theorem dX12_run_238 : decode cX12_run 238 = .ok (.iconst 0, 1) := by decide +kernel
theorem dX12_run_239 : decode cX12_run 239 = .ok (.goto 4, 3) := by decide +kernel
theorem dX12_run_242 : decode cX12_run 242 = .ok (.iconst (-1), 1) := by decide +kernel
theorem dX12_run_243 : decode cX12_run 243 = .ok (.iastore, 1) := by decide +kernel
theorem dX12_run_244 : decode cX12_run 244 = .ok (.aload_n 0, 1) := by decide +kernel
theorem dX12_run_245 : decode cX12_run 245 = .ok (.getfield 146, 3) := by decide +kernel
theorem dX12_run_248 : decode cX12_run 248 = .ok (.iload_n 2, 1) := by decide +kernel
theorem dX12_run_249 : decode cX12_run 249 = .ok (.aload_n 0, 1) := by decide +kernel
theorem dX12_run_250 : decode cX12_run 250 = .ok (.getfield 82, 3) := by decide +kernel
theorem dX12_run_253 : decode cX12_run 253 = .ok (.iload_n 2, 1) := by decide +kernel
theorem dX12_run_254 : decode cX12_run 254 = .ok (.iaload, 1) := by decide +kernel
theorem dX12_run_255 : decode cX12_run 255 = .ok (.iconst (-1), 1) := by decide +kernel
theorem dX12_run_256 : decode cX12_run 256 = .ok (.if_icmp .ne 7, 3) := by decide +kernel
theorem dX12_run_259 : decode cX12_run 259 = .ok (.iconst 0, 1) := by decide +kernel
theorem dX12_run_260 : decode cX12_run 260 = .ok (.goto 22, 3) := by decide +kernel
theorem dX12_run_263 : decode cX12_run 263 = .ok (.aload_n 0, 1) := by decide +kernel
theorem dX12_run_264 : decode cX12_run 264 = .ok (.getfield 46, 3) := by decide +kernel
theorem dX12_run_267 : decode cX12_run 267 = .ok (.bipush 8, 2) := by decide +kernel
theorem dX12_run_269 : decode cX12_run 269 = .ok (.aload_n 0, 1) := by decide +kernel
theorem dX12_run_270 : decode cX12_run 270 = .ok (.getfield 283, 3) := by decide +kernel
theorem dX12_run_273 : decode cX12_run 273 = .ok (.imul, 1) := by decide +kernel
theorem dX12_run_274 : decode cX12_run 274 = .ok (.aload_n 0, 1) := by decide +kernel
theorem dX12_run_275 : decode cX12_run 275 = .ok (.getfield 82, 3) := by decide +kernel
theorem dX12_run_278 : decode cX12_run 278 = .ok (.iload_n 2, 1) := by decide +kernel
theorem dX12_run_279 : decode cX12_run 279 = .ok (.iaload, 1) := by decide +kernel
theorem dX12_run_280 : decode cX12_run 280 = .ok (.iadd, 1) := by decide +kernel
theorem dX12_run_281 : decode cX12_run 281 = .ok (.iaload, 1) := by decide +kernel
theorem dX12_run_282 : decode cX12_run 282 = .ok (.iastore, 1) := by decide +kernel
theorem dX12_run_283 : decode cX12_run 283 = .ok (.iinc 2 1, 3) := by decide +kernel
theorem dX12_run_286 : decode cX12_run 286 = .ok (.goto (-165), 3) := by decide +kernel
theorem dX12_run_289 : decode cX12_run 289 = .ok (.aload_n 0, 1) := by decide +kernel
theorem dX12_run_290 : decode cX12_run 290 = .ok (.iconst 0, 1) := by decide +kernel
theorem dX12_run_291 : decode cX12_run 291 = .ok (.putfield 365, 3) := by decide +kernel
theorem dX12_run_294 : decode cX12_run 294 = .ok (.aload_n 0, 1) := by decide +kernel
theorem dX12_run_295 : decode cX12_run 295 = .ok (.getfield 365, 3) := by decide +kernel
theorem dX12_run_298 : decode cX12_run 298 = .ok (.bipush 96, 2) := by decide +kernel
theorem dX12_run_300 : decode cX12_run 300 = .ok (.if_icmp .ge 20, 3) := by decide +kernel
theorem dX12_run_303 : decode cX12_run 303 = .ok (.aload_n 0, 1) := by decide +kernel
theorem dX12_run_304 : decode cX12_run 304 = .ok (.invokevirtual 377, 3) := by decide +kernel
theorem dX12_run_307 : decode cX12_run 307 = .ok (.aload_n 0, 1) := by decide +kernel
theorem dX12_run_308 : decode cX12_run 308 = .ok (.dup, 1) := by decide +kernel
theorem dX12_run_309 : decode cX12_run 309 = .ok (.getfield 365, 3) := by decide +kernel
theorem dX12_run_312 : decode cX12_run 312 = .ok (.iconst 1, 1) := by decide +kernel
theorem dX12_run_313 : decode cX12_run 313 = .ok (.iadd, 1) := by decide +kernel
theorem dX12_run_314 : decode cX12_run 314 = .ok (.putfield 365, 3) := by decide +kernel
theorem dX12_run_317 : decode cX12_run 317 = .ok (.goto (-23), 3) := by decide +kernel
theorem dX12_run_320 : decode cX12_run 320 = .ok (.aload_n 0, 1) := by decide +kernel
theorem dX12_run_321 : decode cX12_run 321 = .ok (.getfield 368, 3) := by decide +kernel
theorem dX12_run_324 : decode cX12_run 324 = .ok (.ireturn, 1) := by decide +kernel
abbrev rm_X12_run : Room := { frames := 5, cells := 0, slots := 0, locals := 115 }
set_option maxRecDepth 100000 in
set_option maxHeartbeats 4000000 in
theorem ct_X12_run {w : Wd} {l : Launch} {a1 : Int} {σ : St} {y : Int} {σ' : St} (ia1 : InI a1) (h : m_X12_run a1 σ = some (y, σ')) : Ct w l yX12_run (Cond.code yX12_run cX12_run 4 (some .int) :: TB) rm_X12_run [rv w 170, iv a1] σ (some (iv y)) (InI y) σ' := by
  refine Ct.of2 [some (rv w 170), some (iv a1), none, none] 2 rfl pn_RX12 (Nat.le_of_ble_eq_true rfl) ?_
  intro p e s m args below meth c C hr hlk
  unfold m_X12_run at h
  refine g_aload_n C dX12_run_0 rfl ?_
  refine g_iconst C dX12_run_1 ?_
  obtain ⟨σ1, qσ1, h⟩ := bnd h
  refine g_putI (j := 0) C dX12_run_2 rfl (Nat.le_of_ble_eq_true rfl) (Nat.le_of_ble_eq_true rfl) fl_12_1 rfl rfl rfl rfl qσ1 (by decide) ?_
  refine g_aload_n C dX12_run_5 rfl ?_
  refine g_iload_n C dX12_run_6 rfl ?_
  obtain ⟨x2, qx2, h⟩ := bnd h
  refine g_callV1 (As := [iv a1]) C dX12_run_7 mi_X12_isKnown ml_12_362 (ct_X12_isKnown ia1 qx2) rfl rfl ⟨rfl, rfl⟩ ⟨Nat.le_of_ble_eq_true rfl, Nat.le_of_ble_eq_true rfl⟩ ⟨Nat.zero_le _, Nat.zero_le _⟩ rfl (Nat.le_of_ble_eq_true rfl) (fun ix2 => ?_)
  refine g_if_ne C dX12_run_10 (zI ix2) rfl (tgt := 15) (fun c3 => ?_) (fun c3 => ?_)
  · have h := ifF c3 h
    refine g_aload_n C dX12_run_15 rfl ?_
    obtain ⟨σ4, qσ4, h⟩ := bnd h
    refine g_callV0 (As := []) C dX12_run_16 mi_X12_measures ml_12_345 (ct_X12_measures qσ4) rfl rfl ⟨rfl, rfl⟩ ⟨Nat.le_of_ble_eq_true rfl, Nat.le_of_ble_eq_true rfl⟩ ⟨Nat.zero_le _, Nat.zero_le _⟩ rfl (Nat.le_of_ble_eq_true rfl) (fun _ => ?_)
    refine g_aload_n C dX12_run_19 rfl ?_
    refine g_iload_n C dX12_run_20 rfl ?_
    obtain ⟨σ5, qσ5, h⟩ := bnd h
    refine g_callV0 (As := [iv a1]) C dX12_run_21 mi_X12_posts ml_12_371 (ct_X12_posts ia1 qσ5) rfl rfl ⟨rfl, rfl⟩ ⟨Nat.le_of_ble_eq_true rfl, Nat.le_of_ble_eq_true rfl⟩ ⟨Nat.zero_le _, Nat.zero_le _⟩ rfl (Nat.le_of_ble_eq_true rfl) (fun _ => ?_)
    refine g_aload_n C dX12_run_24 rfl ?_
    refine g_aload_n C dX12_run_25 rfl ?_
    refine g_getI (j := 35) C dX12_run_26 rfl (Nat.le_of_ble_eq_true rfl) (Nat.le_of_ble_eq_true rfl) fl_12_333 rfl rfl (fun i6 => ?_)
    obtain ⟨σ7, qσ7, h⟩ := bnd h
    refine g_putI (j := 48) C dX12_run_29 rfl (Nat.le_of_ble_eq_true rfl) (Nat.le_of_ble_eq_true rfl) fl_12_110 rfl rfl rfl rfl qσ7 i6 ?_
    refine g_aload_n C dX12_run_32 rfl ?_
    refine g_iconst C dX12_run_33 ?_
    obtain ⟨σ8, qσ8, h⟩ := bnd h
    refine g_putI (j := 58) C dX12_run_34 rfl (Nat.le_of_ble_eq_true rfl) (Nat.le_of_ble_eq_true rfl) fl_12_374 rfl rfl rfl rfl qσ8 (by decide) ?_
    refine g_aload_n C dX12_run_37 rfl ?_
    refine g_iconst C dX12_run_38 ?_
    obtain ⟨σ9, qσ9, h⟩ := bnd h
    refine g_putI (j := 60) C dX12_run_39 rfl (Nat.le_of_ble_eq_true rfl) (Nat.le_of_ble_eq_true rfl) fl_12_368 rfl rfl rfl rfl qσ9 (by decide) ?_
    refine g_iconst C dX12_run_42 ?_
    refine g_istore_n (L1 := [some (rv w 170), some (iv a1), some (iv 0), none]) C dX12_run_43 rfl (Nat.le_of_ble_eq_true rfl) rfl ?_
    refine g_mask [true, false, true, true] ?_
    obtain ⟨b10, hb10, hF10⟩ := bnd h
    have hX10 : ∀ (σ17 : St) , σ17 = b10 → GM w p l e rm_X12_run s m args below meth c (some (iv y)) (InI y) σ' 4 77 [some (rv w 170), none, none, none] [] σ17 := by
      intro σ17 q
      subst q
      have h := hF10
      refine g_iconst C dX12_run_77 ?_
      refine g_istore_n (L1 := [some (rv w 170), none, some (iv 0), none]) C dX12_run_78 rfl (Nat.le_of_ble_eq_true rfl) rfl ?_
      obtain ⟨b18, hb18, hF18⟩ := bnd h
      have hX18 : ∀ (σ23 : St) , σ23 = b18 → GM w p l e rm_X12_run s m args below meth c (some (iv y)) (InI y) σ' 4 98 [some (rv w 170), none, none, none] [] σ23 := by
        intro σ23 q
        subst q
        have h := hF18
        refine g_iconst C dX12_run_98 ?_
        refine g_istore_n (L1 := [some (rv w 170), none, some (iv 0), none]) C dX12_run_99 rfl (Nat.le_of_ble_eq_true rfl) rfl ?_
        obtain ⟨b24, hb24, hF24⟩ := bnd h
        have hX24 : ∀ (σ29 : St) , σ29 = b24 → GM w p l e rm_X12_run s m args below meth c (some (iv y)) (InI y) σ' 4 119 [some (rv w 170), none, none, none] [] σ29 := by
          intro σ29 q
          subst q
          have h := hF24
          refine g_iconst C dX12_run_119 ?_
          refine g_istore_n (L1 := [some (rv w 170), none, some (iv 0), none]) C dX12_run_120 rfl (Nat.le_of_ble_eq_true rfl) rfl ?_
          obtain ⟨b30, hb30, hF30⟩ := bnd h
          have hX30 : ∀ (σ65 : St) , σ65 = b30 → GM w p l e rm_X12_run s m args below meth c (some (iv y)) (InI y) σ' 4 289 [some (rv w 170), none, none, none] [] σ65 := by
            intro σ65 q
            subst q
            have h := hF30
            refine g_aload_n C dX12_run_289 rfl ?_
            refine g_iconst C dX12_run_290 ?_
            obtain ⟨σ66, qσ66, h⟩ := bnd h
            refine g_putI (j := 71) C dX12_run_291 rfl (Nat.le_of_ble_eq_true rfl) (Nat.le_of_ble_eq_true rfl) fl_12_365 rfl rfl rfl rfl qσ66 (by decide) ?_
            obtain ⟨b67, hb67, hF67⟩ := bnd h
            have hX67 : ∀ (σ74 : St) , σ74 = b67 → GM w p l e rm_X12_run s m args below meth c (some (iv y)) (InI y) σ' 4 320 [some (rv w 170), none, none, none] [] σ74 := by
              intro σ74 q
              subst q
              have h := hF67
              refine g_aload_n C dX12_run_320 rfl ?_
              refine g_getI (j := 60) C dX12_run_321 rfl (Nat.le_of_ble_eq_true rfl) (Nat.le_of_ble_eq_true rfl) fl_12_368 rfl rfl (fun i75 => ?_)
              exact g_iretP C dX12_run_324 hr hlk h i75
            have hL67 : ∀ (n : Nat) (σ68 : St) , lpN (fun a => m_X12_run_L294 a) n σ68 = some b67 → GM w p l e rm_X12_run s m args below meth c (some (iv y)) (InI y) σ' 4 294 [some (rv w 170), none, none, none] [] σ68 := by
              intro n
              induction n with
              | zero => intro σ68 q; cases q
              | succ n ih67 =>
                intro σ68 q
                obtain ⟨o67, h, hk67⟩ := lp_step q
                replace h : m_X12_run_L294 σ68 = some o67 := h
                unfold m_X12_run_L294 at h
                refine g_aload_n C dX12_run_294 rfl ?_
                refine g_getI (j := 71) C dX12_run_295 rfl (Nat.le_of_ble_eq_true rfl) (Nat.le_of_ble_eq_true rfl) fl_12_365 rfl rfl (fun i69 => ?_)
                refine g_bipush C dX12_run_298 rfl ?_
                refine g_icmp_ge C dX12_run_300 i69 (by decide) rfl (tgt := 320) (fun c70 => ?_) (fun c70 => ?_)
                · have h := ifT c70 h
                  obtain rfl := Option.some.inj h
                  exact hX67 σ68 (lpR hk67).symm
                · have h := ifF c70 h
                  refine g_aload_n C dX12_run_303 rfl ?_
                  obtain ⟨σ71, qσ71, h⟩ := bnd h
                  refine g_callV0 (As := []) C dX12_run_304 mi_X12_tick ml_12_377 (ct_X12_tick qσ71) rfl rfl ⟨rfl, rfl⟩ ⟨Nat.le_of_ble_eq_true rfl, Nat.le_of_ble_eq_true rfl⟩ ⟨Nat.zero_le _, Nat.zero_le _⟩ rfl (Nat.le_of_ble_eq_true rfl) (fun _ => ?_)
                  refine g_aload_n C dX12_run_307 rfl ?_
                  refine g_dup C dX12_run_308 rfl ?_
                  refine g_getI (j := 71) C dX12_run_309 rfl (Nat.le_of_ble_eq_true rfl) (Nat.le_of_ble_eq_true rfl) fl_12_365 rfl rfl (fun i72 => ?_)
                  refine g_iconst C dX12_run_312 ?_
                  refine g_iadd C dX12_run_313 ?_
                  obtain ⟨σ73, qσ73, h⟩ := bnd h
                  refine g_putI (j := 71) C dX12_run_314 rfl (Nat.le_of_ble_eq_true rfl) (Nat.le_of_ble_eq_true rfl) fl_12_365 rfl rfl rfl rfl qσ73 (iwr _) ?_
                  refine g_goto C dX12_run_317 rfl (tgt := 294) ?_
                  obtain rfl := Option.some.inj h
                  exact ih67 _ (lpL hk67)
            exact hL67 FU _ hb67
          have hL30 : ∀ (n : Nat) (x31 : Int) (σ32 : St) , InI x31 → lpN (fun a => m_X12_run_L121 a.1 a.2) n (x31, σ32) = some b30 → GM w p l e rm_X12_run s m args below meth c (some (iv y)) (InI y) σ' 4 121 [some (rv w 170), none, some (iv x31), none] [] σ32 := by
            intro n
            induction n with
            | zero => intro x31 σ32 ix31 q; cases q
            | succ n ih30 =>
              intro x31 σ32 ix31 q
              obtain ⟨o30, h, hk30⟩ := lp_step q
              replace h : m_X12_run_L121 x31 σ32 = some o30 := h
              unfold m_X12_run_L121 at h
              refine g_iload_n C dX12_run_121 rfl ?_
              refine g_aload_n C dX12_run_122 rfl ?_
              refine g_getI (j := 35) C dX12_run_123 rfl (Nat.le_of_ble_eq_true rfl) (Nat.le_of_ble_eq_true rfl) fl_12_333 rfl rfl (fun i33 => ?_)
              refine g_icmp_ge C dX12_run_126 ix31 i33 rfl (tgt := 289) (fun c34 => ?_) (fun c34 => ?_)
              · have h := ifT c34 h
                refine g_mask [true, true, false, true] ?_
                obtain rfl := Option.some.inj h
                exact hX30 σ32 (lpR hk30).symm
              · have h := ifF c34 h
                refine g_iconst C dX12_run_129 ?_
                refine g_istore_n (L1 := [some (rv w 170), none, some (iv x31), some (iv 0)]) C dX12_run_130 rfl (Nat.le_of_ble_eq_true rfl) rfl ?_
                obtain ⟨b35, hb35, hF35⟩ := bnd h
                have hX35 : ∀ (σ42 : St) , σ42 = b35 → GM w p l e rm_X12_run s m args below meth c (some (iv y)) (InI y) σ' 4 169 [some (rv w 170), none, some (iv x31), none] [] σ42 := by
                  intro σ42 q
                  subst q
                  have h := hF35
                  refine g_aload_n C dX12_run_169 rfl ?_
                  refine g_getR (j := 52) C dX12_run_170 rfl (Nat.le_of_ble_eq_true rfl) (Nat.le_of_ble_eq_true rfl) fl_12_122 rfl rfl (r := 204) rfl ?_
                  refine g_iload_n C dX12_run_173 rfl ?_
                  refine g_iconst C dX12_run_174 ?_
                  obtain ⟨σ43, qσ43, h⟩ := bnd h
                  refine g_iast C dX12_run_175 rfl rfl qσ43 ix31 (by decide) ?_
                  refine g_aload_n C dX12_run_176 rfl ?_
                  refine g_getR (j := 57) C dX12_run_177 rfl (Nat.le_of_ble_eq_true rfl) (Nat.le_of_ble_eq_true rfl) fl_12_137 rfl rfl (r := 209) rfl ?_
                  refine g_iload_n C dX12_run_180 rfl ?_
                  refine g_iconst C dX12_run_181 ?_
                  obtain ⟨σ44, qσ44, h⟩ := bnd h
                  refine g_iast C dX12_run_182 rfl rfl qσ44 ix31 (by decide) ?_
                  refine g_aload_n C dX12_run_183 rfl ?_
                  refine g_getR (j := 68) C dX12_run_184 rfl (Nat.le_of_ble_eq_true rfl) (Nat.le_of_ble_eq_true rfl) fl_12_164 rfl rfl (r := 218) rfl ?_
                  refine g_iload_n C dX12_run_187 rfl ?_
                  refine g_iconst C dX12_run_188 ?_
                  obtain ⟨σ45, qσ45, h⟩ := bnd h
                  refine g_iast C dX12_run_189 rfl rfl qσ45 ix31 (by decide) ?_
                  refine g_aload_n C dX12_run_190 rfl ?_
                  refine g_getR (j := 63) C dX12_run_191 rfl (Nat.le_of_ble_eq_true rfl) (Nat.le_of_ble_eq_true rfl) fl_12_149 rfl rfl (r := 213) rfl ?_
                  refine g_iload_n C dX12_run_194 rfl ?_
                  refine g_aload_n C dX12_run_195 rfl ?_
                  refine g_getR (j := 36) C dX12_run_196 rfl (Nat.le_of_ble_eq_true rfl) (Nat.le_of_ble_eq_true rfl) fl_12_76 rfl rfl (r := 190) rfl ?_
                  refine g_iload_n C dX12_run_199 rfl ?_
                  obtain ⟨x46, qx46, h⟩ := bnd h
                  refine g_iald C dX12_run_200 rfl rfl qx46 ix31 (fun ix46 => ?_)
                  obtain ⟨σ47, qσ47, h⟩ := bnd h
                  refine g_iast C dX12_run_201 rfl rfl qσ47 ix31 ix46 ?_
                  refine g_aload_n C dX12_run_202 rfl ?_
                  refine g_getR (j := 61) C dX12_run_203 rfl (Nat.le_of_ble_eq_true rfl) (Nat.le_of_ble_eq_true rfl) fl_12_143 rfl rfl (r := 211) rfl ?_
                  refine g_iload_n C dX12_run_206 rfl ?_
                  refine g_aload_n C dX12_run_207 rfl ?_
                  refine g_getR (j := 38) C dX12_run_208 rfl (Nat.le_of_ble_eq_true rfl) (Nat.le_of_ble_eq_true rfl) fl_12_82 rfl rfl (r := 192) rfl ?_
                  refine g_iload_n C dX12_run_211 rfl ?_
                  obtain ⟨x48, qx48, h⟩ := bnd h
                  refine g_iald C dX12_run_212 rfl rfl qx48 ix31 (fun ix48 => ?_)
                  refine g_iconst C dX12_run_213 ?_
                  have hJ222_64 : ∀ (x50 : Int) , InI x50 → m_X12_run_J222 σ47 x31 x50 = some o30 → GM w p l e rm_X12_run s m args below meth c (some (iv y)) (InI y) σ' 4 222 [some (rv w 170), none, some (iv x31), none] [iv x50, iv x31, rv w 211] σ47 := by
                    intro x50 ix50 h
                    unfold m_X12_run_J222 at h
                    obtain ⟨σ51, qσ51, h⟩ := bnd h
                    refine g_iast C dX12_run_222 rfl rfl qσ51 ix31 ix50 ?_
                    refine g_aload_n C dX12_run_223 rfl ?_
                    refine g_getR (j := 56) C dX12_run_224 rfl (Nat.le_of_ble_eq_true rfl) (Nat.le_of_ble_eq_true rfl) fl_12_134 rfl rfl (r := 208) rfl ?_
                    refine g_iload_n C dX12_run_227 rfl ?_
                    refine g_aload_n C dX12_run_228 rfl ?_
                    refine g_getR (j := 38) C dX12_run_229 rfl (Nat.le_of_ble_eq_true rfl) (Nat.le_of_ble_eq_true rfl) fl_12_82 rfl rfl (r := 192) rfl ?_
                    refine g_iload_n C dX12_run_232 rfl ?_
                    obtain ⟨x52, qx52, h⟩ := bnd h
                    refine g_iald C dX12_run_233 rfl rfl qx52 ix31 (fun ix52 => ?_)
                    refine g_iconst C dX12_run_234 ?_
                    have hJ243_63 : ∀ (x54 : Int) , InI x54 → m_X12_run_J243 σ51 x31 x54 = some o30 → GM w p l e rm_X12_run s m args below meth c (some (iv y)) (InI y) σ' 4 243 [some (rv w 170), none, some (iv x31), none] [iv x54, iv x31, rv w 208] σ51 := by
                      intro x54 ix54 h
                      unfold m_X12_run_J243 at h
                      obtain ⟨σ55, qσ55, h⟩ := bnd h
                      refine g_iast C dX12_run_243 rfl rfl qσ55 ix31 ix54 ?_
                      refine g_aload_n C dX12_run_244 rfl ?_
                      refine g_getR (j := 62) C dX12_run_245 rfl (Nat.le_of_ble_eq_true rfl) (Nat.le_of_ble_eq_true rfl) fl_12_146 rfl rfl (r := 212) rfl ?_
                      refine g_iload_n C dX12_run_248 rfl ?_
                      refine g_aload_n C dX12_run_249 rfl ?_
                      refine g_getR (j := 38) C dX12_run_250 rfl (Nat.le_of_ble_eq_true rfl) (Nat.le_of_ble_eq_true rfl) fl_12_82 rfl rfl (r := 192) rfl ?_
                      refine g_iload_n C dX12_run_253 rfl ?_
                      obtain ⟨x56, qx56, h⟩ := bnd h
                      refine g_iald C dX12_run_254 rfl rfl qx56 ix31 (fun ix56 => ?_)
                      refine g_iconst C dX12_run_255 ?_
                      refine g_icmp_ne C dX12_run_256 ix56 (by decide) rfl (tgt := 263) (fun c57 => ?_) (fun c57 => ?_)
                      · have h := ifF c57 h
                        refine g_aload_n C dX12_run_263 rfl ?_
                        refine g_getR (j := 21) C dX12_run_264 rfl (Nat.le_of_ble_eq_true rfl) (Nat.le_of_ble_eq_true rfl) fl_12_46 rfl rfl (r := 180) rfl ?_
                        refine g_bipush C dX12_run_267 rfl ?_
                        refine g_aload_n C dX12_run_269 rfl ?_
                        refine g_getI (j := 17) C dX12_run_270 rfl (Nat.le_of_ble_eq_true rfl) (Nat.le_of_ble_eq_true rfl) fl_12_283 rfl rfl (fun i58 => ?_)
                        refine g_imul C dX12_run_273 ?_
                        refine g_aload_n C dX12_run_274 rfl ?_
                        refine g_getR (j := 38) C dX12_run_275 rfl (Nat.le_of_ble_eq_true rfl) (Nat.le_of_ble_eq_true rfl) fl_12_82 rfl rfl (r := 192) rfl ?_
                        refine g_iload_n C dX12_run_278 rfl ?_
                        obtain ⟨x59, qx59, h⟩ := bnd h
                        refine g_iald C dX12_run_279 rfl rfl qx59 ix31 (fun ix59 => ?_)
                        refine g_iadd C dX12_run_280 ?_
                        obtain ⟨x60, qx60, h⟩ := bnd h
                        refine g_iald C dX12_run_281 rfl rfl qx60 (iwr _) (fun ix60 => ?_)
                        obtain ⟨σ61, qσ61, h⟩ := bnd h
                        refine g_iast C dX12_run_282 rfl rfl qσ61 ix31 ix60 ?_
                        refine g_iinc (L1 := [some (rv w 170), none, some (iv (wr (x31 + 1))), none]) C dX12_run_283 rfl rfl (Nat.le_of_ble_eq_true rfl) rfl ?_
                        refine g_goto C dX12_run_286 rfl (tgt := 121) ?_
                        obtain rfl := Option.some.inj h
                        exact ih30 _ _ (iwr _) (lpL hk30)
                      · have h := ifT c57 h
                        refine g_iconst C dX12_run_259 ?_
                        refine g_goto C dX12_run_260 rfl (tgt := 282) ?_
                        obtain ⟨σ62, qσ62, h⟩ := bnd h
                        refine g_iast C dX12_run_282 rfl rfl qσ62 ix31 (by decide) ?_
                        refine g_iinc (L1 := [some (rv w 170), none, some (iv (wr (x31 + 1))), none]) C dX12_run_283 rfl rfl (Nat.le_of_ble_eq_true rfl) rfl ?_
                        refine g_goto C dX12_run_286 rfl (tgt := 121) ?_
                        obtain rfl := Option.some.inj h
                        exact ih30 _ _ (iwr _) (lpL hk30)
                    refine g_icmp_ne C dX12_run_235 ix52 (by decide) rfl (tgt := 242) (fun c53 => ?_) (fun c53 => ?_)
                    · have h := ifF c53 h
                      refine g_iconst C dX12_run_242 ?_
                      exact hJ243_63 (-1) (by decide) h
                    · have h := ifT c53 h
                      refine g_iconst C dX12_run_238 ?_
                      refine g_goto C dX12_run_239 rfl (tgt := 243) ?_
                      exact hJ243_63 0 (by decide) h
                  refine g_icmp_ne C dX12_run_214 ix48 (by decide) rfl (tgt := 221) (fun c49 => ?_) (fun c49 => ?_)
                  · have h := ifF c49 h
                    refine g_iconst C dX12_run_221 ?_
                    exact hJ222_64 0 (by decide) h
                  · have h := ifT c49 h
                    refine g_iconst C dX12_run_217 ?_
                    refine g_goto C dX12_run_218 rfl (tgt := 222) ?_
                    exact hJ222_64 4 (by decide) h
                have hL35 : ∀ (n : Nat) (x36 : Int) (σ37 : St) , InI x36 → lpN (fun a => m_X12_run_L131 x31 a.1 a.2) n (x36, σ37) = some b35 → GM w p l e rm_X12_run s m args below meth c (some (iv y)) (InI y) σ' 4 131 [some (rv w 170), none, some (iv x31), some (iv x36)] [] σ37 := by
                  intro n
                  induction n with
                  | zero => intro x36 σ37 ix36 q; cases q
                  | succ n ih35 =>
                    intro x36 σ37 ix36 q
                    obtain ⟨o35, h, hk35⟩ := lp_step q
                    replace h : m_X12_run_L131 x31 x36 σ37 = some o35 := h
                    unfold m_X12_run_L131 at h
                    refine g_iload_n C dX12_run_131 rfl ?_
                    refine g_bipush C dX12_run_132 rfl ?_
                    refine g_icmp_ge C dX12_run_134 ix36 (by decide) rfl (tgt := 169) (fun c38 => ?_) (fun c38 => ?_)
                    · have h := ifT c38 h
                      refine g_mask [true, true, true, false] ?_
                      obtain rfl := Option.some.inj h
                      exact hX35 σ37 (lpR hk35).symm
                    · have h := ifF c38 h
                      refine g_aload_n C dX12_run_137 rfl ?_
                      refine g_getR (j := 37) C dX12_run_138 rfl (Nat.le_of_ble_eq_true rfl) (Nat.le_of_ble_eq_true rfl) fl_12_79 rfl rfl (r := 191) rfl ?_
                      refine g_iload_n C dX12_run_141 rfl ?_
                      obtain ⟨x39, qx39, h⟩ := bnd h
                      refine g_iald C dX12_run_142 rfl rfl qx39 ix31 (fun ix39 => ?_)
                      refine g_iload_n C dX12_run_143 rfl ?_
                      refine g_ishr C dX12_run_144 ?_
                      refine g_iconst C dX12_run_145 ?_
                      refine g_iand C dX12_run_146 ?_
                      refine g_iconst C dX12_run_147 ?_
                      refine g_icmp_ne C dX12_run_148 (iand _ _) (by decide) rfl (tgt := 163) (fun c40 => ?_) (fun c40 => ?_)
                      · have h := ifF c40 h
                        refine g_iinc (L1 := [some (rv w 170), none, some (iv x31), some (iv (wr (x36 + 1)))]) C dX12_run_163 rfl rfl (Nat.le_of_ble_eq_true rfl) rfl ?_
                        refine g_goto C dX12_run_166 rfl (tgt := 131) ?_
                        obtain rfl := Option.some.inj h
                        exact ih35 _ _ (iwr _) (lpL hk35)
                      · have h := ifT c40 h
                        refine g_aload_n C dX12_run_151 rfl ?_
                        refine g_getR (j := 50) C dX12_run_152 rfl (Nat.le_of_ble_eq_true rfl) (Nat.le_of_ble_eq_true rfl) fl_12_116 rfl rfl (r := 202) rfl ?_
                        refine g_bipush C dX12_run_155 rfl ?_
                        refine g_iload_n C dX12_run_157 rfl ?_
                        refine g_imul C dX12_run_158 ?_
                        refine g_iload_n C dX12_run_159 rfl ?_
                        refine g_iadd C dX12_run_160 ?_
                        refine g_iconst C dX12_run_161 ?_
                        obtain ⟨σ41, qσ41, h⟩ := bnd h
                        refine g_iast C dX12_run_162 rfl rfl qσ41 (iwr _) (by decide) ?_
                        refine g_iinc (L1 := [some (rv w 170), none, some (iv x31), some (iv (wr (x36 + 1)))]) C dX12_run_163 rfl rfl (Nat.le_of_ble_eq_true rfl) rfl ?_
                        refine g_goto C dX12_run_166 rfl (tgt := 131) ?_
                        obtain rfl := Option.some.inj h
                        exact ih35 _ _ (iwr _) (lpL hk35)
                exact hL35 FU _ _ (by decide) hb35
          exact hL30 FU _ _ (by decide) hb30
        have hL24 : ∀ (n : Nat) (x25 : Int) (σ26 : St) , InI x25 → lpN (fun a => m_X12_run_L100 a.1 a.2) n (x25, σ26) = some b24 → GM w p l e rm_X12_run s m args below meth c (some (iv y)) (InI y) σ' 4 100 [some (rv w 170), none, some (iv x25), none] [] σ26 := by
          intro n
          induction n with
          | zero => intro x25 σ26 ix25 q; cases q
          | succ n ih24 =>
            intro x25 σ26 ix25 q
            obtain ⟨o24, h, hk24⟩ := lp_step q
            replace h : m_X12_run_L100 x25 σ26 = some o24 := h
            unfold m_X12_run_L100 at h
            refine g_iload_n C dX12_run_100 rfl ?_
            refine g_bipush C dX12_run_101 rfl ?_
            refine g_icmp_ge C dX12_run_103 ix25 (by decide) rfl (tgt := 119) (fun c27 => ?_) (fun c27 => ?_)
            · have h := ifT c27 h
              refine g_mask [true, true, false, true] ?_
              obtain rfl := Option.some.inj h
              exact hX24 σ26 (lpR hk24).symm
            · have h := ifF c27 h
              refine g_aload_n C dX12_run_106 rfl ?_
              refine g_getR (j := 54) C dX12_run_107 rfl (Nat.le_of_ble_eq_true rfl) (Nat.le_of_ble_eq_true rfl) fl_12_128 rfl rfl (r := 206) rfl ?_
              refine g_iload_n C dX12_run_110 rfl ?_
              refine g_iconst C dX12_run_111 ?_
              obtain ⟨σ28, qσ28, h⟩ := bnd h
              refine g_iast C dX12_run_112 rfl rfl qσ28 ix25 (by decide) ?_
              refine g_iinc (L1 := [some (rv w 170), none, some (iv (wr (x25 + 1))), none]) C dX12_run_113 rfl rfl (Nat.le_of_ble_eq_true rfl) rfl ?_
              refine g_goto C dX12_run_116 rfl (tgt := 100) ?_
              obtain rfl := Option.some.inj h
              exact ih24 _ _ (iwr _) (lpL hk24)
        exact hL24 FU _ _ (by decide) hb24
      have hL18 : ∀ (n : Nat) (x19 : Int) (σ20 : St) , InI x19 → lpN (fun a => m_X12_run_L79 a.1 a.2) n (x19, σ20) = some b18 → GM w p l e rm_X12_run s m args below meth c (some (iv y)) (InI y) σ' 4 79 [some (rv w 170), none, some (iv x19), none] [] σ20 := by
        intro n
        induction n with
        | zero => intro x19 σ20 ix19 q; cases q
        | succ n ih18 =>
          intro x19 σ20 ix19 q
          obtain ⟨o18, h, hk18⟩ := lp_step q
          replace h : m_X12_run_L79 x19 σ20 = some o18 := h
          unfold m_X12_run_L79 at h
          refine g_iload_n C dX12_run_79 rfl ?_
          refine g_bipush C dX12_run_80 rfl ?_
          refine g_icmp_ge C dX12_run_82 ix19 (by decide) rfl (tgt := 98) (fun c21 => ?_) (fun c21 => ?_)
          · have h := ifT c21 h
            refine g_mask [true, true, false, true] ?_
            obtain rfl := Option.some.inj h
            exact hX18 σ20 (lpR hk18).symm
          · have h := ifF c21 h
            refine g_aload_n C dX12_run_85 rfl ?_
            refine g_getR (j := 53) C dX12_run_86 rfl (Nat.le_of_ble_eq_true rfl) (Nat.le_of_ble_eq_true rfl) fl_12_125 rfl rfl (r := 205) rfl ?_
            refine g_iload_n C dX12_run_89 rfl ?_
            refine g_iconst C dX12_run_90 ?_
            obtain ⟨σ22, qσ22, h⟩ := bnd h
            refine g_iast C dX12_run_91 rfl rfl qσ22 ix19 (by decide) ?_
            refine g_iinc (L1 := [some (rv w 170), none, some (iv (wr (x19 + 1))), none]) C dX12_run_92 rfl rfl (Nat.le_of_ble_eq_true rfl) rfl ?_
            refine g_goto C dX12_run_95 rfl (tgt := 79) ?_
            obtain rfl := Option.some.inj h
            exact ih18 _ _ (iwr _) (lpL hk18)
      exact hL18 FU _ _ (by decide) hb18
    have hL10 : ∀ (n : Nat) (x11 : Int) (σ12 : St) , InI x11 → lpN (fun a => m_X12_run_L44 a.1 a.2) n (x11, σ12) = some b10 → GM w p l e rm_X12_run s m args below meth c (some (iv y)) (InI y) σ' 4 44 [some (rv w 170), none, some (iv x11), none] [] σ12 := by
      intro n
      induction n with
      | zero => intro x11 σ12 ix11 q; cases q
      | succ n ih10 =>
        intro x11 σ12 ix11 q
        obtain ⟨o10, h, hk10⟩ := lp_step q
        replace h : m_X12_run_L44 x11 σ12 = some o10 := h
        unfold m_X12_run_L44 at h
        refine g_iload_n C dX12_run_44 rfl ?_
        refine g_bipush C dX12_run_45 rfl ?_
        refine g_icmp_ge C dX12_run_47 ix11 (by decide) rfl (tgt := 77) (fun c13 => ?_) (fun c13 => ?_)
        · have h := ifT c13 h
          refine g_mask [true, true, false, true] ?_
          obtain rfl := Option.some.inj h
          exact hX10 σ12 (lpR hk10).symm
        · have h := ifF c13 h
          refine g_aload_n C dX12_run_50 rfl ?_
          refine g_getR (j := 50) C dX12_run_51 rfl (Nat.le_of_ble_eq_true rfl) (Nat.le_of_ble_eq_true rfl) fl_12_116 rfl rfl (r := 202) rfl ?_
          refine g_iload_n C dX12_run_54 rfl ?_
          refine g_iconst C dX12_run_55 ?_
          obtain ⟨σ14, qσ14, h⟩ := bnd h
          refine g_iast C dX12_run_56 rfl rfl qσ14 ix11 (by decide) ?_
          refine g_aload_n C dX12_run_57 rfl ?_
          refine g_getR (j := 51) C dX12_run_58 rfl (Nat.le_of_ble_eq_true rfl) (Nat.le_of_ble_eq_true rfl) fl_12_119 rfl rfl (r := 203) rfl ?_
          refine g_iload_n C dX12_run_61 rfl ?_
          refine g_iconst C dX12_run_62 ?_
          obtain ⟨σ15, qσ15, h⟩ := bnd h
          refine g_iast C dX12_run_63 rfl rfl qσ15 ix11 (by decide) ?_
          refine g_aload_n C dX12_run_64 rfl ?_
          refine g_getR (j := 55) C dX12_run_65 rfl (Nat.le_of_ble_eq_true rfl) (Nat.le_of_ble_eq_true rfl) fl_12_131 rfl rfl (r := 207) rfl ?_
          refine g_iload_n C dX12_run_68 rfl ?_
          refine g_iconst C dX12_run_69 ?_
          obtain ⟨σ16, qσ16, h⟩ := bnd h
          refine g_iast C dX12_run_70 rfl rfl qσ16 ix11 (by decide) ?_
          refine g_iinc (L1 := [some (rv w 170), none, some (iv (wr (x11 + 1))), none]) C dX12_run_71 rfl rfl (Nat.le_of_ble_eq_true rfl) rfl ?_
          refine g_goto C dX12_run_74 rfl (tgt := 44) ?_
          obtain rfl := Option.some.inj h
          exact ih10 _ _ (iwr _) (lpL hk10)
    exact hL10 FU _ _ (by decide) hb10
  · have h := ifT c3 h
    refine g_iconst C dX12_run_13 ?_
    exact g_iretP C dX12_run_14 hr hlk h (by decide)
theorem dX12_ran_0 : decode cX12_ran 0 = .ok (.iload_n 1, 1) := by decide +kernel
theorem dX12_ran_1 : decode cX12_ran 1 = .ok (.ifCond .lt 15, 3) := by decide +kernel
theorem dX12_ran_4 : decode cX12_ran 4 = .ok (.iload_n 1, 1) := by decide +kernel
theorem dX12_ran_5 : decode cX12_ran 5 = .ok (.aload_n 0, 1) := by decide +kernel
theorem dX12_ran_6 : decode cX12_ran 6 = .ok (.getfield 110, 3) := by decide +kernel
theorem dX12_ran_9 : decode cX12_ran 9 = .ok (.if_icmp .ge 7, 3) := by decide +kernel
theorem dX12_ran_12 : decode cX12_ran 12 = .ok (.iconst 1, 1) := by decide +kernel
theorem dX12_ran_13 : decode cX12_ran 13 = .ok (.goto 4, 3) := by decide +kernel
theorem dX12_ran_16 : decode cX12_ran 16 = .ok (.iconst 0, 1) := by decide +kernel
theorem dX12_ran_17 : decode cX12_ran 17 = .ok (.ireturn, 1) := by decide +kernel
abbrev rm_X12_ran : Room := { frames := 0, cells := 0, slots := 0, locals := 0 }
set_option maxRecDepth 100000 in
set_option maxHeartbeats 4000000 in
theorem ct_X12_ran {w : Wd} {l : Launch} {a1 : Int} {σ : St} {y : Int} (ia1 : InI a1) (h : m_X12_ran a1 σ = some y) : Ct w l yX12_ran (Cond.code yX12_ran cX12_ran 2 (some .boolean) :: TB) rm_X12_ran [rv w 170, iv a1] σ (some (iv y)) (InZ y) σ := by
  refine Ct.of2 [some (rv w 170), some (iv a1)] 0 rfl pn_RX12 (Nat.le_of_ble_eq_true rfl) ?_
  intro p e s m args below meth c C hr hlk
  unfold m_X12_ran at h
  refine g_iload_n C dX12_ran_0 rfl ?_
  refine g_if_lt C dX12_ran_1 ia1 rfl (tgt := 16) (fun c1 => ?_) (fun c1 => ?_)
  · have h := ifT c1 h
    refine g_iconst C dX12_ran_16 ?_
    exact g_zretU C dX12_ran_17 hr hlk h (Or.inl rfl)
  · have h := ifF c1 h
    refine g_iload_n C dX12_ran_4 rfl ?_
    refine g_aload_n C dX12_ran_5 rfl ?_
    refine g_getI (j := 48) C dX12_ran_6 rfl (Nat.le_of_ble_eq_true rfl) (Nat.le_of_ble_eq_true rfl) fl_12_110 rfl rfl (fun i2 => ?_)
    refine g_icmp_ge C dX12_ran_9 ia1 i2 rfl (tgt := 16) (fun c3 => ?_) (fun c3 => ?_)
    · have h := ifT c3 h
      refine g_iconst C dX12_ran_16 ?_
      exact g_zretU C dX12_ran_17 hr hlk h (Or.inl rfl)
    · have h := ifF c3 h
      refine g_iconst C dX12_ran_12 ?_
      refine g_goto C dX12_ran_13 rfl (tgt := 17) ?_
      exact g_zretU C dX12_ran_17 hr hlk h (Or.inr rfl)
theorem dX12_where_0 : decode cX12_where 0 = .ok (.aload_n 0, 1) := by decide +kernel
theorem dX12_where_1 : decode cX12_where 1 = .ok (.iconst 0, 1) := by decide +kernel
theorem dX12_where_2 : decode cX12_where 2 = .ok (.putfield 1, 3) := by decide +kernel
theorem dX12_where_5 : decode cX12_where 5 = .ok (.aload_n 0, 1) := by decide +kernel
theorem dX12_where_6 : decode cX12_where 6 = .ok (.iload_n 1, 1) := by decide +kernel
theorem dX12_where_7 : decode cX12_where 7 = .ok (.invokevirtual 419, 3) := by decide +kernel
theorem dX12_where_10 : decode cX12_where 10 = .ok (.ifCond .eq 24, 3) := by decide +kernel
theorem dX12_where_13 : decode cX12_where 13 = .ok (.iload_n 2, 1) := by decide +kernel
theorem dX12_where_14 : decode cX12_where 14 = .ok (.invokestatic 359, 3) := by decide +kernel
theorem dX12_where_17 : decode cX12_where 17 = .ok (.ifCond .eq 17, 3) := by decide +kernel
theorem dX12_where_20 : decode cX12_where 20 = .ok (.aload_n 0, 1) := by decide +kernel
theorem dX12_where_21 : decode cX12_where 21 = .ok (.getfield 113, 3) := by decide +kernel
theorem dX12_where_24 : decode cX12_where 24 = .ok (.bipush 96, 2) := by decide +kernel
theorem dX12_where_26 : decode cX12_where 26 = .ok (.iload_n 1, 1) := by decide +kernel
theorem dX12_where_27 : decode cX12_where 27 = .ok (.imul, 1) := by decide +kernel
theorem dX12_where_28 : decode cX12_where 28 = .ok (.iload_n 2, 1) := by decide +kernel
theorem dX12_where_29 : decode cX12_where 29 = .ok (.iadd, 1) := by decide +kernel
theorem dX12_where_30 : decode cX12_where 30 = .ok (.iaload, 1) := by decide +kernel
theorem dX12_where_31 : decode cX12_where 31 = .ok (.goto 4, 3) := by decide +kernel
theorem dX12_where_34 : decode cX12_where 34 = .ok (.iconst (-1), 1) := by decide +kernel
theorem dX12_where_35 : decode cX12_where 35 = .ok (.ireturn, 1) := by decide +kernel
abbrev rm_X12_where : Room := { frames := 1, cells := 0, slots := 0, locals := 21 }
set_option maxRecDepth 100000 in
set_option maxHeartbeats 4000000 in
theorem ct_X12_where {w : Wd} {l : Launch} {a1 : Int} {a2 : Int} {σ : St} {y : Int} {σ' : St} (ia1 : InI a1) (ia2 : InI a2) (h : m_X12_where a1 a2 σ = some (y, σ')) : Ct w l yX12_where (Cond.code yX12_where cX12_where 3 (some .int) :: TB) rm_X12_where [rv w 170, iv a1, iv a2] σ (some (iv y)) (InI y) σ' := by
  refine Ct.of2 [some (rv w 170), some (iv a1), some (iv a2)] 0 rfl pn_RX12 (Nat.le_of_ble_eq_true rfl) ?_
  intro p e s m args below meth c C hr hlk
  unfold m_X12_where at h
  refine g_aload_n C dX12_where_0 rfl ?_
  refine g_iconst C dX12_where_1 ?_
  obtain ⟨σ1, qσ1, h⟩ := bnd h
  refine g_putI (j := 0) C dX12_where_2 rfl (Nat.le_of_ble_eq_true rfl) (Nat.le_of_ble_eq_true rfl) fl_12_1 rfl rfl rfl rfl qσ1 (by decide) ?_
  refine g_aload_n C dX12_where_5 rfl ?_
  refine g_iload_n C dX12_where_6 rfl ?_
  obtain ⟨x2, qx2, h⟩ := bnd h
  refine g_callV1 (As := [iv a1]) C dX12_where_7 mi_X12_ran ml_12_419 (ct_X12_ran ia1 qx2) rfl rfl ⟨rfl, rfl⟩ ⟨Nat.le_of_ble_eq_true rfl, Nat.le_of_ble_eq_true rfl⟩ ⟨Nat.zero_le _, Nat.zero_le _⟩ rfl (Nat.le_of_ble_eq_true rfl) (fun ix2 => ?_)
  refine g_if_eq C dX12_where_10 (zI ix2) rfl (tgt := 34) (fun c3 => ?_) (fun c3 => ?_)
  · have h := ifT c3 h
    refine g_iconst C dX12_where_34 ?_
    exact g_iretP C dX12_where_35 hr hlk h (by decide)
  · have h := ifF c3 h
    refine g_iload_n C dX12_where_13 rfl ?_
    obtain ⟨x4, qx4, h⟩ := bnd h
    refine g_callS1 (As := [iv a2]) C dX12_where_14 mi_X12_isTick ml_12_359 (ct_X12_isTick ia2 qx4) rfl ⟨rfl, rfl⟩ ⟨Nat.le_of_ble_eq_true rfl, Nat.le_of_ble_eq_true rfl⟩ ⟨Nat.zero_le _, Nat.zero_le _⟩ rfl (Nat.le_of_ble_eq_true rfl) (fun ix4 => ?_)
    refine g_if_eq C dX12_where_17 (zI ix4) rfl (tgt := 34) (fun c5 => ?_) (fun c5 => ?_)
    · have h := ifT c5 h
      refine g_iconst C dX12_where_34 ?_
      exact g_iretP C dX12_where_35 hr hlk h (by decide)
    · have h := ifF c5 h
      refine g_aload_n C dX12_where_20 rfl ?_
      refine g_getR (j := 49) C dX12_where_21 rfl (Nat.le_of_ble_eq_true rfl) (Nat.le_of_ble_eq_true rfl) fl_12_113 rfl rfl (r := 201) rfl ?_
      refine g_bipush C dX12_where_24 rfl ?_
      refine g_iload_n C dX12_where_26 rfl ?_
      refine g_imul C dX12_where_27 ?_
      refine g_iload_n C dX12_where_28 rfl ?_
      refine g_iadd C dX12_where_29 ?_
      obtain ⟨x6, qx6, h⟩ := bnd h
      refine g_iald C dX12_where_30 rfl rfl qx6 (iwr _) (fun ix6 => ?_)
      refine g_goto C dX12_where_31 rfl (tgt := 35) ?_
      exact g_iretP C dX12_where_35 hr hlk h ix6
theorem dX12_isSecret_0 : decode cX12_isSecret 0 = .ok (.iload_n 0, 1) := by decide +kernel
theorem dX12_isSecret_1 : decode cX12_isSecret 1 = .ok (.ifCond .lt 13, 3) := by decide +kernel
theorem dX12_isSecret_4 : decode cX12_isSecret 4 = .ok (.iload_n 0, 1) := by decide +kernel
theorem dX12_isSecret_5 : decode cX12_isSecret 5 = .ok (.bipush 8, 2) := by decide +kernel
theorem dX12_isSecret_7 : decode cX12_isSecret 7 = .ok (.if_icmp .ge 7, 3) := by decide +kernel
theorem dX12_isSecret_10 : decode cX12_isSecret 10 = .ok (.iconst 1, 1) := by decide +kernel
theorem dX12_isSecret_11 : decode cX12_isSecret 11 = .ok (.goto 4, 3) := by decide +kernel
theorem dX12_isSecret_14 : decode cX12_isSecret 14 = .ok (.iconst 0, 1) := by decide +kernel
theorem dX12_isSecret_15 : decode cX12_isSecret 15 = .ok (.ireturn, 1) := by decide +kernel
abbrev rm_X12_isSecret : Room := { frames := 0, cells := 0, slots := 0, locals := 0 }
set_option maxRecDepth 100000 in
set_option maxHeartbeats 4000000 in
theorem ct_X12_isSecret {w : Wd} {l : Launch} {a1 : Int} {σ : St} {y : Int} (ia1 : InI a1) (h : m_X12_isSecret a1 σ = some y) : Ct w l yX12_isSecret (Cond.code yX12_isSecret cX12_isSecret 1 (some .boolean) :: TB) rm_X12_isSecret [iv a1] σ (some (iv y)) (InZ y) σ := by
  refine Ct.of2 [some (iv a1)] 0 rfl pn_RX12 (Nat.le_of_ble_eq_true rfl) ?_
  intro p e s m args below meth c C hr hlk
  unfold m_X12_isSecret at h
  refine g_iload_n C dX12_isSecret_0 rfl ?_
  refine g_if_lt C dX12_isSecret_1 ia1 rfl (tgt := 14) (fun c1 => ?_) (fun c1 => ?_)
  · have h := ifT c1 h
    refine g_iconst C dX12_isSecret_14 ?_
    exact g_zretU C dX12_isSecret_15 hr hlk h (Or.inl rfl)
  · have h := ifF c1 h
    refine g_iload_n C dX12_isSecret_4 rfl ?_
    refine g_bipush C dX12_isSecret_5 rfl ?_
    refine g_icmp_ge C dX12_isSecret_7 ia1 (by decide) rfl (tgt := 14) (fun c2 => ?_) (fun c2 => ?_)
    · have h := ifT c2 h
      refine g_iconst C dX12_isSecret_14 ?_
      exact g_zretU C dX12_isSecret_15 hr hlk h (Or.inl rfl)
    · have h := ifF c2 h
      refine g_iconst C dX12_isSecret_10 ?_
      refine g_goto C dX12_isSecret_11 rfl (tgt := 15) ?_
      exact g_zretU C dX12_isSecret_15 hr hlk h (Or.inr rfl)
theorem dX12_knows_0 : decode cX12_knows 0 = .ok (.aload_n 0, 1) := by decide +kernel
theorem dX12_knows_1 : decode cX12_knows 1 = .ok (.iconst 0, 1) := by decide +kernel
theorem dX12_knows_2 : decode cX12_knows 2 = .ok (.putfield 1, 3) := by decide +kernel
theorem dX12_knows_5 : decode cX12_knows 5 = .ok (.aload_n 0, 1) := by decide +kernel
theorem dX12_knows_6 : decode cX12_knows 6 = .ok (.iload_n 1, 1) := by decide +kernel
theorem dX12_knows_7 : decode cX12_knows 7 = .ok (.invokevirtual 419, 3) := by decide +kernel
theorem dX12_knows_10 : decode cX12_knows 10 = .ok (.ifCond .eq 24, 3) := by decide +kernel
theorem dX12_knows_13 : decode cX12_knows 13 = .ok (.iload_n 2, 1) := by decide +kernel
theorem dX12_knows_14 : decode cX12_knows 14 = .ok (.invokestatic 422, 3) := by decide +kernel
theorem dX12_knows_17 : decode cX12_knows 17 = .ok (.ifCond .eq 17, 3) := by decide +kernel
theorem dX12_knows_20 : decode cX12_knows 20 = .ok (.aload_n 0, 1) := by decide +kernel
theorem dX12_knows_21 : decode cX12_knows 21 = .ok (.getfield 116, 3) := by decide +kernel
theorem dX12_knows_24 : decode cX12_knows 24 = .ok (.bipush 8, 2) := by decide +kernel
theorem dX12_knows_26 : decode cX12_knows 26 = .ok (.iload_n 1, 1) := by decide +kernel
theorem dX12_knows_27 : decode cX12_knows 27 = .ok (.imul, 1) := by decide +kernel
theorem dX12_knows_28 : decode cX12_knows 28 = .ok (.iload_n 2, 1) := by decide +kernel
theorem dX12_knows_29 : decode cX12_knows 29 = .ok (.iadd, 1) := by decide +kernel
theorem dX12_knows_30 : decode cX12_knows 30 = .ok (.iaload, 1) := by decide +kernel
theorem dX12_knows_31 : decode cX12_knows 31 = .ok (.goto 4, 3) := by decide +kernel
theorem dX12_knows_34 : decode cX12_knows 34 = .ok (.iconst (-1), 1) := by decide +kernel
theorem dX12_knows_35 : decode cX12_knows 35 = .ok (.ireturn, 1) := by decide +kernel
abbrev rm_X12_knows : Room := { frames := 1, cells := 0, slots := 0, locals := 21 }
set_option maxRecDepth 100000 in
set_option maxHeartbeats 4000000 in
theorem ct_X12_knows {w : Wd} {l : Launch} {a1 : Int} {a2 : Int} {σ : St} {y : Int} {σ' : St} (ia1 : InI a1) (ia2 : InI a2) (h : m_X12_knows a1 a2 σ = some (y, σ')) : Ct w l yX12_knows (Cond.code yX12_knows cX12_knows 3 (some .int) :: TB) rm_X12_knows [rv w 170, iv a1, iv a2] σ (some (iv y)) (InI y) σ' := by
  refine Ct.of2 [some (rv w 170), some (iv a1), some (iv a2)] 0 rfl pn_RX12 (Nat.le_of_ble_eq_true rfl) ?_
  intro p e s m args below meth c C hr hlk
  unfold m_X12_knows at h
  refine g_aload_n C dX12_knows_0 rfl ?_
  refine g_iconst C dX12_knows_1 ?_
  obtain ⟨σ1, qσ1, h⟩ := bnd h
  refine g_putI (j := 0) C dX12_knows_2 rfl (Nat.le_of_ble_eq_true rfl) (Nat.le_of_ble_eq_true rfl) fl_12_1 rfl rfl rfl rfl qσ1 (by decide) ?_
  refine g_aload_n C dX12_knows_5 rfl ?_
  refine g_iload_n C dX12_knows_6 rfl ?_
  obtain ⟨x2, qx2, h⟩ := bnd h
  refine g_callV1 (As := [iv a1]) C dX12_knows_7 mi_X12_ran ml_12_419 (ct_X12_ran ia1 qx2) rfl rfl ⟨rfl, rfl⟩ ⟨Nat.le_of_ble_eq_true rfl, Nat.le_of_ble_eq_true rfl⟩ ⟨Nat.zero_le _, Nat.zero_le _⟩ rfl (Nat.le_of_ble_eq_true rfl) (fun ix2 => ?_)
  refine g_if_eq C dX12_knows_10 (zI ix2) rfl (tgt := 34) (fun c3 => ?_) (fun c3 => ?_)
  · have h := ifT c3 h
    refine g_iconst C dX12_knows_34 ?_
    exact g_iretP C dX12_knows_35 hr hlk h (by decide)
  · have h := ifF c3 h
    refine g_iload_n C dX12_knows_13 rfl ?_
    obtain ⟨x4, qx4, h⟩ := bnd h
    refine g_callS1 (As := [iv a2]) C dX12_knows_14 mi_X12_isSecret ml_12_422 (ct_X12_isSecret ia2 qx4) rfl ⟨rfl, rfl⟩ ⟨Nat.le_of_ble_eq_true rfl, Nat.le_of_ble_eq_true rfl⟩ ⟨Nat.zero_le _, Nat.zero_le _⟩ rfl (Nat.le_of_ble_eq_true rfl) (fun ix4 => ?_)
    refine g_if_eq C dX12_knows_17 (zI ix4) rfl (tgt := 34) (fun c5 => ?_) (fun c5 => ?_)
    · have h := ifT c5 h
      refine g_iconst C dX12_knows_34 ?_
      exact g_iretP C dX12_knows_35 hr hlk h (by decide)
    · have h := ifF c5 h
      refine g_aload_n C dX12_knows_20 rfl ?_
      refine g_getR (j := 50) C dX12_knows_21 rfl (Nat.le_of_ble_eq_true rfl) (Nat.le_of_ble_eq_true rfl) fl_12_116 rfl rfl (r := 202) rfl ?_
      refine g_bipush C dX12_knows_24 rfl ?_
      refine g_iload_n C dX12_knows_26 rfl ?_
      refine g_imul C dX12_knows_27 ?_
      refine g_iload_n C dX12_knows_28 rfl ?_
      refine g_iadd C dX12_knows_29 ?_
      obtain ⟨x6, qx6, h⟩ := bnd h
      refine g_iald C dX12_knows_30 rfl rfl qx6 (iwr _) (fun ix6 => ?_)
      refine g_goto C dX12_knows_31 rfl (tgt := 35) ?_
      exact g_iretP C dX12_knows_35 hr hlk h ix6
theorem dX12_chain_0 : decode cX12_chain 0 = .ok (.aload_n 0, 1) := by decide +kernel
theorem dX12_chain_1 : decode cX12_chain 1 = .ok (.iconst 0, 1) := by decide +kernel
theorem dX12_chain_2 : decode cX12_chain 2 = .ok (.putfield 1, 3) := by decide +kernel
theorem dX12_chain_5 : decode cX12_chain 5 = .ok (.aload_n 0, 1) := by decide +kernel
theorem dX12_chain_6 : decode cX12_chain 6 = .ok (.iload_n 1, 1) := by decide +kernel
theorem dX12_chain_7 : decode cX12_chain 7 = .ok (.invokevirtual 419, 3) := by decide +kernel
theorem dX12_chain_10 : decode cX12_chain 10 = .ok (.ifCond .eq 29, 3) := by decide +kernel
theorem dX12_chain_13 : decode cX12_chain 13 = .ok (.iload_n 2, 1) := by decide +kernel
theorem dX12_chain_14 : decode cX12_chain 14 = .ok (.invokestatic 422, 3) := by decide +kernel
theorem dX12_chain_17 : decode cX12_chain 17 = .ok (.ifCond .eq 22, 3) := by decide +kernel
theorem dX12_chain_20 : decode cX12_chain 20 = .ok (.iload_n 3, 1) := by decide +kernel
theorem dX12_chain_21 : decode cX12_chain 21 = .ok (.ifCond .lt 18, 3) := by decide +kernel
theorem dX12_chain_24 : decode cX12_chain 24 = .ok (.aload_n 0, 1) := by decide +kernel
theorem dX12_chain_25 : decode cX12_chain 25 = .ok (.getfield 116, 3) := by decide +kernel
theorem dX12_chain_28 : decode cX12_chain 28 = .ok (.bipush 8, 2) := by decide +kernel
theorem dX12_chain_30 : decode cX12_chain 30 = .ok (.iload_n 1, 1) := by decide +kernel
theorem dX12_chain_31 : decode cX12_chain 31 = .ok (.imul, 1) := by decide +kernel
theorem dX12_chain_32 : decode cX12_chain 32 = .ok (.iload_n 2, 1) := by decide +kernel
theorem dX12_chain_33 : decode cX12_chain 33 = .ok (.iadd, 1) := by decide +kernel
theorem dX12_chain_34 : decode cX12_chain 34 = .ok (.iaload, 1) := by decide +kernel
theorem dX12_chain_35 : decode cX12_chain 35 = .ok (.iconst (-1), 1) := by decide +kernel
theorem dX12_chain_36 : decode cX12_chain 36 = .ok (.if_icmp .ne 5, 3) := by decide +kernel
theorem dX12_chain_39 : decode cX12_chain 39 = .ok (.iconst (-1), 1) := by decide +kernel
theorem dX12_chain_40 : decode cX12_chain 40 = .ok (.ireturn, 1) := by decide +kernel
theorem dX12_chain_41 : decode cX12_chain 41 = .ok (.iload_n 1, 1) := by decide +kernel
theorem dX12_chain_42 : decode cX12_chain 42 = .ok (.istore 4, 2) := by decide +kernel
theorem dX12_chain_44 : decode cX12_chain 44 = .ok (.iload_n 3, 1) := by decide +kernel
theorem dX12_chain_45 : decode cX12_chain 45 = .ok (.istore 5, 2) := by decide +kernel
theorem dX12_chain_47 : decode cX12_chain 47 = .ok (.iload 5, 2) := by decide +kernel
theorem dX12_chain_49 : decode cX12_chain 49 = .ok (.ifCond .le 29, 3) := by decide +kernel
theorem dX12_chain_52 : decode cX12_chain 52 = .ok (.iload 4, 2) := by decide +kernel
theorem dX12_chain_54 : decode cX12_chain 54 = .ok (.iconst (-1), 1) := by decide +kernel
theorem dX12_chain_55 : decode cX12_chain 55 = .ok (.if_icmp .eq 23, 3) := by decide +kernel
theorem dX12_chain_58 : decode cX12_chain 58 = .ok (.aload_n 0, 1) := by decide +kernel
theorem dX12_chain_59 : decode cX12_chain 59 = .ok (.getfield 119, 3) := by decide +kernel
theorem dX12_chain_62 : decode cX12_chain 62 = .ok (.bipush 8, 2) := by decide +kernel
theorem dX12_chain_64 : decode cX12_chain 64 = .ok (.iload 4, 2) := by decide +kernel
theorem dX12_chain_66 : decode cX12_chain 66 = .ok (.imul, 1) := by decide +kernel
theorem dX12_chain_67 : decode cX12_chain 67 = .ok (.iload_n 2, 1) := by decide +kernel
theorem dX12_chain_68 : decode cX12_chain 68 = .ok (.iadd, 1) := by decide +kernel
theorem dX12_chain_69 : decode cX12_chain 69 = .ok (.iaload, 1) := by decide +kernel
theorem dX12_chain_70 : decode cX12_chain 70 = .ok (.istore 4, 2) := by decide +kernel
theorem dX12_chain_72 : decode cX12_chain 72 = .ok (.iinc 5 (-1), 3) := by decide +kernel
theorem dX12_chain_75 : decode cX12_chain 75 = .ok (.goto (-28), 3) := by decide +kernel
theorem dX12_chain_78 : decode cX12_chain 78 = .ok (.iload 4, 2) := by decide +kernel
theorem dX12_chain_80 : decode cX12_chain 80 = .ok (.ireturn, 1) := by decide +kernel
abbrev rm_X12_chain : Room := { frames := 1, cells := 0, slots := 0, locals := 21 }
set_option maxRecDepth 100000 in
set_option maxHeartbeats 4000000 in
theorem ct_X12_chain {w : Wd} {l : Launch} {a1 : Int} {a2 : Int} {a3 : Int} {σ : St} {y : Int} {σ' : St} (ia1 : InI a1) (ia2 : InI a2) (ia3 : InI a3) (h : m_X12_chain a1 a2 a3 σ = some (y, σ')) : Ct w l yX12_chain (Cond.code yX12_chain cX12_chain 6 (some .int) :: TB) rm_X12_chain [rv w 170, iv a1, iv a2, iv a3] σ (some (iv y)) (InI y) σ' := by
  refine Ct.of2 [some (rv w 170), some (iv a1), some (iv a2), some (iv a3), none, none] 2 rfl pn_RX12 (Nat.le_of_ble_eq_true rfl) ?_
  intro p e s m args below meth c C hr hlk
  unfold m_X12_chain at h
  refine g_aload_n C dX12_chain_0 rfl ?_
  refine g_iconst C dX12_chain_1 ?_
  obtain ⟨σ1, qσ1, h⟩ := bnd h
  refine g_putI (j := 0) C dX12_chain_2 rfl (Nat.le_of_ble_eq_true rfl) (Nat.le_of_ble_eq_true rfl) fl_12_1 rfl rfl rfl rfl qσ1 (by decide) ?_
  refine g_aload_n C dX12_chain_5 rfl ?_
  refine g_iload_n C dX12_chain_6 rfl ?_
  obtain ⟨x2, qx2, h⟩ := bnd h
  refine g_callV1 (As := [iv a1]) C dX12_chain_7 mi_X12_ran ml_12_419 (ct_X12_ran ia1 qx2) rfl rfl ⟨rfl, rfl⟩ ⟨Nat.le_of_ble_eq_true rfl, Nat.le_of_ble_eq_true rfl⟩ ⟨Nat.zero_le _, Nat.zero_le _⟩ rfl (Nat.le_of_ble_eq_true rfl) (fun ix2 => ?_)
  refine g_if_eq C dX12_chain_10 (zI ix2) rfl (tgt := 39) (fun c3 => ?_) (fun c3 => ?_)
  · have h := ifT c3 h
    refine g_iconst C dX12_chain_39 ?_
    exact g_iretP C dX12_chain_40 hr hlk h (by decide)
  · have h := ifF c3 h
    refine g_iload_n C dX12_chain_13 rfl ?_
    obtain ⟨x4, qx4, h⟩ := bnd h
    refine g_callS1 (As := [iv a2]) C dX12_chain_14 mi_X12_isSecret ml_12_422 (ct_X12_isSecret ia2 qx4) rfl ⟨rfl, rfl⟩ ⟨Nat.le_of_ble_eq_true rfl, Nat.le_of_ble_eq_true rfl⟩ ⟨Nat.zero_le _, Nat.zero_le _⟩ rfl (Nat.le_of_ble_eq_true rfl) (fun ix4 => ?_)
    refine g_if_eq C dX12_chain_17 (zI ix4) rfl (tgt := 39) (fun c5 => ?_) (fun c5 => ?_)
    · have h := ifT c5 h
      refine g_iconst C dX12_chain_39 ?_
      exact g_iretP C dX12_chain_40 hr hlk h (by decide)
    · have h := ifF c5 h
      refine g_iload_n C dX12_chain_20 rfl ?_
      refine g_if_lt C dX12_chain_21 ia3 rfl (tgt := 39) (fun c6 => ?_) (fun c6 => ?_)
      · have h := ifT c6 h
        refine g_iconst C dX12_chain_39 ?_
        exact g_iretP C dX12_chain_40 hr hlk h (by decide)
      · have h := ifF c6 h
        refine g_aload_n C dX12_chain_24 rfl ?_
        refine g_getR (j := 50) C dX12_chain_25 rfl (Nat.le_of_ble_eq_true rfl) (Nat.le_of_ble_eq_true rfl) fl_12_116 rfl rfl (r := 202) rfl ?_
        refine g_bipush C dX12_chain_28 rfl ?_
        refine g_iload_n C dX12_chain_30 rfl ?_
        refine g_imul C dX12_chain_31 ?_
        refine g_iload_n C dX12_chain_32 rfl ?_
        refine g_iadd C dX12_chain_33 ?_
        obtain ⟨x7, qx7, h⟩ := bnd h
        refine g_iald C dX12_chain_34 rfl rfl qx7 (iwr _) (fun ix7 => ?_)
        refine g_iconst C dX12_chain_35 ?_
        refine g_icmp_ne C dX12_chain_36 ix7 (by decide) rfl (tgt := 41) (fun c8 => ?_) (fun c8 => ?_)
        · have h := ifF c8 h
          refine g_iload_n C dX12_chain_41 rfl ?_
          refine g_istore (L1 := [some (rv w 170), some (iv a1), some (iv a2), some (iv a3), some (iv a1), none]) C dX12_chain_42 rfl (Nat.le_of_ble_eq_true rfl) rfl ?_
          refine g_iload_n C dX12_chain_44 rfl ?_
          refine g_istore (L1 := [some (rv w 170), some (iv a1), some (iv a2), some (iv a3), some (iv a1), some (iv a3)]) C dX12_chain_45 rfl (Nat.le_of_ble_eq_true rfl) rfl ?_
          refine g_mask [true, false, true, false, true, true] ?_
          obtain ⟨b9, hb9, hF9⟩ := bnd h
          have hX9 : ∀ (x15 : Int) , InI x15 → x15 = b9 → GM w p l e rm_X12_chain s m args below meth c (some (iv y)) (InI y) σ' 6 78 [none, none, none, none, some (iv x15), none] [] σ1 := by
            intro x15 ix15 q
            subst q
            have h := hF9
            refine g_iload C dX12_chain_78 rfl ?_
            exact g_iretP C dX12_chain_80 hr hlk h ix15
          have hL9 : ∀ (n : Nat) (x10 : Int) (x11 : Int) , InI x10 → InI x11 → lpN (fun a => m_X12_chain_L47 σ1 a2 a.1 a.2) n (x10, x11) = some b9 → GM w p l e rm_X12_chain s m args below meth c (some (iv y)) (InI y) σ' 6 47 [some (rv w 170), none, some (iv a2), none, some (iv x10), some (iv x11)] [] σ1 := by
            intro n
            induction n with
            | zero => intro x10 x11 ix10 ix11 q; cases q
            | succ n ih9 =>
              intro x10 x11 ix10 ix11 q
              obtain ⟨o9, h, hk9⟩ := lp_step q
              replace h : m_X12_chain_L47 σ1 a2 x10 x11 = some o9 := h
              unfold m_X12_chain_L47 at h
              refine g_iload C dX12_chain_47 rfl ?_
              refine g_if_le C dX12_chain_49 ix11 rfl (tgt := 78) (fun c12 => ?_) (fun c12 => ?_)
              · have h := ifT c12 h
                refine g_mask [false, true, false, true, true, false] ?_
                obtain rfl := Option.some.inj h
                exact hX9 x10 ix10 (lpR hk9).symm
              · have h := ifF c12 h
                refine g_iload C dX12_chain_52 rfl ?_
                refine g_iconst C dX12_chain_54 ?_
                refine g_icmp_eq C dX12_chain_55 ix10 (by decide) rfl (tgt := 78) (fun c13 => ?_) (fun c13 => ?_)
                · have h := ifT c13 h
                  refine g_mask [false, true, false, true, true, false] ?_
                  obtain rfl := Option.some.inj h
                  exact hX9 x10 ix10 (lpR hk9).symm
                · have h := ifF c13 h
                  refine g_aload_n C dX12_chain_58 rfl ?_
                  refine g_getR (j := 51) C dX12_chain_59 rfl (Nat.le_of_ble_eq_true rfl) (Nat.le_of_ble_eq_true rfl) fl_12_119 rfl rfl (r := 203) rfl ?_
                  refine g_bipush C dX12_chain_62 rfl ?_
                  refine g_iload C dX12_chain_64 rfl ?_
                  refine g_imul C dX12_chain_66 ?_
                  refine g_iload_n C dX12_chain_67 rfl ?_
                  refine g_iadd C dX12_chain_68 ?_
                  obtain ⟨x14, qx14, h⟩ := bnd h
                  refine g_iald C dX12_chain_69 rfl rfl qx14 (iwr _) (fun ix14 => ?_)
                  refine g_istore (L1 := [some (rv w 170), none, some (iv a2), none, some (iv x14), some (iv x11)]) C dX12_chain_70 rfl (Nat.le_of_ble_eq_true rfl) rfl ?_
                  refine g_iinc (L1 := [some (rv w 170), none, some (iv a2), none, some (iv x14), some (iv (wr (x11 + (-1))))]) C dX12_chain_72 rfl rfl (Nat.le_of_ble_eq_true rfl) rfl ?_
                  refine g_goto C dX12_chain_75 rfl (tgt := 47) ?_
                  obtain rfl := Option.some.inj h
                  exact ih9 _ _ ix14 (iwr _) (lpL hk9)
          exact hL9 FU _ _ ia1 ia3 hb9
        · have h := ifT c8 h
          refine g_iconst C dX12_chain_39 ?_
          exact g_iretP C dX12_chain_40 hr hlk h (by decide)
theorem dX12_has_0 : decode cX12_has 0 = .ok (.aload_n 0, 1) := by decide +kernel
theorem dX12_has_1 : decode cX12_has 1 = .ok (.iconst 0, 1) := by decide +kernel
theorem dX12_has_2 : decode cX12_has 2 = .ok (.putfield 1, 3) := by decide +kernel
theorem dX12_has_5 : decode cX12_has 5 = .ok (.aload_n 0, 1) := by decide +kernel
theorem dX12_has_6 : decode cX12_has 6 = .ok (.iload_n 1, 1) := by decide +kernel
theorem dX12_has_7 : decode cX12_has 7 = .ok (.invokevirtual 419, 3) := by decide +kernel
theorem dX12_has_10 : decode cX12_has 10 = .ok (.ifCond .eq 23, 3) := by decide +kernel
theorem dX12_has_13 : decode cX12_has 13 = .ok (.iload_n 2, 1) := by decide +kernel
theorem dX12_has_14 : decode cX12_has 14 = .ok (.invokestatic 422, 3) := by decide +kernel
theorem dX12_has_17 : decode cX12_has 17 = .ok (.ifCond .eq 16, 3) := by decide +kernel
theorem dX12_has_20 : decode cX12_has 20 = .ok (.aload_n 0, 1) := by decide +kernel
theorem dX12_has_21 : decode cX12_has 21 = .ok (.getfield 122, 3) := by decide +kernel
theorem dX12_has_24 : decode cX12_has 24 = .ok (.iload_n 1, 1) := by decide +kernel
theorem dX12_has_25 : decode cX12_has 25 = .ok (.iaload, 1) := by decide +kernel
theorem dX12_has_26 : decode cX12_has 26 = .ok (.iload_n 2, 1) := by decide +kernel
theorem dX12_has_27 : decode cX12_has 27 = .ok (.ishr, 1) := by decide +kernel
theorem dX12_has_28 : decode cX12_has 28 = .ok (.iconst 1, 1) := by decide +kernel
theorem dX12_has_29 : decode cX12_has 29 = .ok (.iand, 1) := by decide +kernel
theorem dX12_has_30 : decode cX12_has 30 = .ok (.goto 4, 3) := by decide +kernel
theorem dX12_has_33 : decode cX12_has 33 = .ok (.iconst (-1), 1) := by decide +kernel
theorem dX12_has_34 : decode cX12_has 34 = .ok (.ireturn, 1) := by decide +kernel
abbrev rm_X12_has : Room := { frames := 1, cells := 0, slots := 0, locals := 21 }
set_option maxRecDepth 100000 in
set_option maxHeartbeats 4000000 in
theorem ct_X12_has {w : Wd} {l : Launch} {a1 : Int} {a2 : Int} {σ : St} {y : Int} {σ' : St} (ia1 : InI a1) (ia2 : InI a2) (h : m_X12_has a1 a2 σ = some (y, σ')) : Ct w l yX12_has (Cond.code yX12_has cX12_has 3 (some .int) :: TB) rm_X12_has [rv w 170, iv a1, iv a2] σ (some (iv y)) (InI y) σ' := by
  refine Ct.of2 [some (rv w 170), some (iv a1), some (iv a2)] 0 rfl pn_RX12 (Nat.le_of_ble_eq_true rfl) ?_
  intro p e s m args below meth c C hr hlk
  unfold m_X12_has at h
  refine g_aload_n C dX12_has_0 rfl ?_
  refine g_iconst C dX12_has_1 ?_
  obtain ⟨σ1, qσ1, h⟩ := bnd h
  refine g_putI (j := 0) C dX12_has_2 rfl (Nat.le_of_ble_eq_true rfl) (Nat.le_of_ble_eq_true rfl) fl_12_1 rfl rfl rfl rfl qσ1 (by decide) ?_
  refine g_aload_n C dX12_has_5 rfl ?_
  refine g_iload_n C dX12_has_6 rfl ?_
  obtain ⟨x2, qx2, h⟩ := bnd h
  refine g_callV1 (As := [iv a1]) C dX12_has_7 mi_X12_ran ml_12_419 (ct_X12_ran ia1 qx2) rfl rfl ⟨rfl, rfl⟩ ⟨Nat.le_of_ble_eq_true rfl, Nat.le_of_ble_eq_true rfl⟩ ⟨Nat.zero_le _, Nat.zero_le _⟩ rfl (Nat.le_of_ble_eq_true rfl) (fun ix2 => ?_)
  refine g_if_eq C dX12_has_10 (zI ix2) rfl (tgt := 33) (fun c3 => ?_) (fun c3 => ?_)
  · have h := ifT c3 h
    refine g_iconst C dX12_has_33 ?_
    exact g_iretP C dX12_has_34 hr hlk h (by decide)
  · have h := ifF c3 h
    refine g_iload_n C dX12_has_13 rfl ?_
    obtain ⟨x4, qx4, h⟩ := bnd h
    refine g_callS1 (As := [iv a2]) C dX12_has_14 mi_X12_isSecret ml_12_422 (ct_X12_isSecret ia2 qx4) rfl ⟨rfl, rfl⟩ ⟨Nat.le_of_ble_eq_true rfl, Nat.le_of_ble_eq_true rfl⟩ ⟨Nat.zero_le _, Nat.zero_le _⟩ rfl (Nat.le_of_ble_eq_true rfl) (fun ix4 => ?_)
    refine g_if_eq C dX12_has_17 (zI ix4) rfl (tgt := 33) (fun c5 => ?_) (fun c5 => ?_)
    · have h := ifT c5 h
      refine g_iconst C dX12_has_33 ?_
      exact g_iretP C dX12_has_34 hr hlk h (by decide)
    · have h := ifF c5 h
      refine g_aload_n C dX12_has_20 rfl ?_
      refine g_getR (j := 52) C dX12_has_21 rfl (Nat.le_of_ble_eq_true rfl) (Nat.le_of_ble_eq_true rfl) fl_12_122 rfl rfl (r := 204) rfl ?_
      refine g_iload_n C dX12_has_24 rfl ?_
      obtain ⟨x6, qx6, h⟩ := bnd h
      refine g_iald C dX12_has_25 rfl rfl qx6 ia1 (fun ix6 => ?_)
      refine g_iload_n C dX12_has_26 rfl ?_
      refine g_ishr C dX12_has_27 ?_
      refine g_iconst C dX12_has_28 ?_
      refine g_iand C dX12_has_29 ?_
      refine g_goto C dX12_has_30 rfl (tgt := 34) ?_
      exact g_iretP C dX12_has_34 hr hlk h (iand _ _)
theorem dX12_left_0 : decode cX12_left 0 = .ok (.aload_n 0, 1) := by decide +kernel
theorem dX12_left_1 : decode cX12_left 1 = .ok (.iconst 0, 1) := by decide +kernel
theorem dX12_left_2 : decode cX12_left 2 = .ok (.putfield 1, 3) := by decide +kernel
theorem dX12_left_5 : decode cX12_left 5 = .ok (.aload_n 0, 1) := by decide +kernel
theorem dX12_left_6 : decode cX12_left 6 = .ok (.getfield 110, 3) := by decide +kernel
theorem dX12_left_9 : decode cX12_left 9 = .ok (.iconst (-1), 1) := by decide +kernel
theorem dX12_left_10 : decode cX12_left 10 = .ok (.if_icmp .eq 11, 3) := by decide +kernel
theorem dX12_left_13 : decode cX12_left 13 = .ok (.aload_n 0, 1) := by decide +kernel
theorem dX12_left_14 : decode cX12_left 14 = .ok (.iload_n 1, 1) := by decide +kernel
theorem dX12_left_15 : decode cX12_left 15 = .ok (.invokevirtual 339, 3) := by decide +kernel
theorem dX12_left_18 : decode cX12_left 18 = .ok (.ifCond .ne 5, 3) := by decide +kernel
theorem dX12_left_21 : decode cX12_left 21 = .ok (.iconst (-1), 1) := by decide +kernel
theorem dX12_left_22 : decode cX12_left 22 = .ok (.ireturn, 1) := by decide +kernel
theorem dX12_left_23 : decode cX12_left 23 = .ok (.aload_n 0, 1) := by decide +kernel
theorem dX12_left_24 : decode cX12_left 24 = .ok (.getfield 125, 3) := by decide +kernel
theorem dX12_left_27 : decode cX12_left 27 = .ok (.iload_n 1, 1) := by decide +kernel
theorem dX12_left_28 : decode cX12_left 28 = .ok (.iaload, 1) := by decide +kernel
theorem dX12_left_29 : decode cX12_left 29 = .ok (.istore_n 2, 1) := by decide +kernel
theorem dX12_left_30 : decode cX12_left 30 = .ok (.iconst 0, 1) := by decide +kernel
theorem dX12_left_31 : decode cX12_left 31 = .ok (.istore_n 3, 1) := by decide +kernel
theorem dX12_left_32 : decode cX12_left 32 = .ok (.iload_n 3, 1) := by decide +kernel
theorem dX12_left_33 : decode cX12_left 33 = .ok (.bipush 8, 2) := by decide +kernel
theorem dX12_left_35 : decode cX12_left 35 = .ok (.if_icmp .ge 31, 3) := by decide +kernel
theorem dX12_left_38 : decode cX12_left 38 = .ok (.aload_n 0, 1) := by decide +kernel
theorem dX12_left_39 : decode cX12_left 39 = .ok (.getfield 128, 3) := by decide +kernel
theorem dX12_left_42 : decode cX12_left 42 = .ok (.bipush 8, 2) := by decide +kernel
theorem dX12_left_44 : decode cX12_left 44 = .ok (.iload_n 1, 1) := by decide +kernel
theorem dX12_left_45 : decode cX12_left 45 = .ok (.imul, 1) := by decide +kernel
theorem dX12_left_46 : decode cX12_left 46 = .ok (.iload_n 3, 1) := by decide +kernel
theorem dX12_left_47 : decode cX12_left 47 = .ok (.iadd, 1) := by decide +kernel
theorem dX12_left_48 : decode cX12_left 48 = .ok (.iaload, 1) := by decide +kernel
theorem dX12_left_49 : decode cX12_left 49 = .ok (.iconst (-1), 1) := by decide +kernel
theorem dX12_left_50 : decode cX12_left 50 = .ok (.if_icmp .eq 10, 3) := by decide +kernel
theorem dX12_left_53 : decode cX12_left 53 = .ok (.iload_n 2, 1) := by decide +kernel
theorem dX12_left_54 : decode cX12_left 54 = .ok (.bipush 16, 2) := by decide +kernel
theorem dX12_left_56 : decode cX12_left 56 = .ok (.iload_n 3, 1) := by decide +kernel
theorem dX12_left_57 : decode cX12_left 57 = .ok (.ishl, 1) := by decide +kernel
theorem dX12_left_58 : decode cX12_left 58 = .ok (.ior, 1) := by decide +kernel
theorem dX12_left_59 : decode cX12_left 59 = .ok (.istore_n 2, 1) := by decide +kernel
theorem dX12_left_60 : decode cX12_left 60 = .ok (.iinc 3 1, 3) := by decide +kernel
theorem dX12_left_63 : decode cX12_left 63 = .ok (.goto (-31), 3) := by decide +kernel
theorem dX12_left_66 : decode cX12_left 66 = .ok (.iload_n 2, 1) := by decide +kernel
theorem dX12_left_67 : decode cX12_left 67 = .ok (.ireturn, 1) := by decide +kernel
abbrev rm_X12_left : Room := { frames := 1, cells := 0, slots := 0, locals := 21 }
set_option maxRecDepth 100000 in
set_option maxHeartbeats 4000000 in
theorem ct_X12_left {w : Wd} {l : Launch} {a1 : Int} {σ : St} {y : Int} {σ' : St} (ia1 : InI a1) (h : m_X12_left a1 σ = some (y, σ')) : Ct w l yX12_left (Cond.code yX12_left cX12_left 4 (some .int) :: TB) rm_X12_left [rv w 170, iv a1] σ (some (iv y)) (InI y) σ' := by
  refine Ct.of2 [some (rv w 170), some (iv a1), none, none] 2 rfl pn_RX12 (Nat.le_of_ble_eq_true rfl) ?_
  intro p e s m args below meth c C hr hlk
  unfold m_X12_left at h
  refine g_aload_n C dX12_left_0 rfl ?_
  refine g_iconst C dX12_left_1 ?_
  obtain ⟨σ1, qσ1, h⟩ := bnd h
  refine g_putI (j := 0) C dX12_left_2 rfl (Nat.le_of_ble_eq_true rfl) (Nat.le_of_ble_eq_true rfl) fl_12_1 rfl rfl rfl rfl qσ1 (by decide) ?_
  refine g_aload_n C dX12_left_5 rfl ?_
  refine g_getI (j := 48) C dX12_left_6 rfl (Nat.le_of_ble_eq_true rfl) (Nat.le_of_ble_eq_true rfl) fl_12_110 rfl rfl (fun i2 => ?_)
  refine g_iconst C dX12_left_9 ?_
  refine g_icmp_eq C dX12_left_10 i2 (by decide) rfl (tgt := 21) (fun c3 => ?_) (fun c3 => ?_)
  · have h := ifT c3 h
    refine g_iconst C dX12_left_21 ?_
    exact g_iretP C dX12_left_22 hr hlk h (by decide)
  · have h := ifF c3 h
    refine g_aload_n C dX12_left_13 rfl ?_
    refine g_iload_n C dX12_left_14 rfl ?_
    obtain ⟨x4, qx4, h⟩ := bnd h
    refine g_callV1 (As := [iv a1]) C dX12_left_15 mi_X12_isSpot ml_12_339 (ct_X12_isSpot ia1 qx4) rfl rfl ⟨rfl, rfl⟩ ⟨Nat.le_of_ble_eq_true rfl, Nat.le_of_ble_eq_true rfl⟩ ⟨Nat.zero_le _, Nat.zero_le _⟩ rfl (Nat.le_of_ble_eq_true rfl) (fun ix4 => ?_)
    refine g_if_ne C dX12_left_18 (zI ix4) rfl (tgt := 23) (fun c5 => ?_) (fun c5 => ?_)
    · have h := ifF c5 h
      refine g_aload_n C dX12_left_23 rfl ?_
      refine g_getR (j := 53) C dX12_left_24 rfl (Nat.le_of_ble_eq_true rfl) (Nat.le_of_ble_eq_true rfl) fl_12_125 rfl rfl (r := 205) rfl ?_
      refine g_iload_n C dX12_left_27 rfl ?_
      obtain ⟨x6, qx6, h⟩ := bnd h
      refine g_iald C dX12_left_28 rfl rfl qx6 ia1 (fun ix6 => ?_)
      refine g_istore_n (L1 := [some (rv w 170), some (iv a1), some (iv x6), none]) C dX12_left_29 rfl (Nat.le_of_ble_eq_true rfl) rfl ?_
      refine g_iconst C dX12_left_30 ?_
      refine g_istore_n (L1 := [some (rv w 170), some (iv a1), some (iv x6), some (iv 0)]) C dX12_left_31 rfl (Nat.le_of_ble_eq_true rfl) rfl ?_
      obtain ⟨b7, hb7, hF7⟩ := bnd h
      have hX7 : ∀ (x14 : Int) , InI x14 → x14 = b7 → GM w p l e rm_X12_left s m args below meth c (some (iv y)) (InI y) σ' 4 66 [none, none, some (iv x14), none] [] σ1 := by
        intro x14 ix14 q
        subst q
        have h := hF7
        refine g_iload_n C dX12_left_66 rfl ?_
        exact g_iretP C dX12_left_67 hr hlk h ix14
      have hL7 : ∀ (n : Nat) (x8 : Int) (x9 : Int) , InI x8 → InI x9 → lpN (fun a => m_X12_left_L32 σ1 a1 a.1 a.2) n (x8, x9) = some b7 → GM w p l e rm_X12_left s m args below meth c (some (iv y)) (InI y) σ' 4 32 [some (rv w 170), some (iv a1), some (iv x8), some (iv x9)] [] σ1 := by
        intro n
        induction n with
        | zero => intro x8 x9 ix8 ix9 q; cases q
        | succ n ih7 =>
          intro x8 x9 ix8 ix9 q
          obtain ⟨o7, h, hk7⟩ := lp_step q
          replace h : m_X12_left_L32 σ1 a1 x8 x9 = some o7 := h
          unfold m_X12_left_L32 at h
          refine g_iload_n C dX12_left_32 rfl ?_
          refine g_bipush C dX12_left_33 rfl ?_
          refine g_icmp_ge C dX12_left_35 ix9 (by decide) rfl (tgt := 66) (fun c10 => ?_) (fun c10 => ?_)
          · have h := ifT c10 h
            refine g_mask [false, false, true, false] ?_
            obtain rfl := Option.some.inj h
            exact hX7 x8 ix8 (lpR hk7).symm
          · have h := ifF c10 h
            refine g_aload_n C dX12_left_38 rfl ?_
            refine g_getR (j := 54) C dX12_left_39 rfl (Nat.le_of_ble_eq_true rfl) (Nat.le_of_ble_eq_true rfl) fl_12_128 rfl rfl (r := 206) rfl ?_
            refine g_bipush C dX12_left_42 rfl ?_
            refine g_iload_n C dX12_left_44 rfl ?_
            refine g_imul C dX12_left_45 ?_
            refine g_iload_n C dX12_left_46 rfl ?_
            refine g_iadd C dX12_left_47 ?_
            obtain ⟨x11, qx11, h⟩ := bnd h
            refine g_iald C dX12_left_48 rfl rfl qx11 (iwr _) (fun ix11 => ?_)
            refine g_iconst C dX12_left_49 ?_
            refine g_icmp_eq C dX12_left_50 ix11 (by decide) rfl (tgt := 60) (fun c12 => ?_) (fun c12 => ?_)
            · have h := ifT c12 h
              refine g_iinc (L1 := [some (rv w 170), some (iv a1), some (iv x8), some (iv (wr (x9 + 1)))]) C dX12_left_60 rfl rfl (Nat.le_of_ble_eq_true rfl) rfl ?_
              refine g_goto C dX12_left_63 rfl (tgt := 32) ?_
              obtain rfl := Option.some.inj h
              exact ih7 _ _ ix8 (iwr _) (lpL hk7)
            · have h := ifF c12 h
              refine g_iload_n C dX12_left_53 rfl ?_
              refine g_bipush C dX12_left_54 rfl ?_
              refine g_iload_n C dX12_left_56 rfl ?_
              refine g_ishl C dX12_left_57 ?_
              refine g_ior C dX12_left_58 ?_
              obtain ⟨x13, qx13, h⟩ := bnd h
              have qx13 := Option.some.inj qx13
              have ix13 : InI x13 := by rw [← qx13]; exact (ior _ _)
              refine g_E qx13 ?_
              refine g_istore_n (L1 := [some (rv w 170), some (iv a1), some (iv x13), some (iv x9)]) C dX12_left_59 rfl (Nat.le_of_ble_eq_true rfl) rfl ?_
              refine g_iinc (L1 := [some (rv w 170), some (iv a1), some (iv x13), some (iv (wr (x9 + 1)))]) C dX12_left_60 rfl rfl (Nat.le_of_ble_eq_true rfl) rfl ?_
              refine g_goto C dX12_left_63 rfl (tgt := 32) ?_
              obtain rfl := Option.some.inj h
              exact ih7 _ _ ix13 (iwr _) (lpL hk7)
      exact hL7 FU _ _ ix6 (by decide) hb7
    · have h := ifT c5 h
      refine g_iconst C dX12_left_21 ?_
      exact g_iretP C dX12_left_22 hr hlk h (by decide)
theorem dX12_met_0 : decode cX12_met 0 = .ok (.aload_n 0, 1) := by decide +kernel
theorem dX12_met_1 : decode cX12_met 1 = .ok (.iconst 0, 1) := by decide +kernel
theorem dX12_met_2 : decode cX12_met 2 = .ok (.putfield 1, 3) := by decide +kernel
theorem dX12_met_5 : decode cX12_met 5 = .ok (.aload_n 0, 1) := by decide +kernel
theorem dX12_met_6 : decode cX12_met 6 = .ok (.iload_n 1, 1) := by decide +kernel
theorem dX12_met_7 : decode cX12_met 7 = .ok (.invokevirtual 419, 3) := by decide +kernel
theorem dX12_met_10 : decode cX12_met 10 = .ok (.ifCond .eq 25, 3) := by decide +kernel
theorem dX12_met_13 : decode cX12_met 13 = .ok (.aload_n 0, 1) := by decide +kernel
theorem dX12_met_14 : decode cX12_met 14 = .ok (.iload_n 2, 1) := by decide +kernel
theorem dX12_met_15 : decode cX12_met 15 = .ok (.invokevirtual 419, 3) := by decide +kernel
theorem dX12_met_18 : decode cX12_met 18 = .ok (.ifCond .eq 17, 3) := by decide +kernel
theorem dX12_met_21 : decode cX12_met 21 = .ok (.aload_n 0, 1) := by decide +kernel
theorem dX12_met_22 : decode cX12_met 22 = .ok (.getfield 131, 3) := by decide +kernel
theorem dX12_met_25 : decode cX12_met 25 = .ok (.bipush 8, 2) := by decide +kernel
theorem dX12_met_27 : decode cX12_met 27 = .ok (.iload_n 1, 1) := by decide +kernel
theorem dX12_met_28 : decode cX12_met 28 = .ok (.imul, 1) := by decide +kernel
theorem dX12_met_29 : decode cX12_met 29 = .ok (.iload_n 2, 1) := by decide +kernel
theorem dX12_met_30 : decode cX12_met 30 = .ok (.iadd, 1) := by decide +kernel
theorem dX12_met_31 : decode cX12_met 31 = .ok (.iaload, 1) := by decide +kernel
theorem dX12_met_32 : decode cX12_met 32 = .ok (.goto 4, 3) := by decide +kernel
theorem dX12_met_35 : decode cX12_met 35 = .ok (.iconst (-1), 1) := by decide +kernel
theorem dX12_met_36 : decode cX12_met 36 = .ok (.ireturn, 1) := by decide +kernel
abbrev rm_X12_met : Room := { frames := 1, cells := 0, slots := 0, locals := 21 }
set_option maxRecDepth 100000 in
set_option maxHeartbeats 4000000 in
theorem ct_X12_met {w : Wd} {l : Launch} {a1 : Int} {a2 : Int} {σ : St} {y : Int} {σ' : St} (ia1 : InI a1) (ia2 : InI a2) (h : m_X12_met a1 a2 σ = some (y, σ')) : Ct w l yX12_met (Cond.code yX12_met cX12_met 3 (some .int) :: TB) rm_X12_met [rv w 170, iv a1, iv a2] σ (some (iv y)) (InI y) σ' := by
  refine Ct.of2 [some (rv w 170), some (iv a1), some (iv a2)] 0 rfl pn_RX12 (Nat.le_of_ble_eq_true rfl) ?_
  intro p e s m args below meth c C hr hlk
  unfold m_X12_met at h
  refine g_aload_n C dX12_met_0 rfl ?_
  refine g_iconst C dX12_met_1 ?_
  obtain ⟨σ1, qσ1, h⟩ := bnd h
  refine g_putI (j := 0) C dX12_met_2 rfl (Nat.le_of_ble_eq_true rfl) (Nat.le_of_ble_eq_true rfl) fl_12_1 rfl rfl rfl rfl qσ1 (by decide) ?_
  refine g_aload_n C dX12_met_5 rfl ?_
  refine g_iload_n C dX12_met_6 rfl ?_
  obtain ⟨x2, qx2, h⟩ := bnd h
  refine g_callV1 (As := [iv a1]) C dX12_met_7 mi_X12_ran ml_12_419 (ct_X12_ran ia1 qx2) rfl rfl ⟨rfl, rfl⟩ ⟨Nat.le_of_ble_eq_true rfl, Nat.le_of_ble_eq_true rfl⟩ ⟨Nat.zero_le _, Nat.zero_le _⟩ rfl (Nat.le_of_ble_eq_true rfl) (fun ix2 => ?_)
  refine g_if_eq C dX12_met_10 (zI ix2) rfl (tgt := 35) (fun c3 => ?_) (fun c3 => ?_)
  · have h := ifT c3 h
    refine g_iconst C dX12_met_35 ?_
    exact g_iretP C dX12_met_36 hr hlk h (by decide)
  · have h := ifF c3 h
    refine g_aload_n C dX12_met_13 rfl ?_
    refine g_iload_n C dX12_met_14 rfl ?_
    obtain ⟨x4, qx4, h⟩ := bnd h
    refine g_callV1 (As := [iv a2]) C dX12_met_15 mi_X12_ran ml_12_419 (ct_X12_ran ia2 qx4) rfl rfl ⟨rfl, rfl⟩ ⟨Nat.le_of_ble_eq_true rfl, Nat.le_of_ble_eq_true rfl⟩ ⟨Nat.zero_le _, Nat.zero_le _⟩ rfl (Nat.le_of_ble_eq_true rfl) (fun ix4 => ?_)
    refine g_if_eq C dX12_met_18 (zI ix4) rfl (tgt := 35) (fun c5 => ?_) (fun c5 => ?_)
    · have h := ifT c5 h
      refine g_iconst C dX12_met_35 ?_
      exact g_iretP C dX12_met_36 hr hlk h (by decide)
    · have h := ifF c5 h
      refine g_aload_n C dX12_met_21 rfl ?_
      refine g_getR (j := 55) C dX12_met_22 rfl (Nat.le_of_ble_eq_true rfl) (Nat.le_of_ble_eq_true rfl) fl_12_131 rfl rfl (r := 207) rfl ?_
      refine g_bipush C dX12_met_25 rfl ?_
      refine g_iload_n C dX12_met_27 rfl ?_
      refine g_imul C dX12_met_28 ?_
      refine g_iload_n C dX12_met_29 rfl ?_
      refine g_iadd C dX12_met_30 ?_
      obtain ⟨x6, qx6, h⟩ := bnd h
      refine g_iald C dX12_met_31 rfl rfl qx6 (iwr _) (fun ix6 => ?_)
      refine g_goto C dX12_met_32 rfl (tgt := 36) ?_
      exact g_iretP C dX12_met_36 hr hlk h ix6
theorem dX12_ended_0 : decode cX12_ended 0 = .ok (.aload_n 0, 1) := by decide +kernel
theorem dX12_ended_1 : decode cX12_ended 1 = .ok (.iconst 0, 1) := by decide +kernel
theorem dX12_ended_2 : decode cX12_ended 2 = .ok (.putfield 1, 3) := by decide +kernel
theorem dX12_ended_5 : decode cX12_ended 5 = .ok (.aload_n 0, 1) := by decide +kernel
theorem dX12_ended_6 : decode cX12_ended 6 = .ok (.iload_n 1, 1) := by decide +kernel
theorem dX12_ended_7 : decode cX12_ended 7 = .ok (.invokevirtual 419, 3) := by decide +kernel
theorem dX12_ended_10 : decode cX12_ended 10 = .ok (.ifCond .eq 12, 3) := by decide +kernel
theorem dX12_ended_13 : decode cX12_ended 13 = .ok (.aload_n 0, 1) := by decide +kernel
theorem dX12_ended_14 : decode cX12_ended 14 = .ok (.getfield 134, 3) := by decide +kernel
theorem dX12_ended_17 : decode cX12_ended 17 = .ok (.iload_n 1, 1) := by decide +kernel
theorem dX12_ended_18 : decode cX12_ended 18 = .ok (.iaload, 1) := by decide +kernel
theorem dX12_ended_19 : decode cX12_ended 19 = .ok (.goto 4, 3) := by decide +kernel
theorem dX12_ended_22 : decode cX12_ended 22 = .ok (.iconst (-1), 1) := by decide +kernel
theorem dX12_ended_23 : decode cX12_ended 23 = .ok (.ireturn, 1) := by decide +kernel
abbrev rm_X12_ended : Room := { frames := 1, cells := 0, slots := 0, locals := 21 }
set_option maxRecDepth 100000 in
set_option maxHeartbeats 4000000 in
theorem ct_X12_ended {w : Wd} {l : Launch} {a1 : Int} {σ : St} {y : Int} {σ' : St} (ia1 : InI a1) (h : m_X12_ended a1 σ = some (y, σ')) : Ct w l yX12_ended (Cond.code yX12_ended cX12_ended 2 (some .int) :: TB) rm_X12_ended [rv w 170, iv a1] σ (some (iv y)) (InI y) σ' := by
  refine Ct.of2 [some (rv w 170), some (iv a1)] 0 rfl pn_RX12 (Nat.le_of_ble_eq_true rfl) ?_
  intro p e s m args below meth c C hr hlk
  unfold m_X12_ended at h
  refine g_aload_n C dX12_ended_0 rfl ?_
  refine g_iconst C dX12_ended_1 ?_
  obtain ⟨σ1, qσ1, h⟩ := bnd h
  refine g_putI (j := 0) C dX12_ended_2 rfl (Nat.le_of_ble_eq_true rfl) (Nat.le_of_ble_eq_true rfl) fl_12_1 rfl rfl rfl rfl qσ1 (by decide) ?_
  refine g_aload_n C dX12_ended_5 rfl ?_
  refine g_iload_n C dX12_ended_6 rfl ?_
  obtain ⟨x2, qx2, h⟩ := bnd h
  refine g_callV1 (As := [iv a1]) C dX12_ended_7 mi_X12_ran ml_12_419 (ct_X12_ran ia1 qx2) rfl rfl ⟨rfl, rfl⟩ ⟨Nat.le_of_ble_eq_true rfl, Nat.le_of_ble_eq_true rfl⟩ ⟨Nat.zero_le _, Nat.zero_le _⟩ rfl (Nat.le_of_ble_eq_true rfl) (fun ix2 => ?_)
  refine g_if_eq C dX12_ended_10 (zI ix2) rfl (tgt := 22) (fun c3 => ?_) (fun c3 => ?_)
  · have h := ifT c3 h
    refine g_iconst C dX12_ended_22 ?_
    exact g_iretP C dX12_ended_23 hr hlk h (by decide)
  · have h := ifF c3 h
    refine g_aload_n C dX12_ended_13 rfl ?_
    refine g_getR (j := 56) C dX12_ended_14 rfl (Nat.le_of_ble_eq_true rfl) (Nat.le_of_ble_eq_true rfl) fl_12_134 rfl rfl (r := 208) rfl ?_
    refine g_iload_n C dX12_ended_17 rfl ?_
    obtain ⟨x4, qx4, h⟩ := bnd h
    refine g_iald C dX12_ended_18 rfl rfl qx4 ia1 (fun ix4 => ?_)
    refine g_goto C dX12_ended_19 rfl (tgt := 23) ?_
    exact g_iretP C dX12_ended_23 hr hlk h ix4
theorem dX12_deeds_0 : decode cX12_deeds 0 = .ok (.aload_n 0, 1) := by decide +kernel
theorem dX12_deeds_1 : decode cX12_deeds 1 = .ok (.iconst 0, 1) := by decide +kernel
theorem dX12_deeds_2 : decode cX12_deeds 2 = .ok (.putfield 1, 3) := by decide +kernel
theorem dX12_deeds_5 : decode cX12_deeds 5 = .ok (.aload_n 0, 1) := by decide +kernel
theorem dX12_deeds_6 : decode cX12_deeds 6 = .ok (.iload_n 1, 1) := by decide +kernel
theorem dX12_deeds_7 : decode cX12_deeds 7 = .ok (.invokevirtual 419, 3) := by decide +kernel
theorem dX12_deeds_10 : decode cX12_deeds 10 = .ok (.ifCond .eq 12, 3) := by decide +kernel
theorem dX12_deeds_13 : decode cX12_deeds 13 = .ok (.aload_n 0, 1) := by decide +kernel
theorem dX12_deeds_14 : decode cX12_deeds 14 = .ok (.getfield 137, 3) := by decide +kernel
theorem dX12_deeds_17 : decode cX12_deeds 17 = .ok (.iload_n 1, 1) := by decide +kernel
theorem dX12_deeds_18 : decode cX12_deeds 18 = .ok (.iaload, 1) := by decide +kernel
theorem dX12_deeds_19 : decode cX12_deeds 19 = .ok (.goto 4, 3) := by decide +kernel
theorem dX12_deeds_22 : decode cX12_deeds 22 = .ok (.iconst (-1), 1) := by decide +kernel
theorem dX12_deeds_23 : decode cX12_deeds 23 = .ok (.ireturn, 1) := by decide +kernel
abbrev rm_X12_deeds : Room := { frames := 1, cells := 0, slots := 0, locals := 21 }
set_option maxRecDepth 100000 in
set_option maxHeartbeats 4000000 in
theorem ct_X12_deeds {w : Wd} {l : Launch} {a1 : Int} {σ : St} {y : Int} {σ' : St} (ia1 : InI a1) (h : m_X12_deeds a1 σ = some (y, σ')) : Ct w l yX12_deeds (Cond.code yX12_deeds cX12_deeds 2 (some .int) :: TB) rm_X12_deeds [rv w 170, iv a1] σ (some (iv y)) (InI y) σ' := by
  refine Ct.of2 [some (rv w 170), some (iv a1)] 0 rfl pn_RX12 (Nat.le_of_ble_eq_true rfl) ?_
  intro p e s m args below meth c C hr hlk
  unfold m_X12_deeds at h
  refine g_aload_n C dX12_deeds_0 rfl ?_
  refine g_iconst C dX12_deeds_1 ?_
  obtain ⟨σ1, qσ1, h⟩ := bnd h
  refine g_putI (j := 0) C dX12_deeds_2 rfl (Nat.le_of_ble_eq_true rfl) (Nat.le_of_ble_eq_true rfl) fl_12_1 rfl rfl rfl rfl qσ1 (by decide) ?_
  refine g_aload_n C dX12_deeds_5 rfl ?_
  refine g_iload_n C dX12_deeds_6 rfl ?_
  obtain ⟨x2, qx2, h⟩ := bnd h
  refine g_callV1 (As := [iv a1]) C dX12_deeds_7 mi_X12_ran ml_12_419 (ct_X12_ran ia1 qx2) rfl rfl ⟨rfl, rfl⟩ ⟨Nat.le_of_ble_eq_true rfl, Nat.le_of_ble_eq_true rfl⟩ ⟨Nat.zero_le _, Nat.zero_le _⟩ rfl (Nat.le_of_ble_eq_true rfl) (fun ix2 => ?_)
  refine g_if_eq C dX12_deeds_10 (zI ix2) rfl (tgt := 22) (fun c3 => ?_) (fun c3 => ?_)
  · have h := ifT c3 h
    refine g_iconst C dX12_deeds_22 ?_
    exact g_iretP C dX12_deeds_23 hr hlk h (by decide)
  · have h := ifF c3 h
    refine g_aload_n C dX12_deeds_13 rfl ?_
    refine g_getR (j := 57) C dX12_deeds_14 rfl (Nat.le_of_ble_eq_true rfl) (Nat.le_of_ble_eq_true rfl) fl_12_137 rfl rfl (r := 209) rfl ?_
    refine g_iload_n C dX12_deeds_17 rfl ?_
    obtain ⟨x4, qx4, h⟩ := bnd h
    refine g_iald C dX12_deeds_18 rfl rfl qx4 ia1 (fun ix4 => ?_)
    refine g_goto C dX12_deeds_19 rfl (tgt := 23) ?_
    exact g_iretP C dX12_deeds_23 hr hlk h ix4
theorem dX12_saws_0 : decode cX12_saws 0 = .ok (.aload_n 0, 1) := by decide +kernel
theorem dX12_saws_1 : decode cX12_saws 1 = .ok (.iconst 0, 1) := by decide +kernel
theorem dX12_saws_2 : decode cX12_saws 2 = .ok (.putfield 1, 3) := by decide +kernel
theorem dX12_saws_5 : decode cX12_saws 5 = .ok (.aload_n 0, 1) := by decide +kernel
theorem dX12_saws_6 : decode cX12_saws 6 = .ok (.getfield 110, 3) := by decide +kernel
theorem dX12_saws_9 : decode cX12_saws 9 = .ok (.iconst (-1), 1) := by decide +kernel
theorem dX12_saws_10 : decode cX12_saws 10 = .ok (.if_icmp .ne 7, 3) := by decide +kernel
theorem dX12_saws_13 : decode cX12_saws 13 = .ok (.iconst (-1), 1) := by decide +kernel
theorem dX12_saws_14 : decode cX12_saws 14 = .ok (.goto 7, 3) := by decide +kernel
theorem dX12_saws_17 : decode cX12_saws 17 = .ok (.aload_n 0, 1) := by decide +kernel
theorem dX12_saws_18 : decode cX12_saws 18 = .ok (.getfield 374, 3) := by decide +kernel
theorem dX12_saws_21 : decode cX12_saws 21 = .ok (.ireturn, 1) := by decide +kernel
abbrev rm_X12_saws : Room := { frames := 0, cells := 0, slots := 0, locals := 0 }
set_option maxRecDepth 100000 in
set_option maxHeartbeats 4000000 in
theorem ct_X12_saws {w : Wd} {l : Launch} {σ : St} {y : Int} {σ' : St} (h : m_X12_saws σ = some (y, σ')) : Ct w l yX12_saws (Cond.code yX12_saws cX12_saws 1 (some .int) :: TB) rm_X12_saws [rv w 170] σ (some (iv y)) (InI y) σ' := by
  refine Ct.of2 [some (rv w 170)] 0 rfl pn_RX12 (Nat.le_of_ble_eq_true rfl) ?_
  intro p e s m args below meth c C hr hlk
  unfold m_X12_saws at h
  refine g_aload_n C dX12_saws_0 rfl ?_
  refine g_iconst C dX12_saws_1 ?_
  obtain ⟨σ1, qσ1, h⟩ := bnd h
  refine g_putI (j := 0) C dX12_saws_2 rfl (Nat.le_of_ble_eq_true rfl) (Nat.le_of_ble_eq_true rfl) fl_12_1 rfl rfl rfl rfl qσ1 (by decide) ?_
  refine g_aload_n C dX12_saws_5 rfl ?_
  refine g_getI (j := 48) C dX12_saws_6 rfl (Nat.le_of_ble_eq_true rfl) (Nat.le_of_ble_eq_true rfl) fl_12_110 rfl rfl (fun i2 => ?_)
  refine g_iconst C dX12_saws_9 ?_
  refine g_icmp_ne C dX12_saws_10 i2 (by decide) rfl (tgt := 17) (fun c3 => ?_) (fun c3 => ?_)
  · have h := ifF c3 h
    refine g_aload_n C dX12_saws_17 rfl ?_
    refine g_getI (j := 58) C dX12_saws_18 rfl (Nat.le_of_ble_eq_true rfl) (Nat.le_of_ble_eq_true rfl) fl_12_374 rfl rfl (fun i4 => ?_)
    exact g_iretP C dX12_saws_21 hr hlk h i4
  · have h := ifT c3 h
    refine g_iconst C dX12_saws_13 ?_
    refine g_goto C dX12_saws_14 rfl (tgt := 21) ?_
    exact g_iretP C dX12_saws_21 hr hlk h (by decide)
theorem dX12_saw_0 : decode cX12_saw 0 = .ok (.aload_n 0, 1) := by decide +kernel
theorem dX12_saw_1 : decode cX12_saw 1 = .ok (.iconst 0, 1) := by decide +kernel
theorem dX12_saw_2 : decode cX12_saw 2 = .ok (.putfield 1, 3) := by decide +kernel
theorem dX12_saw_5 : decode cX12_saw 5 = .ok (.aload_n 0, 1) := by decide +kernel
theorem dX12_saw_6 : decode cX12_saw 6 = .ok (.getfield 110, 3) := by decide +kernel
theorem dX12_saw_9 : decode cX12_saw 9 = .ok (.iconst (-1), 1) := by decide +kernel
theorem dX12_saw_10 : decode cX12_saw 10 = .ok (.if_icmp .eq 15, 3) := by decide +kernel
theorem dX12_saw_13 : decode cX12_saw 13 = .ok (.iload_n 1, 1) := by decide +kernel
theorem dX12_saw_14 : decode cX12_saw 14 = .ok (.ifCond .lt 11, 3) := by decide +kernel
theorem dX12_saw_17 : decode cX12_saw 17 = .ok (.iload_n 1, 1) := by decide +kernel
theorem dX12_saw_18 : decode cX12_saw 18 = .ok (.aload_n 0, 1) := by decide +kernel
theorem dX12_saw_19 : decode cX12_saw 19 = .ok (.getfield 374, 3) := by decide +kernel
theorem dX12_saw_22 : decode cX12_saw 22 = .ok (.if_icmp .lt 10, 3) := by decide +kernel
theorem dX12_saw_25 : decode cX12_saw 25 = .ok (.aload_n 0, 1) := by decide +kernel
theorem dX12_saw_26 : decode cX12_saw 26 = .ok (.iconst 1, 1) := by decide +kernel
theorem dX12_saw_27 : decode cX12_saw 27 = .ok (.putfield 1, 3) := by decide +kernel
theorem dX12_saw_30 : decode cX12_saw 30 = .ok (.iconst 0, 1) := by decide +kernel
theorem dX12_saw_31 : decode cX12_saw 31 = .ok (.ireturn, 1) := by decide +kernel
theorem dX12_saw_32 : decode cX12_saw 32 = .ok (.aload_n 0, 1) := by decide +kernel
theorem dX12_saw_33 : decode cX12_saw 33 = .ok (.getfield 140, 3) := by decide +kernel
theorem dX12_saw_36 : decode cX12_saw 36 = .ok (.iload_n 1, 1) := by decide +kernel
theorem dX12_saw_37 : decode cX12_saw 37 = .ok (.iaload, 1) := by decide +kernel
theorem dX12_saw_38 : decode cX12_saw 38 = .ok (.ireturn, 1) := by decide +kernel
abbrev rm_X12_saw : Room := { frames := 0, cells := 0, slots := 0, locals := 0 }
set_option maxRecDepth 100000 in
set_option maxHeartbeats 4000000 in
theorem ct_X12_saw {w : Wd} {l : Launch} {a1 : Int} {σ : St} {y : Int} {σ' : St} (ia1 : InI a1) (h : m_X12_saw a1 σ = some (y, σ')) : Ct w l yX12_saw (Cond.code yX12_saw cX12_saw 2 (some .int) :: TB) rm_X12_saw [rv w 170, iv a1] σ (some (iv y)) (InI y) σ' := by
  refine Ct.of2 [some (rv w 170), some (iv a1)] 0 rfl pn_RX12 (Nat.le_of_ble_eq_true rfl) ?_
  intro p e s m args below meth c C hr hlk
  unfold m_X12_saw at h
  refine g_aload_n C dX12_saw_0 rfl ?_
  refine g_iconst C dX12_saw_1 ?_
  obtain ⟨σ1, qσ1, h⟩ := bnd h
  refine g_putI (j := 0) C dX12_saw_2 rfl (Nat.le_of_ble_eq_true rfl) (Nat.le_of_ble_eq_true rfl) fl_12_1 rfl rfl rfl rfl qσ1 (by decide) ?_
  refine g_aload_n C dX12_saw_5 rfl ?_
  refine g_getI (j := 48) C dX12_saw_6 rfl (Nat.le_of_ble_eq_true rfl) (Nat.le_of_ble_eq_true rfl) fl_12_110 rfl rfl (fun i2 => ?_)
  refine g_iconst C dX12_saw_9 ?_
  have hJ25_9 : m_X12_saw_J25 σ1 = some (y, σ') → GM w p l e rm_X12_saw s m args below meth c (some (iv y)) (InI y) σ' 2 25 [some (rv w 170), none] [] σ1 := by
    intro h
    unfold m_X12_saw_J25 at h
    refine g_aload_n C dX12_saw_25 rfl ?_
    refine g_iconst C dX12_saw_26 ?_
    obtain ⟨σ8, qσ8, h⟩ := bnd h
    refine g_putI (j := 0) C dX12_saw_27 rfl (Nat.le_of_ble_eq_true rfl) (Nat.le_of_ble_eq_true rfl) fl_12_1 rfl rfl rfl rfl qσ8 (by decide) ?_
    refine g_iconst C dX12_saw_30 ?_
    exact g_iretP C dX12_saw_31 hr hlk h (by decide)
  refine g_icmp_eq C dX12_saw_10 i2 (by decide) rfl (tgt := 25) (fun c3 => ?_) (fun c3 => ?_)
  · have h := ifT c3 h
    refine g_mask [true, false] ?_
    exact hJ25_9  h
  · have h := ifF c3 h
    refine g_iload_n C dX12_saw_13 rfl ?_
    refine g_if_lt C dX12_saw_14 ia1 rfl (tgt := 25) (fun c4 => ?_) (fun c4 => ?_)
    · have h := ifT c4 h
      refine g_mask [true, false] ?_
      exact hJ25_9  h
    · have h := ifF c4 h
      refine g_iload_n C dX12_saw_17 rfl ?_
      refine g_aload_n C dX12_saw_18 rfl ?_
      refine g_getI (j := 58) C dX12_saw_19 rfl (Nat.le_of_ble_eq_true rfl) (Nat.le_of_ble_eq_true rfl) fl_12_374 rfl rfl (fun i5 => ?_)
      refine g_icmp_lt C dX12_saw_22 ia1 i5 rfl (tgt := 32) (fun c6 => ?_) (fun c6 => ?_)
      · have h := ifT c6 h
        refine g_aload_n C dX12_saw_32 rfl ?_
        refine g_getR (j := 59) C dX12_saw_33 rfl (Nat.le_of_ble_eq_true rfl) (Nat.le_of_ble_eq_true rfl) fl_12_140 rfl rfl (r := 210) rfl ?_
        refine g_iload_n C dX12_saw_36 rfl ?_
        obtain ⟨x7, qx7, h⟩ := bnd h
        refine g_iald C dX12_saw_37 rfl rfl qx7 ia1 (fun ix7 => ?_)
        exact g_iretP C dX12_saw_38 hr hlk h ix7
      · have h := ifF c6 h
        refine g_mask [true, false] ?_
        exact hJ25_9  h
theorem dX12_bits_0 : decode cX12_bits 0 = .ok (.iconst 0, 1) := by decide +kernel
theorem dX12_bits_1 : decode cX12_bits 1 = .ok (.istore_n 1, 1) := by decide +kernel
theorem dX12_bits_2 : decode cX12_bits 2 = .ok (.iconst 0, 1) := by decide +kernel
theorem dX12_bits_3 : decode cX12_bits 3 = .ok (.istore_n 2, 1) := by decide +kernel
theorem dX12_bits_4 : decode cX12_bits 4 = .ok (.iload_n 2, 1) := by decide +kernel
theorem dX12_bits_5 : decode cX12_bits 5 = .ok (.bipush 8, 2) := by decide +kernel
theorem dX12_bits_7 : decode cX12_bits 7 = .ok (.if_icmp .ge 17, 3) := by decide +kernel
theorem dX12_bits_10 : decode cX12_bits 10 = .ok (.iload_n 1, 1) := by decide +kernel
theorem dX12_bits_11 : decode cX12_bits 11 = .ok (.iload_n 0, 1) := by decide +kernel
theorem dX12_bits_12 : decode cX12_bits 12 = .ok (.iload_n 2, 1) := by decide +kernel
theorem dX12_bits_13 : decode cX12_bits 13 = .ok (.ishr, 1) := by decide +kernel
theorem dX12_bits_14 : decode cX12_bits 14 = .ok (.iconst 1, 1) := by decide +kernel
theorem dX12_bits_15 : decode cX12_bits 15 = .ok (.iand, 1) := by decide +kernel
theorem dX12_bits_16 : decode cX12_bits 16 = .ok (.iadd, 1) := by decide +kernel
theorem dX12_bits_17 : decode cX12_bits 17 = .ok (.istore_n 1, 1) := by decide +kernel
theorem dX12_bits_18 : decode cX12_bits 18 = .ok (.iinc 2 1, 3) := by decide +kernel
theorem dX12_bits_21 : decode cX12_bits 21 = .ok (.goto (-17), 3) := by decide +kernel
theorem dX12_bits_24 : decode cX12_bits 24 = .ok (.iload_n 1, 1) := by decide +kernel
theorem dX12_bits_25 : decode cX12_bits 25 = .ok (.ireturn, 1) := by decide +kernel
abbrev rm_X12_bits : Room := { frames := 0, cells := 0, slots := 0, locals := 0 }
set_option maxRecDepth 100000 in
set_option maxHeartbeats 4000000 in
theorem ct_X12_bits {w : Wd} {l : Launch} {a1 : Int} {σ : St} {y : Int} (ia1 : InI a1) (h : m_X12_bits a1 σ = some y) : Ct w l yX12_bits (Cond.code yX12_bits cX12_bits 3 (some .int) :: TB) rm_X12_bits [iv a1] σ (some (iv y)) (InI y) σ := by
  refine Ct.of2 [some (iv a1), none, none] 2 rfl pn_RX12 (Nat.le_of_ble_eq_true rfl) ?_
  intro p e s m args below meth c C hr hlk
  unfold m_X12_bits at h
  refine g_iconst C dX12_bits_0 ?_
  refine g_istore_n (L1 := [some (iv a1), some (iv 0), none]) C dX12_bits_1 rfl (Nat.le_of_ble_eq_true rfl) rfl ?_
  refine g_iconst C dX12_bits_2 ?_
  refine g_istore_n (L1 := [some (iv a1), some (iv 0), some (iv 0)]) C dX12_bits_3 rfl (Nat.le_of_ble_eq_true rfl) rfl ?_
  obtain ⟨b1, hb1, hF1⟩ := bnd h
  have hX1 : ∀ (x6 : Int) , InI x6 → x6 = b1 → GM w p l e rm_X12_bits s m args below meth c (some (iv y)) (InI y) σ 3 24 [none, some (iv x6), none] [] σ := by
    intro x6 ix6 q
    subst q
    have h := hF1
    refine g_iload_n C dX12_bits_24 rfl ?_
    exact g_iretU C dX12_bits_25 hr hlk h ix6
  have hL1 : ∀ (n : Nat) (x2 : Int) (x3 : Int) , InI x2 → InI x3 → lpN (fun a => m_X12_bits_L4 a1 a.1 a.2) n (x2, x3) = some b1 → GM w p l e rm_X12_bits s m args below meth c (some (iv y)) (InI y) σ 3 4 [some (iv a1), some (iv x2), some (iv x3)] [] σ := by
    intro n
    induction n with
    | zero => intro x2 x3 ix2 ix3 q; cases q
    | succ n ih1 =>
      intro x2 x3 ix2 ix3 q
      obtain ⟨o1, h, hk1⟩ := lp_step q
      replace h : m_X12_bits_L4 a1 x2 x3 = some o1 := h
      unfold m_X12_bits_L4 at h
      refine g_iload_n C dX12_bits_4 rfl ?_
      refine g_bipush C dX12_bits_5 rfl ?_
      refine g_icmp_ge C dX12_bits_7 ix3 (by decide) rfl (tgt := 24) (fun c4 => ?_) (fun c4 => ?_)
      · have h := ifT c4 h
        refine g_mask [false, true, false] ?_
        obtain rfl := Option.some.inj h
        exact hX1 x2 ix2 (lpR hk1).symm
      · have h := ifF c4 h
        refine g_iload_n C dX12_bits_10 rfl ?_
        refine g_iload_n C dX12_bits_11 rfl ?_
        refine g_iload_n C dX12_bits_12 rfl ?_
        refine g_ishr C dX12_bits_13 ?_
        refine g_iconst C dX12_bits_14 ?_
        refine g_iand C dX12_bits_15 ?_
        refine g_iadd C dX12_bits_16 ?_
        obtain ⟨x5, qx5, h⟩ := bnd h
        have qx5 := Option.some.inj qx5
        have ix5 : InI x5 := by rw [← qx5]; exact (iwr _)
        refine g_E qx5 ?_
        refine g_istore_n (L1 := [some (iv a1), some (iv x5), some (iv x3)]) C dX12_bits_17 rfl (Nat.le_of_ble_eq_true rfl) rfl ?_
        refine g_iinc (L1 := [some (iv a1), some (iv x5), some (iv (wr (x3 + 1)))]) C dX12_bits_18 rfl rfl (Nat.le_of_ble_eq_true rfl) rfl ?_
        refine g_goto C dX12_bits_21 rfl (tgt := 4) ?_
        obtain rfl := Option.some.inj h
        exact ih1 _ _ ix5 (iwr _) (lpL hk1)
  exact hL1 FU _ _ (by decide) (by decide) hb1
theorem dX12_fall_0 : decode cX12_fall 0 = .ok (.iconst 1, 1) := by decide +kernel
theorem dX12_fall_1 : decode cX12_fall 1 = .ok (.aload_n 0, 1) := by decide +kernel
theorem dX12_fall_2 : decode cX12_fall 2 = .ok (.getfield 110, 3) := by decide +kernel
theorem dX12_fall_5 : decode cX12_fall 5 = .ok (.ishl, 1) := by decide +kernel
theorem dX12_fall_6 : decode cX12_fall 6 = .ok (.iconst 1, 1) := by decide +kernel
theorem dX12_fall_7 : decode cX12_fall 7 = .ok (.isub, 1) := by decide +kernel
theorem dX12_fall_8 : decode cX12_fall 8 = .ok (.istore_n 2, 1) := by decide +kernel
theorem dX12_fall_9 : decode cX12_fall 9 = .ok (.aload_n 0, 1) := by decide +kernel
theorem dX12_fall_10 : decode cX12_fall 10 = .ok (.getfield 110, 3) := by decide +kernel
theorem dX12_fall_13 : decode cX12_fall 13 = .ok (.iload_n 1, 1) := by decide +kernel
theorem dX12_fall_14 : decode cX12_fall 14 = .ok (.if_icmp .gt 13, 3) := by decide +kernel
theorem dX12_fall_17 : decode cX12_fall 17 = .ok (.aload_n 0, 1) := by decide +kernel
theorem dX12_fall_18 : decode cX12_fall 18 = .ok (.iload_n 2, 1) := by decide +kernel
theorem dX12_fall_19 : decode cX12_fall 19 = .ok (.putfield 425, 3) := by decide +kernel
theorem dX12_fall_22 : decode cX12_fall 22 = .ok (.aload_n 0, 1) := by decide +kernel
theorem dX12_fall_23 : decode cX12_fall 23 = .ok (.getfield 110, 3) := by decide +kernel
theorem dX12_fall_26 : decode cX12_fall 26 = .ok (.ireturn, 1) := by decide +kernel
theorem dX12_fall_27 : decode cX12_fall 27 = .ok (.iconst (-1), 1) := by decide +kernel
theorem dX12_fall_28 : decode cX12_fall 28 = .ok (.istore_n 3, 1) := by decide +kernel
theorem dX12_fall_29 : decode cX12_fall 29 = .ok (.iconst 0, 1) := by decide +kernel
theorem dX12_fall_30 : decode cX12_fall 30 = .ok (.istore 4, 2) := by decide +kernel
theorem dX12_fall_32 : decode cX12_fall 32 = .ok (.iload 4, 2) := by decide +kernel
theorem dX12_fall_34 : decode cX12_fall 34 = .ok (.iload_n 2, 1) := by decide +kernel
theorem dX12_fall_35 : decode cX12_fall 35 = .ok (.if_icmp .gt 157, 3) := by decide +kernel
theorem dX12_fall_38 : decode cX12_fall 38 = .ok (.iload 4, 2) := by decide +kernel
theorem dX12_fall_40 : decode cX12_fall 40 = .ok (.invokestatic 428, 3) := by decide +kernel
theorem dX12_fall_43 : decode cX12_fall 43 = .ok (.iload_n 1, 1) := by decide +kernel
theorem dX12_fall_44 : decode cX12_fall 44 = .ok (.if_icmp .eq 6, 3) := by decide +kernel
theorem dX12_fall_47 : decode cX12_fall 47 = .ok (.goto 139, 3) := by decide +kernel
theorem dX12_fall_50 : decode cX12_fall 50 = .ok (.iload 4, 2) := by decide +kernel
theorem dX12_fall_52 : decode cX12_fall 52 = .ok (.istore 5, 2) := by decide +kernel
theorem dX12_fall_54 : decode cX12_fall 54 = .ok (.iconst 0, 1) := by decide +kernel
theorem dX12_fall_55 : decode cX12_fall 55 = .ok (.istore 6, 2) := by decide +kernel
theorem dX12_fall_57 : decode cX12_fall 57 = .ok (.iload 6, 2) := by decide +kernel
theorem dX12_fall_59 : decode cX12_fall 59 = .ok (.aload_n 0, 1) := by decide +kernel
theorem dX12_fall_60 : decode cX12_fall 60 = .ok (.getfield 110, 3) := by decide +kernel
theorem dX12_fall_63 : decode cX12_fall 63 = .ok (.if_icmp .ge 64, 3) := by decide +kernel
theorem dX12_fall_66 : decode cX12_fall 66 = .ok (.iconst 0, 1) := by decide +kernel
theorem dX12_fall_67 : decode cX12_fall 67 = .ok (.istore 7, 2) := by decide +kernel
theorem dX12_fall_69 : decode cX12_fall 69 = .ok (.iload 7, 2) := by decide +kernel
theorem dX12_fall_71 : decode cX12_fall 71 = .ok (.aload_n 0, 1) := by decide +kernel
theorem dX12_fall_72 : decode cX12_fall 72 = .ok (.getfield 110, 3) := by decide +kernel
theorem dX12_fall_75 : decode cX12_fall 75 = .ok (.if_icmp .ge 46, 3) := by decide +kernel
theorem dX12_fall_78 : decode cX12_fall 78 = .ok (.iload 4, 2) := by decide +kernel
theorem dX12_fall_80 : decode cX12_fall 80 = .ok (.iload 6, 2) := by decide +kernel
theorem dX12_fall_82 : decode cX12_fall 82 = .ok (.ishr, 1) := by decide +kernel
theorem dX12_fall_83 : decode cX12_fall 83 = .ok (.iconst 1, 1) := by decide +kernel
theorem dX12_fall_84 : decode cX12_fall 84 = .ok (.iand, 1) := by decide +kernel
theorem dX12_fall_85 : decode cX12_fall 85 = .ok (.iconst 1, 1) := by decide +kernel
theorem dX12_fall_86 : decode cX12_fall 86 = .ok (.if_icmp .ne 29, 3) := by decide +kernel
theorem dX12_fall_89 : decode cX12_fall 89 = .ok (.aload_n 0, 1) := by decide +kernel
theorem dX12_fall_90 : decode cX12_fall 90 = .ok (.getfield 131, 3) := by decide +kernel
theorem dX12_fall_93 : decode cX12_fall 93 = .ok (.bipush 8, 2) := by decide +kernel
theorem dX12_fall_95 : decode cX12_fall 95 = .ok (.iload 6, 2) := by decide +kernel
theorem dX12_fall_97 : decode cX12_fall 97 = .ok (.imul, 1) := by decide +kernel
theorem dX12_fall_98 : decode cX12_fall 98 = .ok (.iload 7, 2) := by decide +kernel
theorem dX12_fall_100 : decode cX12_fall 100 = .ok (.iadd, 1) := by decide +kernel
theorem dX12_fall_101 : decode cX12_fall 101 = .ok (.iaload, 1) := by decide +kernel
theorem dX12_fall_102 : decode cX12_fall 102 = .ok (.iconst (-1), 1) := by decide +kernel
theorem dX12_fall_103 : decode cX12_fall 103 = .ok (.if_icmp .eq 12, 3) := by decide +kernel
theorem dX12_fall_106 : decode cX12_fall 106 = .ok (.iload 5, 2) := by decide +kernel
theorem dX12_fall_108 : decode cX12_fall 108 = .ok (.iconst 1, 1) := by decide +kernel
theorem dX12_fall_109 : decode cX12_fall 109 = .ok (.iload 7, 2) := by decide +kernel
theorem dX12_fall_111 : decode cX12_fall 111 = .ok (.ishl, 1) := by decide +kernel
theorem dX12_fall_112 : decode cX12_fall 112 = .ok (.ior, 1) := by decide +kernel
theorem dX12_fall_113 : decode cX12_fall 113 = .ok (.istore 5, 2) := by decide +kernel
theorem dX12_fall_115 : decode cX12_fall 115 = .ok (.iinc 7 1, 3) := by decide +kernel
theorem dX12_fall_118 : decode cX12_fall 118 = .ok (.goto (-49), 3) := by decide +kernel
theorem dX12_fall_121 : decode cX12_fall 121 = .ok (.iinc 6 1, 3) := by decide +kernel
theorem dX12_fall_124 : decode cX12_fall 124 = .ok (.goto (-67), 3) := by decide +kernel
theorem dX12_fall_127 : decode cX12_fall 127 = .ok (.iload 4, 2) := by decide +kernel
theorem dX12_fall_129 : decode cX12_fall 129 = .ok (.aload_n 0, 1) := by decide +kernel
theorem dX12_fall_130 : decode cX12_fall 130 = .ok (.getfield 425, 3) := by decide +kernel
theorem dX12_fall_133 : decode cX12_fall 133 = .ok (.ixor, 1) := by decide +kernel
theorem dX12_fall_134 : decode cX12_fall 134 = .ok (.istore 6, 2) := by decide +kernel
theorem dX12_fall_136 : decode cX12_fall 136 = .ok (.iload_n 3, 1) := by decide +kernel
theorem dX12_fall_137 : decode cX12_fall 137 = .ok (.iconst (-1), 1) := by decide +kernel
theorem dX12_fall_138 : decode cX12_fall 138 = .ok (.if_icmp .eq 36, 3) := by decide +kernel
theorem dX12_fall_141 : decode cX12_fall 141 = .ok (.iload 5, 2) := by decide +kernel
theorem dX12_fall_143 : decode cX12_fall 143 = .ok (.invokestatic 428, 3) := by decide +kernel
theorem dX12_fall_146 : decode cX12_fall 146 = .ok (.iload_n 3, 1) := by decide +kernel
theorem dX12_fall_147 : decode cX12_fall 147 = .ok (.if_icmp .lt 39, 3) := by decide +kernel
theorem dX12_fall_150 : decode cX12_fall 150 = .ok (.iload 5, 2) := by decide +kernel
theorem dX12_fall_152 : decode cX12_fall 152 = .ok (.invokestatic 428, 3) := by decide +kernel
theorem dX12_fall_155 : decode cX12_fall 155 = .ok (.iload_n 3, 1) := by decide +kernel
theorem dX12_fall_156 : decode cX12_fall 156 = .ok (.if_icmp .ne 18, 3) := by decide +kernel
theorem dX12_fall_159 : decode cX12_fall 159 = .ok (.iload 4, 2) := by decide +kernel
theorem dX12_fall_161 : decode cX12_fall 161 = .ok (.iload 6, 2) := by decide +kernel
theorem dX12_fall_163 : decode cX12_fall 163 = .ok (.iand, 1) := by decide +kernel
theorem dX12_fall_164 : decode cX12_fall 164 = .ok (.iload 6, 2) := by decide +kernel
theorem dX12_fall_166 : decode cX12_fall 166 = .ok (.ineg, 1) := by decide +kernel
theorem dX12_fall_167 : decode cX12_fall 167 = .ok (.iand, 1) := by decide +kernel
theorem dX12_fall_168 : decode cX12_fall 168 = .ok (.ifCond .ne 6, 3) := by decide +kernel
theorem dX12_fall_171 : decode cX12_fall 171 = .ok (.goto 15, 3) := by decide +kernel
theorem dX12_fall_174 : decode cX12_fall 174 = .ok (.iload 5, 2) := by decide +kernel
theorem dX12_fall_176 : decode cX12_fall 176 = .ok (.invokestatic 428, 3) := by decide +kernel
theorem dX12_fall_179 : decode cX12_fall 179 = .ok (.istore_n 3, 1) := by decide +kernel
theorem dX12_fall_180 : decode cX12_fall 180 = .ok (.aload_n 0, 1) := by decide +kernel
theorem dX12_fall_181 : decode cX12_fall 181 = .ok (.iload 4, 2) := by decide +kernel
theorem dX12_fall_183 : decode cX12_fall 183 = .ok (.putfield 425, 3) := by decide +kernel
theorem dX12_fall_186 : decode cX12_fall 186 = .ok (.iinc 4 1, 3) := by decide +kernel
theorem dX12_fall_189 : decode cX12_fall 189 = .ok (.goto (-157), 3) := by decide +kernel
theorem dX12_fall_192 : decode cX12_fall 192 = .ok (.iload_n 3, 1) := by decide +kernel
theorem dX12_fall_193 : decode cX12_fall 193 = .ok (.ireturn, 1) := by decide +kernel
abbrev rm_X12_fall : Room := { frames := 1, cells := 0, slots := 0, locals := 22 }
set_option maxRecDepth 100000 in
set_option maxHeartbeats 4000000 in
theorem ct_X12_fall {w : Wd} {l : Launch} {a1 : Int} {σ : St} {y : Int} {σ' : St} (ia1 : InI a1) (h : m_X12_fall a1 σ = some (y, σ')) : Ct w l yX12_fall (Cond.code yX12_fall cX12_fall 8 (some .int) :: TB) rm_X12_fall [rv w 170, iv a1] σ (some (iv y)) (InI y) σ' := by
  refine Ct.of2 [some (rv w 170), some (iv a1), none, none, none, none, none, none] 6 rfl pn_RX12 (Nat.le_of_ble_eq_true rfl) ?_
  intro p e s m args below meth c C hr hlk
  unfold m_X12_fall at h
  refine g_iconst C dX12_fall_0 ?_
  refine g_aload_n C dX12_fall_1 rfl ?_
  refine g_getI (j := 48) C dX12_fall_2 rfl (Nat.le_of_ble_eq_true rfl) (Nat.le_of_ble_eq_true rfl) fl_12_110 rfl rfl (fun i1 => ?_)
  refine g_ishl C dX12_fall_5 ?_
  refine g_iconst C dX12_fall_6 ?_
  refine g_isub C dX12_fall_7 ?_
  obtain ⟨x2, qx2, h⟩ := bnd h
  have qx2 := Option.some.inj qx2
  have ix2 : InI x2 := by rw [← qx2]; exact (iwr _)
  refine g_E qx2 ?_
  refine g_istore_n (L1 := [some (rv w 170), some (iv a1), some (iv x2), none, none, none, none, none]) C dX12_fall_8 rfl (Nat.le_of_ble_eq_true rfl) rfl ?_
  refine g_aload_n C dX12_fall_9 rfl ?_
  refine g_getI (j := 48) C dX12_fall_10 rfl (Nat.le_of_ble_eq_true rfl) (Nat.le_of_ble_eq_true rfl) fl_12_110 rfl rfl (fun i3 => ?_)
  refine g_iload_n C dX12_fall_13 rfl ?_
  refine g_icmp_gt C dX12_fall_14 i3 ia1 rfl (tgt := 27) (fun c4 => ?_) (fun c4 => ?_)
  · have h := ifT c4 h
    refine g_iconst C dX12_fall_27 ?_
    refine g_istore_n (L1 := [some (rv w 170), some (iv a1), some (iv x2), some (iv (-1)), none, none, none, none]) C dX12_fall_28 rfl (Nat.le_of_ble_eq_true rfl) rfl ?_
    refine g_iconst C dX12_fall_29 ?_
    refine g_istore (L1 := [some (rv w 170), some (iv a1), some (iv x2), some (iv (-1)), some (iv 0), none, none, none]) C dX12_fall_30 rfl (Nat.le_of_ble_eq_true rfl) rfl ?_
    obtain ⟨b5, hb5, hF5⟩ := bnd h
    have hX5 : ∀ (x39 : Int) (σ40 : St) , InI x39 → (x39, σ40) = b5 → GM w p l e rm_X12_fall s m args below meth c (some (iv y)) (InI y) σ' 8 192 [none, none, none, some (iv x39), none, none, none, none] [] σ40 := by
      intro x39 σ40 ix39 q
      subst q
      have h := hF5
      refine g_iload_n C dX12_fall_192 rfl ?_
      exact g_iretP C dX12_fall_193 hr hlk h ix39
    have hL5 : ∀ (n : Nat) (x6 : Int) (x7 : Int) (σ8 : St) , InI x6 → InI x7 → lpN (fun a => m_X12_fall_L32 x2 a1 a.1 a.2.1 a.2.2) n (x6, x7, σ8) = some b5 → GM w p l e rm_X12_fall s m args below meth c (some (iv y)) (InI y) σ' 8 32 [some (rv w 170), some (iv a1), some (iv x2), some (iv x6), some (iv x7), none, none, none] [] σ8 := by
      intro n
      induction n with
      | zero => intro x6 x7 σ8 ix6 ix7 q; cases q
      | succ n ih5 =>
        intro x6 x7 σ8 ix6 ix7 q
        obtain ⟨o5, h, hk5⟩ := lp_step q
        replace h : m_X12_fall_L32 x2 a1 x6 x7 σ8 = some o5 := h
        unfold m_X12_fall_L32 at h
        refine g_iload C dX12_fall_32 rfl ?_
        refine g_iload_n C dX12_fall_34 rfl ?_
        refine g_icmp_gt C dX12_fall_35 ix7 ix2 rfl (tgt := 192) (fun c9 => ?_) (fun c9 => ?_)
        · have h := ifT c9 h
          refine g_mask [false, false, false, true, false, true, true, true] ?_
          obtain rfl := Option.some.inj h
          exact hX5 x6 σ8 ix6 (lpR hk5).symm
        · have h := ifF c9 h
          refine g_iload C dX12_fall_38 rfl ?_
          obtain ⟨x10, qx10, h⟩ := bnd h
          refine g_callS1 (As := [iv x7]) C dX12_fall_40 mi_X12_bits ml_12_428 (ct_X12_bits ix7 qx10) rfl ⟨rfl, rfl⟩ ⟨Nat.le_of_ble_eq_true rfl, Nat.le_of_ble_eq_true rfl⟩ ⟨Nat.zero_le _, Nat.zero_le _⟩ rfl (Nat.le_of_ble_eq_true rfl) (fun ix10 => ?_)
          refine g_iload_n C dX12_fall_43 rfl ?_
          refine g_icmp_eq C dX12_fall_44 ix10 ia1 rfl (tgt := 50) (fun c11 => ?_) (fun c11 => ?_)
          · have h := ifT c11 h
            refine g_iload C dX12_fall_50 rfl ?_
            refine g_istore (L1 := [some (rv w 170), some (iv a1), some (iv x2), some (iv x6), some (iv x7), some (iv x7), none, none]) C dX12_fall_52 rfl (Nat.le_of_ble_eq_true rfl) rfl ?_
            refine g_iconst C dX12_fall_54 ?_
            refine g_istore (L1 := [some (rv w 170), some (iv a1), some (iv x2), some (iv x6), some (iv x7), some (iv x7), some (iv 0), none]) C dX12_fall_55 rfl (Nat.le_of_ble_eq_true rfl) rfl ?_
            obtain ⟨b12, hb12, hF12⟩ := bnd h
            have hX12 : ∀ (x27 : Int) , InI x27 → x27 = b12 → GM w p l e rm_X12_fall s m args below meth c (some (iv y)) (InI y) σ' 8 127 [some (rv w 170), some (iv a1), some (iv x2), some (iv x6), some (iv x7), some (iv x27), none, none] [] σ8 := by
              intro x27 ix27 q
              subst q
              have h := hF12
              refine g_iload C dX12_fall_127 rfl ?_
              refine g_aload_n C dX12_fall_129 rfl ?_
              refine g_getI (j := 73) C dX12_fall_130 rfl (Nat.le_of_ble_eq_true rfl) (Nat.le_of_ble_eq_true rfl) fl_12_425 rfl rfl (fun i28 => ?_)
              refine g_ixor C dX12_fall_133 ?_
              obtain ⟨x29, qx29, h⟩ := bnd h
              have qx29 := Option.some.inj qx29
              have ix29 : InI x29 := by rw [← qx29]; exact (ixor _ _)
              refine g_E qx29 ?_
              refine g_istore (L1 := [some (rv w 170), some (iv a1), some (iv x2), some (iv x6), some (iv x7), some (iv x27), some (iv x29), none]) C dX12_fall_134 rfl (Nat.le_of_ble_eq_true rfl) rfl ?_
              refine g_iload_n C dX12_fall_136 rfl ?_
              refine g_iconst C dX12_fall_137 ?_
              have hJ174_38 : m_X12_fall_J174 x27 σ8 x7 = some o5 → GM w p l e rm_X12_fall s m args below meth c (some (iv y)) (InI y) σ' 8 174 [some (rv w 170), some (iv a1), some (iv x2), none, some (iv x7), some (iv x27), none, none] [] σ8 := by
                intro h
                unfold m_X12_fall_J174 at h
                refine g_iload C dX12_fall_174 rfl ?_
                obtain ⟨x36, qx36, h⟩ := bnd h
                refine g_callS1 (As := [iv x27]) C dX12_fall_176 mi_X12_bits ml_12_428 (ct_X12_bits ix27 qx36) rfl ⟨rfl, rfl⟩ ⟨Nat.le_of_ble_eq_true rfl, Nat.le_of_ble_eq_true rfl⟩ ⟨Nat.zero_le _, Nat.zero_le _⟩ rfl (Nat.le_of_ble_eq_true rfl) (fun ix36 => ?_)
                refine g_istore_n (L1 := [some (rv w 170), some (iv a1), some (iv x2), some (iv x36), some (iv x7), some (iv x27), none, none]) C dX12_fall_179 rfl (Nat.le_of_ble_eq_true rfl) rfl ?_
                refine g_aload_n C dX12_fall_180 rfl ?_
                refine g_iload C dX12_fall_181 rfl ?_
                obtain ⟨σ37, qσ37, h⟩ := bnd h
                refine g_putI (j := 73) C dX12_fall_183 rfl (Nat.le_of_ble_eq_true rfl) (Nat.le_of_ble_eq_true rfl) fl_12_425 rfl rfl rfl rfl qσ37 ix7 ?_
                refine g_iinc (L1 := [some (rv w 170), some (iv a1), some (iv x2), some (iv x36), some (iv (wr (x7 + 1))), some (iv x27), none, none]) C dX12_fall_186 rfl rfl (Nat.le_of_ble_eq_true rfl) rfl ?_
                refine g_goto C dX12_fall_189 rfl (tgt := 32) ?_
                refine g_mask [true, true, true, true, true, false, true, true] ?_
                obtain rfl := Option.some.inj h
                exact ih5 _ _ _ ix36 (iwr _) (lpL hk5)
              refine g_icmp_eq C dX12_fall_138 ix6 (by decide) rfl (tgt := 174) (fun c30 => ?_) (fun c30 => ?_)
              · have h := ifT c30 h
                refine g_mask [true, true, true, false, true, true, false, true] ?_
                exact hJ174_38  h
              · have h := ifF c30 h
                refine g_iload C dX12_fall_141 rfl ?_
                obtain ⟨x31, qx31, h⟩ := bnd h
                refine g_callS1 (As := [iv x27]) C dX12_fall_143 mi_X12_bits ml_12_428 (ct_X12_bits ix27 qx31) rfl ⟨rfl, rfl⟩ ⟨Nat.le_of_ble_eq_true rfl, Nat.le_of_ble_eq_true rfl⟩ ⟨Nat.zero_le _, Nat.zero_le _⟩ rfl (Nat.le_of_ble_eq_true rfl) (fun ix31 => ?_)
                refine g_iload_n C dX12_fall_146 rfl ?_
                refine g_icmp_lt C dX12_fall_147 ix31 ix6 rfl (tgt := 186) (fun c32 => ?_) (fun c32 => ?_)
                · have h := ifT c32 h
                  refine g_iinc (L1 := [some (rv w 170), some (iv a1), some (iv x2), some (iv x6), some (iv (wr (x7 + 1))), some (iv x27), some (iv x29), none]) C dX12_fall_186 rfl rfl (Nat.le_of_ble_eq_true rfl) rfl ?_
                  refine g_goto C dX12_fall_189 rfl (tgt := 32) ?_
                  refine g_mask [true, true, true, true, true, false, false, true] ?_
                  obtain rfl := Option.some.inj h
                  exact ih5 _ _ _ ix6 (iwr _) (lpL hk5)
                · have h := ifF c32 h
                  refine g_iload C dX12_fall_150 rfl ?_
                  obtain ⟨x33, qx33, h⟩ := bnd h
                  refine g_callS1 (As := [iv x27]) C dX12_fall_152 mi_X12_bits ml_12_428 (ct_X12_bits ix27 qx33) rfl ⟨rfl, rfl⟩ ⟨Nat.le_of_ble_eq_true rfl, Nat.le_of_ble_eq_true rfl⟩ ⟨Nat.zero_le _, Nat.zero_le _⟩ rfl (Nat.le_of_ble_eq_true rfl) (fun ix33 => ?_)
                  refine g_iload_n C dX12_fall_155 rfl ?_
                  refine g_icmp_ne C dX12_fall_156 ix33 ix6 rfl (tgt := 174) (fun c34 => ?_) (fun c34 => ?_)
                  · have h := ifF c34 h
                    refine g_mask [true, true, true, false, true, true, false, true] ?_
                    exact hJ174_38  h
                  · have h := ifT c34 h
                    refine g_iload C dX12_fall_159 rfl ?_
                    refine g_iload C dX12_fall_161 rfl ?_
                    refine g_iand C dX12_fall_163 ?_
                    refine g_iload C dX12_fall_164 rfl ?_
                    refine g_ineg C dX12_fall_166 ?_
                    refine g_iand C dX12_fall_167 ?_
                    refine g_if_ne C dX12_fall_168 (iand _ _) rfl (tgt := 174) (fun c35 => ?_) (fun c35 => ?_)
                    · have h := ifF c35 h
                      refine g_mask [true, true, true, false, true, true, false, true] ?_
                      exact hJ174_38  h
                    · have h := ifT c35 h
                      refine g_goto C dX12_fall_171 rfl (tgt := 186) ?_
                      refine g_iinc (L1 := [some (rv w 170), some (iv a1), some (iv x2), some (iv x6), some (iv (wr (x7 + 1))), some (iv x27), some (iv x29), none]) C dX12_fall_186 rfl rfl (Nat.le_of_ble_eq_true rfl) rfl ?_
                      refine g_goto C dX12_fall_189 rfl (tgt := 32) ?_
                      refine g_mask [true, true, true, true, true, false, false, true] ?_
                      obtain rfl := Option.some.inj h
                      exact ih5 _ _ _ ix6 (iwr _) (lpL hk5)
            have hL12 : ∀ (n : Nat) (x13 : Int) (x14 : Int) , InI x13 → InI x14 → lpN (fun a => m_X12_fall_L57 σ8 x7 a.1 a.2) n (x13, x14) = some b12 → GM w p l e rm_X12_fall s m args below meth c (some (iv y)) (InI y) σ' 8 57 [some (rv w 170), some (iv a1), some (iv x2), some (iv x6), some (iv x7), some (iv x13), some (iv x14), none] [] σ8 := by
              intro n
              induction n with
              | zero => intro x13 x14 ix13 ix14 q; cases q
              | succ n ih12 =>
                intro x13 x14 ix13 ix14 q
                obtain ⟨o12, h, hk12⟩ := lp_step q
                replace h : m_X12_fall_L57 σ8 x7 x13 x14 = some o12 := h
                unfold m_X12_fall_L57 at h
                refine g_iload C dX12_fall_57 rfl ?_
                refine g_aload_n C dX12_fall_59 rfl ?_
                refine g_getI (j := 48) C dX12_fall_60 rfl (Nat.le_of_ble_eq_true rfl) (Nat.le_of_ble_eq_true rfl) fl_12_110 rfl rfl (fun i15 => ?_)
                refine g_icmp_ge C dX12_fall_63 ix14 i15 rfl (tgt := 127) (fun c16 => ?_) (fun c16 => ?_)
                · have h := ifT c16 h
                  refine g_mask [true, true, true, true, true, true, false, true] ?_
                  obtain rfl := Option.some.inj h
                  exact hX12 x13 ix13 (lpR hk12).symm
                · have h := ifF c16 h
                  refine g_iconst C dX12_fall_66 ?_
                  refine g_istore (L1 := [some (rv w 170), some (iv a1), some (iv x2), some (iv x6), some (iv x7), some (iv x13), some (iv x14), some (iv 0)]) C dX12_fall_67 rfl (Nat.le_of_ble_eq_true rfl) rfl ?_
                  obtain ⟨b17, hb17, hF17⟩ := bnd h
                  have hX17 : ∀ (x26 : Int) , InI x26 → x26 = b17 → GM w p l e rm_X12_fall s m args below meth c (some (iv y)) (InI y) σ' 8 121 [some (rv w 170), some (iv a1), some (iv x2), some (iv x6), some (iv x7), some (iv x26), some (iv x14), none] [] σ8 := by
                    intro x26 ix26 q
                    subst q
                    have h := hF17
                    refine g_iinc (L1 := [some (rv w 170), some (iv a1), some (iv x2), some (iv x6), some (iv x7), some (iv x26), some (iv (wr (x14 + 1))), none]) C dX12_fall_121 rfl rfl (Nat.le_of_ble_eq_true rfl) rfl ?_
                    refine g_goto C dX12_fall_124 rfl (tgt := 57) ?_
                    obtain rfl := Option.some.inj h
                    exact ih12 _ _ ix26 (iwr _) (lpL hk12)
                  have hL17 : ∀ (n : Nat) (x18 : Int) (x19 : Int) , InI x18 → InI x19 → lpN (fun a => m_X12_fall_L69 σ8 x7 x14 a.1 a.2) n (x18, x19) = some b17 → GM w p l e rm_X12_fall s m args below meth c (some (iv y)) (InI y) σ' 8 69 [some (rv w 170), some (iv a1), some (iv x2), some (iv x6), some (iv x7), some (iv x18), some (iv x14), some (iv x19)] [] σ8 := by
                    intro n
                    induction n with
                    | zero => intro x18 x19 ix18 ix19 q; cases q
                    | succ n ih17 =>
                      intro x18 x19 ix18 ix19 q
                      obtain ⟨o17, h, hk17⟩ := lp_step q
                      replace h : m_X12_fall_L69 σ8 x7 x14 x18 x19 = some o17 := h
                      unfold m_X12_fall_L69 at h
                      refine g_iload C dX12_fall_69 rfl ?_
                      refine g_aload_n C dX12_fall_71 rfl ?_
                      refine g_getI (j := 48) C dX12_fall_72 rfl (Nat.le_of_ble_eq_true rfl) (Nat.le_of_ble_eq_true rfl) fl_12_110 rfl rfl (fun i20 => ?_)
                      refine g_icmp_ge C dX12_fall_75 ix19 i20 rfl (tgt := 121) (fun c21 => ?_) (fun c21 => ?_)
                      · have h := ifT c21 h
                        refine g_mask [true, true, true, true, true, true, true, false] ?_
                        obtain rfl := Option.some.inj h
                        exact hX17 x18 ix18 (lpR hk17).symm
                      · have h := ifF c21 h
                        refine g_iload C dX12_fall_78 rfl ?_
                        refine g_iload C dX12_fall_80 rfl ?_
                        refine g_ishr C dX12_fall_82 ?_
                        refine g_iconst C dX12_fall_83 ?_
                        refine g_iand C dX12_fall_84 ?_
                        refine g_iconst C dX12_fall_85 ?_
                        refine g_icmp_ne C dX12_fall_86 (iand _ _) (by decide) rfl (tgt := 115) (fun c22 => ?_) (fun c22 => ?_)
                        · have h := ifF c22 h
                          refine g_iinc (L1 := [some (rv w 170), some (iv a1), some (iv x2), some (iv x6), some (iv x7), some (iv x18), some (iv x14), some (iv (wr (x19 + 1)))]) C dX12_fall_115 rfl rfl (Nat.le_of_ble_eq_true rfl) rfl ?_
                          refine g_goto C dX12_fall_118 rfl (tgt := 69) ?_
                          obtain rfl := Option.some.inj h
                          exact ih17 _ _ ix18 (iwr _) (lpL hk17)
                        · have h := ifT c22 h
                          refine g_aload_n C dX12_fall_89 rfl ?_
                          refine g_getR (j := 55) C dX12_fall_90 rfl (Nat.le_of_ble_eq_true rfl) (Nat.le_of_ble_eq_true rfl) fl_12_131 rfl rfl (r := 207) rfl ?_
                          refine g_bipush C dX12_fall_93 rfl ?_
                          refine g_iload C dX12_fall_95 rfl ?_
                          refine g_imul C dX12_fall_97 ?_
                          refine g_iload C dX12_fall_98 rfl ?_
                          refine g_iadd C dX12_fall_100 ?_
                          obtain ⟨x23, qx23, h⟩ := bnd h
                          refine g_iald C dX12_fall_101 rfl rfl qx23 (iwr _) (fun ix23 => ?_)
                          refine g_iconst C dX12_fall_102 ?_
                          refine g_icmp_eq C dX12_fall_103 ix23 (by decide) rfl (tgt := 115) (fun c24 => ?_) (fun c24 => ?_)
                          · have h := ifT c24 h
                            refine g_iinc (L1 := [some (rv w 170), some (iv a1), some (iv x2), some (iv x6), some (iv x7), some (iv x18), some (iv x14), some (iv (wr (x19 + 1)))]) C dX12_fall_115 rfl rfl (Nat.le_of_ble_eq_true rfl) rfl ?_
                            refine g_goto C dX12_fall_118 rfl (tgt := 69) ?_
                            obtain rfl := Option.some.inj h
                            exact ih17 _ _ ix18 (iwr _) (lpL hk17)
                          · have h := ifF c24 h
                            refine g_iload C dX12_fall_106 rfl ?_
                            refine g_iconst C dX12_fall_108 ?_
                            refine g_iload C dX12_fall_109 rfl ?_
                            refine g_ishl C dX12_fall_111 ?_
                            refine g_ior C dX12_fall_112 ?_
                            obtain ⟨x25, qx25, h⟩ := bnd h
                            have qx25 := Option.some.inj qx25
                            have ix25 : InI x25 := by rw [← qx25]; exact (ior _ _)
                            refine g_E qx25 ?_
                            refine g_istore (L1 := [some (rv w 170), some (iv a1), some (iv x2), some (iv x6), some (iv x7), some (iv x25), some (iv x14), some (iv x19)]) C dX12_fall_113 rfl (Nat.le_of_ble_eq_true rfl) rfl ?_
                            refine g_iinc (L1 := [some (rv w 170), some (iv a1), some (iv x2), some (iv x6), some (iv x7), some (iv x25), some (iv x14), some (iv (wr (x19 + 1)))]) C dX12_fall_115 rfl rfl (Nat.le_of_ble_eq_true rfl) rfl ?_
                            refine g_goto C dX12_fall_118 rfl (tgt := 69) ?_
                            obtain rfl := Option.some.inj h
                            exact ih17 _ _ ix25 (iwr _) (lpL hk17)
                  exact hL17 FU _ _ ix13 (by decide) hb17
            exact hL12 FU _ _ ix7 (by decide) hb12
          · have h := ifF c11 h
            refine g_goto C dX12_fall_47 rfl (tgt := 186) ?_
            refine g_iinc (L1 := [some (rv w 170), some (iv a1), some (iv x2), some (iv x6), some (iv (wr (x7 + 1))), none, none, none]) C dX12_fall_186 rfl rfl (Nat.le_of_ble_eq_true rfl) rfl ?_
            refine g_goto C dX12_fall_189 rfl (tgt := 32) ?_
            obtain rfl := Option.some.inj h
            exact ih5 _ _ _ ix6 (iwr _) (lpL hk5)
    exact hL5 FU _ _ _ (by decide) (by decide) hb5
  · have h := ifF c4 h
    refine g_aload_n C dX12_fall_17 rfl ?_
    refine g_iload_n C dX12_fall_18 rfl ?_
    obtain ⟨σ41, qσ41, h⟩ := bnd h
    refine g_putI (j := 73) C dX12_fall_19 rfl (Nat.le_of_ble_eq_true rfl) (Nat.le_of_ble_eq_true rfl) fl_12_425 rfl rfl rfl rfl qσ41 ix2 ?_
    refine g_aload_n C dX12_fall_22 rfl ?_
    refine g_getI (j := 48) C dX12_fall_23 rfl (Nat.le_of_ble_eq_true rfl) (Nat.le_of_ble_eq_true rfl) fl_12_110 rfl rfl (fun i42 => ?_)
    exact g_iretP C dX12_fall_26 hr hlk h i42
theorem dX12_falls_0 : decode cX12_falls 0 = .ok (.aload_n 0, 1) := by decide +kernel
theorem dX12_falls_1 : decode cX12_falls 1 = .ok (.iconst 0, 1) := by decide +kernel
theorem dX12_falls_2 : decode cX12_falls 2 = .ok (.putfield 1, 3) := by decide +kernel
theorem dX12_falls_5 : decode cX12_falls 5 = .ok (.aload_n 0, 1) := by decide +kernel
theorem dX12_falls_6 : decode cX12_falls 6 = .ok (.getfield 110, 3) := by decide +kernel
theorem dX12_falls_9 : decode cX12_falls 9 = .ok (.iconst (-1), 1) := by decide +kernel
theorem dX12_falls_10 : decode cX12_falls 10 = .ok (.if_icmp .eq 13, 3) := by decide +kernel
theorem dX12_falls_13 : decode cX12_falls 13 = .ok (.iload_n 1, 1) := by decide +kernel
theorem dX12_falls_14 : decode cX12_falls 14 = .ok (.iconst 1, 1) := by decide +kernel
theorem dX12_falls_15 : decode cX12_falls 15 = .ok (.if_icmp .lt 8, 3) := by decide +kernel
theorem dX12_falls_18 : decode cX12_falls 18 = .ok (.iload_n 1, 1) := by decide +kernel
theorem dX12_falls_19 : decode cX12_falls 19 = .ok (.iconst 3, 1) := by decide +kernel
theorem dX12_falls_20 : decode cX12_falls 20 = .ok (.if_icmp .le 7, 3) := by decide +kernel
theorem dX12_falls_23 : decode cX12_falls 23 = .ok (.iconst (-1), 1) := by decide +kernel
theorem dX12_falls_24 : decode cX12_falls 24 = .ok (.goto 8, 3) := by decide +kernel
theorem dX12_falls_27 : decode cX12_falls 27 = .ok (.aload_n 0, 1) := by decide +kernel
theorem dX12_falls_28 : decode cX12_falls 28 = .ok (.iload_n 1, 1) := by decide +kernel
theorem dX12_falls_29 : decode cX12_falls 29 = .ok (.invokevirtual 431, 3) := by decide +kernel
theorem dX12_falls_32 : decode cX12_falls 32 = .ok (.ireturn, 1) := by decide +kernel
abbrev rm_X12_falls : Room := { frames := 2, cells := 0, slots := 0, locals := 49 }
set_option maxRecDepth 100000 in
set_option maxHeartbeats 4000000 in
theorem ct_X12_falls {w : Wd} {l : Launch} {a1 : Int} {σ : St} {y : Int} {σ' : St} (ia1 : InI a1) (h : m_X12_falls a1 σ = some (y, σ')) : Ct w l yX12_falls (Cond.code yX12_falls cX12_falls 2 (some .int) :: TB) rm_X12_falls [rv w 170, iv a1] σ (some (iv y)) (InI y) σ' := by
  refine Ct.of2 [some (rv w 170), some (iv a1)] 0 rfl pn_RX12 (Nat.le_of_ble_eq_true rfl) ?_
  intro p e s m args below meth c C hr hlk
  unfold m_X12_falls at h
  refine g_aload_n C dX12_falls_0 rfl ?_
  refine g_iconst C dX12_falls_1 ?_
  obtain ⟨σ1, qσ1, h⟩ := bnd h
  refine g_putI (j := 0) C dX12_falls_2 rfl (Nat.le_of_ble_eq_true rfl) (Nat.le_of_ble_eq_true rfl) fl_12_1 rfl rfl rfl rfl qσ1 (by decide) ?_
  refine g_aload_n C dX12_falls_5 rfl ?_
  refine g_getI (j := 48) C dX12_falls_6 rfl (Nat.le_of_ble_eq_true rfl) (Nat.le_of_ble_eq_true rfl) fl_12_110 rfl rfl (fun i2 => ?_)
  refine g_iconst C dX12_falls_9 ?_
  refine g_icmp_eq C dX12_falls_10 i2 (by decide) rfl (tgt := 23) (fun c3 => ?_) (fun c3 => ?_)
  · have h := ifT c3 h
    refine g_iconst C dX12_falls_23 ?_
    refine g_goto C dX12_falls_24 rfl (tgt := 32) ?_
    exact g_iretP C dX12_falls_32 hr hlk h (by decide)
  · have h := ifF c3 h
    refine g_iload_n C dX12_falls_13 rfl ?_
    refine g_iconst C dX12_falls_14 ?_
    refine g_icmp_lt C dX12_falls_15 ia1 (by decide) rfl (tgt := 23) (fun c4 => ?_) (fun c4 => ?_)
    · have h := ifT c4 h
      refine g_iconst C dX12_falls_23 ?_
      refine g_goto C dX12_falls_24 rfl (tgt := 32) ?_
      exact g_iretP C dX12_falls_32 hr hlk h (by decide)
    · have h := ifF c4 h
      refine g_iload_n C dX12_falls_18 rfl ?_
      refine g_iconst C dX12_falls_19 ?_
      refine g_icmp_le C dX12_falls_20 ia1 (by decide) rfl (tgt := 27) (fun c5 => ?_) (fun c5 => ?_)
      · have h := ifT c5 h
        refine g_aload_n C dX12_falls_27 rfl ?_
        refine g_iload_n C dX12_falls_28 rfl ?_
        obtain ⟨⟨x6, σ7⟩, qx6, h⟩ := bnd h
        refine g_callV1 (As := [iv a1]) C dX12_falls_29 mi_X12_fall ml_12_431 (ct_X12_fall ia1 qx6) rfl rfl ⟨rfl, rfl⟩ ⟨Nat.le_of_ble_eq_true rfl, Nat.le_of_ble_eq_true rfl⟩ ⟨Nat.zero_le _, Nat.zero_le _⟩ rfl (Nat.le_of_ble_eq_true rfl) (fun ix6 => ?_)
        exact g_iretP C dX12_falls_32 hr hlk h ix6
      · have h := ifF c5 h
        refine g_iconst C dX12_falls_23 ?_
        refine g_goto C dX12_falls_24 rfl (tgt := 32) ?_
        exact g_iretP C dX12_falls_32 hr hlk h (by decide)
theorem dX12_fallen_0 : decode cX12_fallen 0 = .ok (.aload_n 0, 1) := by decide +kernel
theorem dX12_fallen_1 : decode cX12_fallen 1 = .ok (.iconst 0, 1) := by decide +kernel
theorem dX12_fallen_2 : decode cX12_fallen 2 = .ok (.putfield 1, 3) := by decide +kernel
theorem dX12_fallen_5 : decode cX12_fallen 5 = .ok (.aload_n 0, 1) := by decide +kernel
theorem dX12_fallen_6 : decode cX12_fallen 6 = .ok (.getfield 110, 3) := by decide +kernel
theorem dX12_fallen_9 : decode cX12_fallen 9 = .ok (.iconst (-1), 1) := by decide +kernel
theorem dX12_fallen_10 : decode cX12_fallen 10 = .ok (.if_icmp .eq 13, 3) := by decide +kernel
theorem dX12_fallen_13 : decode cX12_fallen 13 = .ok (.iload_n 1, 1) := by decide +kernel
theorem dX12_fallen_14 : decode cX12_fallen 14 = .ok (.iconst 1, 1) := by decide +kernel
theorem dX12_fallen_15 : decode cX12_fallen 15 = .ok (.if_icmp .lt 8, 3) := by decide +kernel
theorem dX12_fallen_18 : decode cX12_fallen 18 = .ok (.iload_n 1, 1) := by decide +kernel
theorem dX12_fallen_19 : decode cX12_fallen 19 = .ok (.iconst 3, 1) := by decide +kernel
theorem dX12_fallen_20 : decode cX12_fallen 20 = .ok (.if_icmp .le 5, 3) := by decide +kernel
theorem dX12_fallen_23 : decode cX12_fallen 23 = .ok (.iconst (-1), 1) := by decide +kernel
theorem dX12_fallen_24 : decode cX12_fallen 24 = .ok (.ireturn, 1) := by decide +kernel
theorem dX12_fallen_25 : decode cX12_fallen 25 = .ok (.aload_n 0, 1) := by decide +kernel
theorem dX12_fallen_26 : decode cX12_fallen 26 = .ok (.iload_n 1, 1) := by decide +kernel
theorem dX12_fallen_27 : decode cX12_fallen 27 = .ok (.invokevirtual 431, 3) := by decide +kernel
theorem dX12_fallen_30 : decode cX12_fallen 30 = .ok (.istore_n 2, 1) := by decide +kernel
theorem dX12_fallen_31 : decode cX12_fallen 31 = .ok (.iload_n 2, 1) := by decide +kernel
theorem dX12_fallen_32 : decode cX12_fallen 32 = .ok (.ifCond .ge 7, 3) := by decide +kernel
theorem dX12_fallen_35 : decode cX12_fallen 35 = .ok (.iconst (-1), 1) := by decide +kernel
theorem dX12_fallen_36 : decode cX12_fallen 36 = .ok (.goto 7, 3) := by decide +kernel
theorem dX12_fallen_39 : decode cX12_fallen 39 = .ok (.aload_n 0, 1) := by decide +kernel
theorem dX12_fallen_40 : decode cX12_fallen 40 = .ok (.getfield 425, 3) := by decide +kernel
theorem dX12_fallen_43 : decode cX12_fallen 43 = .ok (.ireturn, 1) := by decide +kernel
abbrev rm_X12_fallen : Room := { frames := 2, cells := 0, slots := 0, locals := 49 }
set_option maxRecDepth 100000 in
set_option maxHeartbeats 4000000 in
theorem ct_X12_fallen {w : Wd} {l : Launch} {a1 : Int} {σ : St} {y : Int} {σ' : St} (ia1 : InI a1) (h : m_X12_fallen a1 σ = some (y, σ')) : Ct w l yX12_fallen (Cond.code yX12_fallen cX12_fallen 3 (some .int) :: TB) rm_X12_fallen [rv w 170, iv a1] σ (some (iv y)) (InI y) σ' := by
  refine Ct.of2 [some (rv w 170), some (iv a1), none] 1 rfl pn_RX12 (Nat.le_of_ble_eq_true rfl) ?_
  intro p e s m args below meth c C hr hlk
  unfold m_X12_fallen at h
  refine g_aload_n C dX12_fallen_0 rfl ?_
  refine g_iconst C dX12_fallen_1 ?_
  obtain ⟨σ1, qσ1, h⟩ := bnd h
  refine g_putI (j := 0) C dX12_fallen_2 rfl (Nat.le_of_ble_eq_true rfl) (Nat.le_of_ble_eq_true rfl) fl_12_1 rfl rfl rfl rfl qσ1 (by decide) ?_
  refine g_aload_n C dX12_fallen_5 rfl ?_
  refine g_getI (j := 48) C dX12_fallen_6 rfl (Nat.le_of_ble_eq_true rfl) (Nat.le_of_ble_eq_true rfl) fl_12_110 rfl rfl (fun i2 => ?_)
  refine g_iconst C dX12_fallen_9 ?_
  refine g_icmp_eq C dX12_fallen_10 i2 (by decide) rfl (tgt := 23) (fun c3 => ?_) (fun c3 => ?_)
  · have h := ifT c3 h
    refine g_iconst C dX12_fallen_23 ?_
    exact g_iretP C dX12_fallen_24 hr hlk h (by decide)
  · have h := ifF c3 h
    refine g_iload_n C dX12_fallen_13 rfl ?_
    refine g_iconst C dX12_fallen_14 ?_
    refine g_icmp_lt C dX12_fallen_15 ia1 (by decide) rfl (tgt := 23) (fun c4 => ?_) (fun c4 => ?_)
    · have h := ifT c4 h
      refine g_iconst C dX12_fallen_23 ?_
      exact g_iretP C dX12_fallen_24 hr hlk h (by decide)
    · have h := ifF c4 h
      refine g_iload_n C dX12_fallen_18 rfl ?_
      refine g_iconst C dX12_fallen_19 ?_
      refine g_icmp_le C dX12_fallen_20 ia1 (by decide) rfl (tgt := 25) (fun c5 => ?_) (fun c5 => ?_)
      · have h := ifT c5 h
        refine g_aload_n C dX12_fallen_25 rfl ?_
        refine g_iload_n C dX12_fallen_26 rfl ?_
        obtain ⟨⟨x6, σ7⟩, qx6, h⟩ := bnd h
        refine g_callV1 (As := [iv a1]) C dX12_fallen_27 mi_X12_fall ml_12_431 (ct_X12_fall ia1 qx6) rfl rfl ⟨rfl, rfl⟩ ⟨Nat.le_of_ble_eq_true rfl, Nat.le_of_ble_eq_true rfl⟩ ⟨Nat.zero_le _, Nat.zero_le _⟩ rfl (Nat.le_of_ble_eq_true rfl) (fun ix6 => ?_)
        refine g_istore_n (L1 := [some (rv w 170), some (iv a1), some (iv x6)]) C dX12_fallen_30 rfl (Nat.le_of_ble_eq_true rfl) rfl ?_
        refine g_iload_n C dX12_fallen_31 rfl ?_
        refine g_if_ge C dX12_fallen_32 ix6 rfl (tgt := 39) (fun c8 => ?_) (fun c8 => ?_)
        · have h := ifT c8 h
          refine g_aload_n C dX12_fallen_39 rfl ?_
          refine g_getI (j := 73) C dX12_fallen_40 rfl (Nat.le_of_ble_eq_true rfl) (Nat.le_of_ble_eq_true rfl) fl_12_425 rfl rfl (fun i9 => ?_)
          exact g_iretP C dX12_fallen_43 hr hlk h i9
        · have h := ifF c8 h
          refine g_iconst C dX12_fallen_35 ?_
          refine g_goto C dX12_fallen_36 rfl (tgt := 43) ?_
          exact g_iretP C dX12_fallen_43 hr hlk h (by decide)
      · have h := ifF c5 h
        refine g_iconst C dX12_fallen_23 ?_
        exact g_iretP C dX12_fallen_24 hr hlk h (by decide)
theorem dX12_isBetween_0 : decode cX12_isBetween 0 = .ok (.aload_n 0, 1) := by decide +kernel
theorem dX12_isBetween_1 : decode cX12_isBetween 1 = .ok (.getfield 67, 3) := by decide +kernel
theorem dX12_isBetween_4 : decode cX12_isBetween 4 = .ok (.iload_n 1, 1) := by decide +kernel
theorem dX12_isBetween_5 : decode cX12_isBetween 5 = .ok (.iaload, 1) := by decide +kernel
theorem dX12_isBetween_6 : decode cX12_isBetween 6 = .ok (.iload_n 2, 1) := by decide +kernel
theorem dX12_isBetween_7 : decode cX12_isBetween 7 = .ok (.if_icmp .ne 13, 3) := by decide +kernel
theorem dX12_isBetween_10 : decode cX12_isBetween 10 = .ok (.aload_n 0, 1) := by decide +kernel
theorem dX12_isBetween_11 : decode cX12_isBetween 11 = .ok (.getfield 70, 3) := by decide +kernel
theorem dX12_isBetween_14 : decode cX12_isBetween 14 = .ok (.iload_n 1, 1) := by decide +kernel
theorem dX12_isBetween_15 : decode cX12_isBetween 15 = .ok (.iaload, 1) := by decide +kernel
theorem dX12_isBetween_16 : decode cX12_isBetween 16 = .ok (.iload_n 3, 1) := by decide +kernel
theorem dX12_isBetween_17 : decode cX12_isBetween 17 = .ok (.if_icmp .eq 23, 3) := by decide +kernel
theorem dX12_isBetween_20 : decode cX12_isBetween 20 = .ok (.aload_n 0, 1) := by decide +kernel
theorem dX12_isBetween_21 : decode cX12_isBetween 21 = .ok (.getfield 67, 3) := by decide +kernel
theorem dX12_isBetween_24 : decode cX12_isBetween 24 = .ok (.iload_n 1, 1) := by decide +kernel
theorem dX12_isBetween_25 : decode cX12_isBetween 25 = .ok (.iaload, 1) := by decide +kernel
theorem dX12_isBetween_26 : decode cX12_isBetween 26 = .ok (.iload_n 3, 1) := by decide +kernel
theorem dX12_isBetween_27 : decode cX12_isBetween 27 = .ok (.if_icmp .ne 17, 3) := by decide +kernel
theorem dX12_isBetween_30 : decode cX12_isBetween 30 = .ok (.aload_n 0, 1) := by decide +kernel
theorem dX12_isBetween_31 : decode cX12_isBetween 31 = .ok (.getfield 70, 3) := by decide +kernel
theorem dX12_isBetween_34 : decode cX12_isBetween 34 = .ok (.iload_n 1, 1) := by decide +kernel
theorem dX12_isBetween_35 : decode cX12_isBetween 35 = .ok (.iaload, 1) := by decide +kernel
theorem dX12_isBetween_36 : decode cX12_isBetween 36 = .ok (.iload_n 2, 1) := by decide +kernel
theorem dX12_isBetween_37 : decode cX12_isBetween 37 = .ok (.if_icmp .ne 7, 3) := by decide +kernel
theorem dX12_isBetween_40 : decode cX12_isBetween 40 = .ok (.iconst 1, 1) := by decide +kernel
theorem dX12_isBetween_41 : decode cX12_isBetween 41 = .ok (.goto 4, 3) := by decide +kernel
theorem dX12_isBetween_44 : decode cX12_isBetween 44 = .ok (.iconst 0, 1) := by decide +kernel
theorem dX12_isBetween_45 : decode cX12_isBetween 45 = .ok (.ireturn, 1) := by decide +kernel
abbrev rm_X12_isBetween : Room := { frames := 0, cells := 0, slots := 0, locals := 0 }
set_option maxRecDepth 100000 in
set_option maxHeartbeats 4000000 in
theorem ct_X12_isBetween {w : Wd} {l : Launch} {a1 : Int} {a2 : Int} {a3 : Int} {σ : St} {y : Int} (ia1 : InI a1) (ia2 : InI a2) (ia3 : InI a3) (h : m_X12_isBetween a1 a2 a3 σ = some y) : Ct w l yX12_isBetween (Cond.code yX12_isBetween cX12_isBetween 4 (some .boolean) :: TB) rm_X12_isBetween [rv w 170, iv a1, iv a2, iv a3] σ (some (iv y)) (InZ y) σ := by
  refine Ct.of2 [some (rv w 170), some (iv a1), some (iv a2), some (iv a3)] 0 rfl pn_RX12 (Nat.le_of_ble_eq_true rfl) ?_
  intro p e s m args below meth c C hr hlk
  unfold m_X12_isBetween at h
  refine g_aload_n C dX12_isBetween_0 rfl ?_
  refine g_getR (j := 32) C dX12_isBetween_1 rfl (Nat.le_of_ble_eq_true rfl) (Nat.le_of_ble_eq_true rfl) fl_12_67 rfl rfl (r := 187) rfl ?_
  refine g_iload_n C dX12_isBetween_4 rfl ?_
  obtain ⟨x1, qx1, h⟩ := bnd h
  refine g_iald C dX12_isBetween_5 rfl rfl qx1 ia1 (fun ix1 => ?_)
  refine g_iload_n C dX12_isBetween_6 rfl ?_
  have hJ20_9 : m_X12_isBetween_J20 σ a1 a3 a2 = some y → GM w p l e rm_X12_isBetween s m args below meth c (some (iv y)) (InZ y) σ 4 20 [some (rv w 170), some (iv a1), some (iv a2), some (iv a3)] [] σ := by
    intro h
    unfold m_X12_isBetween_J20 at h
    refine g_aload_n C dX12_isBetween_20 rfl ?_
    refine g_getR (j := 32) C dX12_isBetween_21 rfl (Nat.le_of_ble_eq_true rfl) (Nat.le_of_ble_eq_true rfl) fl_12_67 rfl rfl (r := 187) rfl ?_
    refine g_iload_n C dX12_isBetween_24 rfl ?_
    obtain ⟨x5, qx5, h⟩ := bnd h
    refine g_iald C dX12_isBetween_25 rfl rfl qx5 ia1 (fun ix5 => ?_)
    refine g_iload_n C dX12_isBetween_26 rfl ?_
    refine g_icmp_ne C dX12_isBetween_27 ix5 ia3 rfl (tgt := 44) (fun c6 => ?_) (fun c6 => ?_)
    · have h := ifF c6 h
      refine g_iconst C dX12_isBetween_44 ?_
      exact g_zretU C dX12_isBetween_45 hr hlk h (Or.inl rfl)
    · have h := ifT c6 h
      refine g_aload_n C dX12_isBetween_30 rfl ?_
      refine g_getR (j := 33) C dX12_isBetween_31 rfl (Nat.le_of_ble_eq_true rfl) (Nat.le_of_ble_eq_true rfl) fl_12_70 rfl rfl (r := 188) rfl ?_
      refine g_iload_n C dX12_isBetween_34 rfl ?_
      obtain ⟨x7, qx7, h⟩ := bnd h
      refine g_iald C dX12_isBetween_35 rfl rfl qx7 ia1 (fun ix7 => ?_)
      refine g_iload_n C dX12_isBetween_36 rfl ?_
      refine g_icmp_ne C dX12_isBetween_37 ix7 ia2 rfl (tgt := 44) (fun c8 => ?_) (fun c8 => ?_)
      · have h := ifF c8 h
        refine g_iconst C dX12_isBetween_44 ?_
        exact g_zretU C dX12_isBetween_45 hr hlk h (Or.inl rfl)
      · have h := ifT c8 h
        refine g_iconst C dX12_isBetween_40 ?_
        refine g_goto C dX12_isBetween_41 rfl (tgt := 45) ?_
        exact g_zretU C dX12_isBetween_45 hr hlk h (Or.inr rfl)
  refine g_icmp_ne C dX12_isBetween_7 ix1 ia2 rfl (tgt := 20) (fun c2 => ?_) (fun c2 => ?_)
  · have h := ifF c2 h
    exact hJ20_9  h
  · have h := ifT c2 h
    refine g_aload_n C dX12_isBetween_10 rfl ?_
    refine g_getR (j := 33) C dX12_isBetween_11 rfl (Nat.le_of_ble_eq_true rfl) (Nat.le_of_ble_eq_true rfl) fl_12_70 rfl rfl (r := 188) rfl ?_
    refine g_iload_n C dX12_isBetween_14 rfl ?_
    obtain ⟨x3, qx3, h⟩ := bnd h
    refine g_iald C dX12_isBetween_15 rfl rfl qx3 ia1 (fun ix3 => ?_)
    refine g_iload_n C dX12_isBetween_16 rfl ?_
    refine g_icmp_eq C dX12_isBetween_17 ix3 ia3 rfl (tgt := 40) (fun c4 => ?_) (fun c4 => ?_)
    · have h := ifT c4 h
      refine g_iconst C dX12_isBetween_40 ?_
      refine g_goto C dX12_isBetween_41 rfl (tgt := 45) ?_
      exact g_zretU C dX12_isBetween_45 hr hlk h (Or.inr rfl)
    · have h := ifF c4 h
      exact hJ20_9  h
theorem dX12_isFree_0 : decode cX12_isFree 0 = .ok (.iload_n 2, 1) := by decide +kernel
theorem dX12_isFree_1 : decode cX12_isFree 1 = .ok (.iconst 1, 1) := by decide +kernel
theorem dX12_isFree_2 : decode cX12_isFree 2 = .ok (.iadd, 1) := by decide +kernel
theorem dX12_isFree_3 : decode cX12_isFree 3 = .ok (.istore 4, 2) := by decide +kernel
theorem dX12_isFree_5 : decode cX12_isFree 5 = .ok (.iload 4, 2) := by decide +kernel
theorem dX12_isFree_7 : decode cX12_isFree 7 = .ok (.iload_n 2, 1) := by decide +kernel
theorem dX12_isFree_8 : decode cX12_isFree 8 = .ok (.iload_n 3, 1) := by decide +kernel
theorem dX12_isFree_9 : decode cX12_isFree 9 = .ok (.iadd, 1) := by decide +kernel
theorem dX12_isFree_10 : decode cX12_isFree 10 = .ok (.if_icmp .ge 33, 3) := by decide +kernel
theorem dX12_isFree_13 : decode cX12_isFree 13 = .ok (.iload 4, 2) := by decide +kernel
theorem dX12_isFree_15 : decode cX12_isFree 15 = .ok (.bipush 96, 2) := by decide +kernel
theorem dX12_isFree_17 : decode cX12_isFree 17 = .ok (.if_icmp .ge 26, 3) := by decide +kernel
theorem dX12_isFree_20 : decode cX12_isFree 20 = .ok (.aload_n 0, 1) := by decide +kernel
theorem dX12_isFree_21 : decode cX12_isFree 21 = .ok (.getfield 188, 3) := by decide +kernel
theorem dX12_isFree_24 : decode cX12_isFree 24 = .ok (.bipush 96, 2) := by decide +kernel
theorem dX12_isFree_26 : decode cX12_isFree 26 = .ok (.iload_n 1, 1) := by decide +kernel
theorem dX12_isFree_27 : decode cX12_isFree 27 = .ok (.imul, 1) := by decide +kernel
theorem dX12_isFree_28 : decode cX12_isFree 28 = .ok (.iload 4, 2) := by decide +kernel
theorem dX12_isFree_30 : decode cX12_isFree 30 = .ok (.iadd, 1) := by decide +kernel
theorem dX12_isFree_31 : decode cX12_isFree 31 = .ok (.baload, 1) := by decide +kernel
theorem dX12_isFree_32 : decode cX12_isFree 32 = .ok (.ifCond .eq 5, 3) := by decide +kernel
theorem dX12_isFree_35 : decode cX12_isFree 35 = .ok (.iconst 0, 1) := by decide +kernel
theorem dX12_isFree_36 : decode cX12_isFree 36 = .ok (.ireturn, 1) := by decide +kernel
theorem dX12_isFree_37 : decode cX12_isFree 37 = .ok (.iinc 4 1, 3) := by decide +kernel
theorem dX12_isFree_40 : decode cX12_isFree 40 = .ok (.goto (-35), 3) := by decide +kernel
theorem dX12_isFree_43 : decode cX12_isFree 43 = .ok (.iconst 1, 1) := by decide +kernel
theorem dX12_isFree_44 : decode cX12_isFree 44 = .ok (.ireturn, 1) := by decide +kernel
abbrev rm_X12_isFree : Room := { frames := 0, cells := 0, slots := 0, locals := 0 }
set_option maxRecDepth 100000 in
set_option maxHeartbeats 4000000 in
theorem ct_X12_isFree {w : Wd} {l : Launch} {a1 : Int} {a2 : Int} {a3 : Int} {σ : St} {y : Int} (ia1 : InI a1) (ia2 : InI a2) (ia3 : InI a3) (h : m_X12_isFree a1 a2 a3 σ = some y) : Ct w l yX12_isFree (Cond.code yX12_isFree cX12_isFree 5 (some .boolean) :: TB) rm_X12_isFree [rv w 170, iv a1, iv a2, iv a3] σ (some (iv y)) (InZ y) σ := by
  refine Ct.of2 [some (rv w 170), some (iv a1), some (iv a2), some (iv a3), none] 1 rfl pn_RX12 (Nat.le_of_ble_eq_true rfl) ?_
  intro p e s m args below meth c C hr hlk
  unfold m_X12_isFree at h
  refine g_iload_n C dX12_isFree_0 rfl ?_
  refine g_iconst C dX12_isFree_1 ?_
  refine g_iadd C dX12_isFree_2 ?_
  obtain ⟨x1, qx1, h⟩ := bnd h
  have qx1 := Option.some.inj qx1
  have ix1 : InI x1 := by rw [← qx1]; exact (iwr _)
  refine g_E qx1 ?_
  refine g_istore (L1 := [some (rv w 170), some (iv a1), some (iv a2), some (iv a3), some (iv x1)]) C dX12_isFree_3 rfl (Nat.le_of_ble_eq_true rfl) rfl ?_
  obtain ⟨b2, hb2, hF2⟩ := bnd h
  have hX2 : Sum.inl () = b2 → GM w p l e rm_X12_isFree s m args below meth c (some (iv y)) (InZ y) σ 5 43 [none, none, none, none, none] [] σ := by
    intro q
    subst q
    have h := hF2
    refine g_iconst C dX12_isFree_43 ?_
    exact g_zretU C dX12_isFree_44 hr hlk h (Or.inr rfl)
  have hL2 : ∀ (n : Nat) (x3 : Int) , InI x3 → lpN (fun a => m_X12_isFree_L5 a2 a3 σ a1 a) n x3 = some b2 → GM w p l e rm_X12_isFree s m args below meth c (some (iv y)) (InZ y) σ 5 5 [some (rv w 170), some (iv a1), some (iv a2), some (iv a3), some (iv x3)] [] σ := by
    intro n
    induction n with
    | zero => intro x3 ix3 q; cases q
    | succ n ih2 =>
      intro x3 ix3 q
      obtain ⟨o2, h, hk2⟩ := lp_step q
      replace h : m_X12_isFree_L5 a2 a3 σ a1 x3 = some o2 := h
      unfold m_X12_isFree_L5 at h
      refine g_iload C dX12_isFree_5 rfl ?_
      refine g_iload_n C dX12_isFree_7 rfl ?_
      refine g_iload_n C dX12_isFree_8 rfl ?_
      refine g_iadd C dX12_isFree_9 ?_
      refine g_icmp_ge C dX12_isFree_10 ix3 (iwr _) rfl (tgt := 43) (fun c4 => ?_) (fun c4 => ?_)
      · have h := ifT c4 h
        refine g_mask [false, false, false, false, false] ?_
        obtain rfl := Option.some.inj h
        exact hX2  (lpR hk2).symm
      · have h := ifF c4 h
        refine g_iload C dX12_isFree_13 rfl ?_
        refine g_bipush C dX12_isFree_15 rfl ?_
        refine g_icmp_ge C dX12_isFree_17 ix3 (by decide) rfl (tgt := 43) (fun c5 => ?_) (fun c5 => ?_)
        · have h := ifT c5 h
          refine g_mask [false, false, false, false, false] ?_
          obtain rfl := Option.some.inj h
          exact hX2  (lpR hk2).symm
        · have h := ifF c5 h
          refine g_aload_n C dX12_isFree_20 rfl ?_
          refine g_getR (j := 79) C dX12_isFree_21 rfl (Nat.le_of_ble_eq_true rfl) (Nat.le_of_ble_eq_true rfl) fl_12_188 rfl rfl (r := 225) rfl ?_
          refine g_bipush C dX12_isFree_24 rfl ?_
          refine g_iload_n C dX12_isFree_26 rfl ?_
          refine g_imul C dX12_isFree_27 ?_
          refine g_iload C dX12_isFree_28 rfl ?_
          refine g_iadd C dX12_isFree_30 ?_
          obtain ⟨x6, qx6, h⟩ := bnd h
          refine g_zald C dX12_isFree_31 rfl rfl qx6 (iwr _) (fun ix6 => ?_)
          refine g_if_eq C dX12_isFree_32 (zI ix6) rfl (tgt := 37) (fun c7 => ?_) (fun c7 => ?_)
          · have h := ifT c7 h
            refine g_iinc (L1 := [some (rv w 170), some (iv a1), some (iv a2), some (iv a3), some (iv (wr (x3 + 1)))]) C dX12_isFree_37 rfl rfl (Nat.le_of_ble_eq_true rfl) rfl ?_
            refine g_goto C dX12_isFree_40 rfl (tgt := 5) ?_
            obtain rfl := Option.some.inj h
            exact ih2 _ (iwr _) (lpL hk2)
          · have h := ifF c7 h
            refine g_iconst C dX12_isFree_35 ?_
            obtain rfl := Option.some.inj h
            have e2 := (lpR hk2).symm
            subst e2
            have h := hF2
            exact g_zretU C dX12_isFree_36 hr hlk h (Or.inl rfl)
  exact hL2 FU _ ix1 hb2
theorem dX12_goesOne_0 : decode cX12_goesOne 0 = .ok (.iconst 0, 1) := by decide +kernel
theorem dX12_goesOne_1 : decode cX12_goesOne 1 = .ok (.istore_n 3, 1) := by decide +kernel
theorem dX12_goesOne_2 : decode cX12_goesOne 2 = .ok (.iload_n 3, 1) := by decide +kernel
theorem dX12_goesOne_3 : decode cX12_goesOne 3 = .ok (.bipush 96, 2) := by decide +kernel
theorem dX12_goesOne_5 : decode cX12_goesOne 5 = .ok (.if_icmp .ge 66, 3) := by decide +kernel
theorem dX12_goesOne_8 : decode cX12_goesOne 8 = .ok (.iconst 0, 1) := by decide +kernel
theorem dX12_goesOne_9 : decode cX12_goesOne 9 = .ok (.istore 4, 2) := by decide +kernel
theorem dX12_goesOne_11 : decode cX12_goesOne 11 = .ok (.iload 4, 2) := by decide +kernel
theorem dX12_goesOne_13 : decode cX12_goesOne 13 = .ok (.bipush 10, 2) := by decide +kernel
theorem dX12_goesOne_15 : decode cX12_goesOne 15 = .ok (.if_icmp .ge 50, 3) := by decide +kernel
theorem dX12_goesOne_18 : decode cX12_goesOne 18 = .ok (.aload_n 0, 1) := by decide +kernel
theorem dX12_goesOne_19 : decode cX12_goesOne 19 = .ok (.getfield 185, 3) := by decide +kernel
theorem dX12_goesOne_22 : decode cX12_goesOne 22 = .ok (.bipush 10, 2) := by decide +kernel
theorem dX12_goesOne_24 : decode cX12_goesOne 24 = .ok (.iload_n 3, 1) := by decide +kernel
theorem dX12_goesOne_25 : decode cX12_goesOne 25 = .ok (.imul, 1) := by decide +kernel
theorem dX12_goesOne_26 : decode cX12_goesOne 26 = .ok (.iload 4, 2) := by decide +kernel
theorem dX12_goesOne_28 : decode cX12_goesOne 28 = .ok (.iadd, 1) := by decide +kernel
theorem dX12_goesOne_29 : decode cX12_goesOne 29 = .ok (.iload 4, 2) := by decide +kernel
theorem dX12_goesOne_31 : decode cX12_goesOne 31 = .ok (.aload_n 0, 1) := by decide +kernel
theorem dX12_goesOne_32 : decode cX12_goesOne 32 = .ok (.getfield 330, 3) := by decide +kernel
theorem dX12_goesOne_35 : decode cX12_goesOne 35 = .ok (.if_icmp .ge 22, 3) := by decide +kernel
theorem dX12_goesOne_38 : decode cX12_goesOne 38 = .ok (.aload_n 0, 1) := by decide +kernel
theorem dX12_goesOne_39 : decode cX12_goesOne 39 = .ok (.getfield 106, 3) := by decide +kernel
theorem dX12_goesOne_42 : decode cX12_goesOne 42 = .ok (.bipush 96, 2) := by decide +kernel
theorem dX12_goesOne_44 : decode cX12_goesOne 44 = .ok (.iload 4, 2) := by decide +kernel
theorem dX12_goesOne_46 : decode cX12_goesOne 46 = .ok (.imul, 1) := by decide +kernel
theorem dX12_goesOne_47 : decode cX12_goesOne 47 = .ok (.iload_n 3, 1) := by decide +kernel
theorem dX12_goesOne_48 : decode cX12_goesOne 48 = .ok (.iadd, 1) := by decide +kernel
theorem dX12_goesOne_49 : decode cX12_goesOne 49 = .ok (.baload, 1) := by decide +kernel
theorem dX12_goesOne_50 : decode cX12_goesOne 50 = .ok (.ifCond .ne 7, 3) := by decide +kernel
theorem dX12_goesOne_53 : decode cX12_goesOne 53 = .ok (.iconst 1, 1) := by decide +kernel
theorem dX12_goesOne_54 : decode cX12_goesOne 54 = .ok (.goto 4, 3) := by decide +kernel
theorem dX12_goesOne_57 : decode cX12_goesOne 57 = .ok (.iconst 0, 1) := by decide +kernel
theorem dX12_goesOne_58 : decode cX12_goesOne 58 = .ok (.bastore, 1) := by decide +kernel
theorem dX12_goesOne_59 : decode cX12_goesOne 59 = .ok (.iinc 4 1, 3) := by decide +kernel
theorem dX12_goesOne_62 : decode cX12_goesOne 62 = .ok (.goto (-51), 3) := by decide +kernel
theorem dX12_goesOne_65 : decode cX12_goesOne 65 = .ok (.iinc 3 1, 3) := by decide +kernel
theorem dX12_goesOne_68 : decode cX12_goesOne 68 = .ok (.goto (-66), 3) := by decide +kernel
theorem dX12_goesOne_71 : decode cX12_goesOne 71 = .ok (.iconst 0, 1) := by decide +kernel
theorem dX12_goesOne_72 : decode cX12_goesOne 72 = .ok (.istore_n 3, 1) := by decide +kernel
theorem dX12_goesOne_73 : decode cX12_goesOne 73 = .ok (.iload_n 3, 1) := by decide +kernel
theorem dX12_goesOne_74 : decode cX12_goesOne 74 = .ok (.iload_n 2, 1) := by decide +kernel
theorem dX12_goesOne_75 : decode cX12_goesOne 75 = .ok (.if_icmp .ge 140, 3) := by decide +kernel
theorem dX12_goesOne_78 : decode cX12_goesOne 78 = .ok (.aload_n 0, 1) := by decide +kernel
theorem dX12_goesOne_79 : decode cX12_goesOne 79 = .ok (.getfield 91, 3) := by decide +kernel
theorem dX12_goesOne_82 : decode cX12_goesOne 82 = .ok (.iload_n 3, 1) := by decide +kernel
theorem dX12_goesOne_83 : decode cX12_goesOne 83 = .ok (.iaload, 1) := by decide +kernel
theorem dX12_goesOne_84 : decode cX12_goesOne 84 = .ok (.iconst 1, 1) := by decide +kernel
theorem dX12_goesOne_85 : decode cX12_goesOne 85 = .ok (.if_icmp .ne 124, 3) := by decide +kernel
theorem dX12_goesOne_88 : decode cX12_goesOne 88 = .ok (.aload_n 0, 1) := by decide +kernel
theorem dX12_goesOne_89 : decode cX12_goesOne 89 = .ok (.getfield 94, 3) := by decide +kernel
theorem dX12_goesOne_92 : decode cX12_goesOne 92 = .ok (.iload_n 3, 1) := by decide +kernel
theorem dX12_goesOne_93 : decode cX12_goesOne 93 = .ok (.iaload, 1) := by decide +kernel
theorem dX12_goesOne_94 : decode cX12_goesOne 94 = .ok (.iload_n 1, 1) := by decide +kernel
theorem dX12_goesOne_95 : decode cX12_goesOne 95 = .ok (.if_icmp .ne 114, 3) := by decide +kernel
theorem dX12_goesOne_98 : decode cX12_goesOne 98 = .ok (.aload_n 0, 1) := by decide +kernel
theorem dX12_goesOne_99 : decode cX12_goesOne 99 = .ok (.iload_n 3, 1) := by decide +kernel
theorem dX12_goesOne_100 : decode cX12_goesOne 100 = .ok (.iload_n 2, 1) := by decide +kernel
theorem dX12_goesOne_101 : decode cX12_goesOne 101 = .ok (.invokevirtual 351, 3) := by decide +kernel
theorem dX12_goesOne_104 : decode cX12_goesOne 104 = .ok (.ifCond .eq 6, 3) := by decide +kernel
theorem dX12_goesOne_107 : decode cX12_goesOne 107 = .ok (.goto 102, 3) := by decide +kernel
theorem dX12_goesOne_110 : decode cX12_goesOne 110 = .ok (.aload_n 0, 1) := by decide +kernel
theorem dX12_goesOne_111 : decode cX12_goesOne 111 = .ok (.getfield 100, 3) := by decide +kernel
theorem dX12_goesOne_114 : decode cX12_goesOne 114 = .ok (.iload_n 3, 1) := by decide +kernel
theorem dX12_goesOne_115 : decode cX12_goesOne 115 = .ok (.iaload, 1) := by decide +kernel
theorem dX12_goesOne_116 : decode cX12_goesOne 116 = .ok (.istore 4, 2) := by decide +kernel
theorem dX12_goesOne_118 : decode cX12_goesOne 118 = .ok (.iconst 0, 1) := by decide +kernel
theorem dX12_goesOne_119 : decode cX12_goesOne 119 = .ok (.istore 5, 2) := by decide +kernel
theorem dX12_goesOne_121 : decode cX12_goesOne 121 = .ok (.iload 5, 2) := by decide +kernel
theorem dX12_goesOne_123 : decode cX12_goesOne 123 = .ok (.aload_n 0, 1) := by decide +kernel
theorem dX12_goesOne_124 : decode cX12_goesOne 124 = .ok (.getfield 330, 3) := by decide +kernel
theorem dX12_goesOne_127 : decode cX12_goesOne 127 = .ok (.if_icmp .ge 69, 3) := by decide +kernel
theorem dX12_goesOne_130 : decode cX12_goesOne 130 = .ok (.aload_n 0, 1) := by decide +kernel
theorem dX12_goesOne_131 : decode cX12_goesOne 131 = .ok (.getfield 185, 3) := by decide +kernel
theorem dX12_goesOne_134 : decode cX12_goesOne 134 = .ok (.bipush 10, 2) := by decide +kernel
theorem dX12_goesOne_136 : decode cX12_goesOne 136 = .ok (.iload 4, 2) := by decide +kernel
theorem dX12_goesOne_138 : decode cX12_goesOne 138 = .ok (.imul, 1) := by decide +kernel
theorem dX12_goesOne_139 : decode cX12_goesOne 139 = .ok (.iload 5, 2) := by decide +kernel
theorem dX12_goesOne_141 : decode cX12_goesOne 141 = .ok (.iadd, 1) := by decide +kernel
theorem dX12_goesOne_142 : decode cX12_goesOne 142 = .ok (.iload 5, 2) := by decide +kernel
theorem dX12_goesOne_144 : decode cX12_goesOne 144 = .ok (.aload_n 0, 1) := by decide +kernel
theorem dX12_goesOne_145 : decode cX12_goesOne 145 = .ok (.getfield 97, 3) := by decide +kernel
theorem dX12_goesOne_148 : decode cX12_goesOne 148 = .ok (.iload_n 3, 1) := by decide +kernel
theorem dX12_goesOne_149 : decode cX12_goesOne 149 = .ok (.iaload, 1) := by decide +kernel
theorem dX12_goesOne_150 : decode cX12_goesOne 150 = .ok (.if_icmp .ne 38, 3) := by decide +kernel
theorem dX12_goesOne_153 : decode cX12_goesOne 153 = .ok (.aload_n 0, 1) := by decide +kernel
theorem dX12_goesOne_154 : decode cX12_goesOne 154 = .ok (.getfield 188, 3) := by decide +kernel
theorem dX12_goesOne_157 : decode cX12_goesOne 157 = .ok (.bipush 96, 2) := by decide +kernel
theorem dX12_goesOne_159 : decode cX12_goesOne 159 = .ok (.iload_n 1, 1) := by decide +kernel
theorem dX12_goesOne_160 : decode cX12_goesOne 160 = .ok (.imul, 1) := by decide +kernel
theorem dX12_goesOne_161 : decode cX12_goesOne 161 = .ok (.iload 4, 2) := by decide +kernel
theorem dX12_goesOne_163 : decode cX12_goesOne 163 = .ok (.iadd, 1) := by decide +kernel
theorem dX12_goesOne_164 : decode cX12_goesOne 164 = .ok (.baload, 1) := by decide +kernel
theorem dX12_goesOne_165 : decode cX12_goesOne 165 = .ok (.ifCond .eq 19, 3) := by decide +kernel
theorem dX12_goesOne_168 : decode cX12_goesOne 168 = .ok (.aload_n 0, 1) := by decide +kernel
theorem dX12_goesOne_169 : decode cX12_goesOne 169 = .ok (.getfield 185, 3) := by decide +kernel
theorem dX12_goesOne_172 : decode cX12_goesOne 172 = .ok (.bipush 10, 2) := by decide +kernel
theorem dX12_goesOne_174 : decode cX12_goesOne 174 = .ok (.iload 4, 2) := by decide +kernel
theorem dX12_goesOne_176 : decode cX12_goesOne 176 = .ok (.imul, 1) := by decide +kernel
theorem dX12_goesOne_177 : decode cX12_goesOne 177 = .ok (.iload 5, 2) := by decide +kernel
theorem dX12_goesOne_179 : decode cX12_goesOne 179 = .ok (.iadd, 1) := by decide +kernel
theorem dX12_goesOne_180 : decode cX12_goesOne 180 = .ok (.baload, 1) := by decide +kernel
theorem dX12_goesOne_181 : decode cX12_goesOne 181 = .ok (.ifCond .eq 7, 3) := by decide +kernel
theorem dX12_goesOne_184 : decode cX12_goesOne 184 = .ok (.iconst 1, 1) := by decide +kernel
theorem dX12_goesOne_185 : decode cX12_goesOne 185 = .ok (.goto 4, 3) := by decide +kernel
theorem dX12_goesOne_188 : decode cX12_goesOne 188 = .ok (.iconst 0, 1) := by decide +kernel
theorem dX12_goesOne_189 : decode cX12_goesOne 189 = .ok (.bastore, 1) := by decide +kernel
theorem dX12_goesOne_190 : decode cX12_goesOne 190 = .ok (.iinc 5 1, 3) := by decide +kernel
theorem dX12_goesOne_193 : decode cX12_goesOne 193 = .ok (.goto (-72), 3) := by decide +kernel
theorem dX12_goesOne_196 : decode cX12_goesOne 196 = .ok (.aload_n 0, 1) := by decide +kernel
theorem dX12_goesOne_197 : decode cX12_goesOne 197 = .ok (.getfield 188, 3) := by decide +kernel
theorem dX12_goesOne_200 : decode cX12_goesOne 200 = .ok (.bipush 96, 2) := by decide +kernel
theorem dX12_goesOne_202 : decode cX12_goesOne 202 = .ok (.iload_n 1, 1) := by decide +kernel
theorem dX12_goesOne_203 : decode cX12_goesOne 203 = .ok (.imul, 1) := by decide +kernel
theorem dX12_goesOne_204 : decode cX12_goesOne 204 = .ok (.iload 4, 2) := by decide +kernel
theorem dX12_goesOne_206 : decode cX12_goesOne 206 = .ok (.iadd, 1) := by decide +kernel
theorem dX12_goesOne_207 : decode cX12_goesOne 207 = .ok (.iconst 1, 1) := by decide +kernel
theorem dX12_goesOne_208 : decode cX12_goesOne 208 = .ok (.bastore, 1) := by decide +kernel
theorem dX12_goesOne_209 : decode cX12_goesOne 209 = .ok (.iinc 3 1, 3) := by decide +kernel
theorem dX12_goesOne_212 : decode cX12_goesOne 212 = .ok (.goto (-139), 3) := by decide +kernel
theorem dX12_goesOne_215 : decode cX12_goesOne 215 = .ok (.iconst 0, 1) := by decide +kernel
theorem dX12_goesOne_216 : decode cX12_goesOne 216 = .ok (.istore_n 3, 1) := by decide +kernel
theorem dX12_goesOne_217 : decode cX12_goesOne 217 = .ok (.iload_n 3, 1) := by decide +kernel
theorem dX12_goesOne_218 : decode cX12_goesOne 218 = .ok (.bipush 96, 2) := by decide +kernel
theorem dX12_goesOne_220 : decode cX12_goesOne 220 = .ok (.if_icmp .ge 234, 3) := by decide +kernel
theorem dX12_goesOne_223 : decode cX12_goesOne 223 = .ok (.iconst 0, 1) := by decide +kernel
theorem dX12_goesOne_224 : decode cX12_goesOne 224 = .ok (.istore 4, 2) := by decide +kernel
theorem dX12_goesOne_226 : decode cX12_goesOne 226 = .ok (.iload 4, 2) := by decide +kernel
theorem dX12_goesOne_228 : decode cX12_goesOne 228 = .ok (.bipush 10, 2) := by decide +kernel
theorem dX12_goesOne_230 : decode cX12_goesOne 230 = .ok (.if_icmp .ge 218, 3) := by decide +kernel
theorem dX12_goesOne_233 : decode cX12_goesOne 233 = .ok (.iload_n 3, 1) := by decide +kernel
theorem dX12_goesOne_234 : decode cX12_goesOne 234 = .ok (.ifCond .eq 21, 3) := by decide +kernel
theorem dX12_goesOne_237 : decode cX12_goesOne 237 = .ok (.aload_n 0, 1) := by decide +kernel
theorem dX12_goesOne_238 : decode cX12_goesOne 238 = .ok (.getfield 179, 3) := by decide +kernel
theorem dX12_goesOne_241 : decode cX12_goesOne 241 = .ok (.bipush 10, 2) := by decide +kernel
theorem dX12_goesOne_243 : decode cX12_goesOne 243 = .ok (.iload_n 3, 1) := by decide +kernel
theorem dX12_goesOne_244 : decode cX12_goesOne 244 = .ok (.imul, 1) := by decide +kernel
theorem dX12_goesOne_245 : decode cX12_goesOne 245 = .ok (.bipush 10, 2) := by decide +kernel
theorem dX12_goesOne_247 : decode cX12_goesOne 247 = .ok (.isub, 1) := by decide +kernel
theorem dX12_goesOne_248 : decode cX12_goesOne 248 = .ok (.iload 4, 2) := by decide +kernel
theorem dX12_goesOne_250 : decode cX12_goesOne 250 = .ok (.iadd, 1) := by decide +kernel
theorem dX12_goesOne_251 : decode cX12_goesOne 251 = .ok (.baload, 1) := by decide +kernel
theorem dX12_goesOne_252 : decode cX12_goesOne 252 = .ok (.ifCond .eq 7, 3) := by decide +kernel
theorem dX12_goesOne_255 : decode cX12_goesOne 255 = .ok (.iconst 1, 1) := by decide +kernel
theorem dX12_goesOne_256 : decode cX12_goesOne 256 = .ok (.goto 4, 3) := by decide +kernel
theorem dX12_goesOne_259 : decode cX12_goesOne 259 = .ok (.iconst 0, 1) := by decide +kernel
theorem dX12_goesOne_260 : decode cX12_goesOne 260 = .ok (.istore 5, 2) := by decide +kernel
theorem dX12_goesOne_262 : decode cX12_goesOne 262 = .ok (.iconst 0, 1) := by decide +kernel
theorem dX12_goesOne_263 : decode cX12_goesOne 263 = .ok (.istore 6, 2) := by decide +kernel
theorem dX12_goesOne_265 : decode cX12_goesOne 265 = .ok (.iload 6, 2) := by decide +kernel
theorem dX12_goesOne_267 : decode cX12_goesOne 267 = .ok (.aload_n 0, 1) := by decide +kernel
theorem dX12_goesOne_268 : decode cX12_goesOne 268 = .ok (.getfield 330, 3) := by decide +kernel
theorem dX12_goesOne_271 : decode cX12_goesOne 271 = .ok (.if_icmp .ge 134, 3) := by decide +kernel
theorem dX12_goesOne_274 : decode cX12_goesOne 274 = .ok (.iload 5, 2) := by decide +kernel
theorem dX12_goesOne_276 : decode cX12_goesOne 276 = .ok (.ifCond .ne 129, 3) := by decide +kernel
theorem dX12_goesOne_279 : decode cX12_goesOne 279 = .ok (.aload_n 0, 1) := by decide +kernel
theorem dX12_goesOne_280 : decode cX12_goesOne 280 = .ok (.getfield 85, 3) := by decide +kernel
theorem dX12_goesOne_283 : decode cX12_goesOne 283 = .ok (.bipush 10, 2) := by decide +kernel
theorem dX12_goesOne_285 : decode cX12_goesOne 285 = .ok (.iload 4, 2) := by decide +kernel
theorem dX12_goesOne_287 : decode cX12_goesOne 287 = .ok (.imul, 1) := by decide +kernel
theorem dX12_goesOne_288 : decode cX12_goesOne 288 = .ok (.iload 6, 2) := by decide +kernel
theorem dX12_goesOne_290 : decode cX12_goesOne 290 = .ok (.iadd, 1) := by decide +kernel
theorem dX12_goesOne_291 : decode cX12_goesOne 291 = .ok (.iaload, 1) := by decide +kernel
theorem dX12_goesOne_292 : decode cX12_goesOne 292 = .ok (.istore 7, 2) := by decide +kernel
theorem dX12_goesOne_294 : decode cX12_goesOne 294 = .ok (.iconst 0, 1) := by decide +kernel
theorem dX12_goesOne_295 : decode cX12_goesOne 295 = .ok (.istore 8, 2) := by decide +kernel
theorem dX12_goesOne_297 : decode cX12_goesOne 297 = .ok (.iload 8, 2) := by decide +kernel
theorem dX12_goesOne_299 : decode cX12_goesOne 299 = .ok (.aload_n 0, 1) := by decide +kernel
theorem dX12_goesOne_300 : decode cX12_goesOne 300 = .ok (.getfield 336, 3) := by decide +kernel
theorem dX12_goesOne_303 : decode cX12_goesOne 303 = .ok (.if_icmp .ge 96, 3) := by decide +kernel
theorem dX12_goesOne_306 : decode cX12_goesOne 306 = .ok (.iload 7, 2) := by decide +kernel
theorem dX12_goesOne_308 : decode cX12_goesOne 308 = .ok (.sipush 1000, 3) := by decide +kernel
theorem dX12_goesOne_311 : decode cX12_goesOne 311 = .ok (.if_icmp .ge 88, 3) := by decide +kernel
theorem dX12_goesOne_314 : decode cX12_goesOne 314 = .ok (.iload 5, 2) := by decide +kernel
theorem dX12_goesOne_316 : decode cX12_goesOne 316 = .ok (.ifCond .ne 83, 3) := by decide +kernel
theorem dX12_goesOne_319 : decode cX12_goesOne 319 = .ok (.aload_n 0, 1) := by decide +kernel
theorem dX12_goesOne_320 : decode cX12_goesOne 320 = .ok (.iload 8, 2) := by decide +kernel
theorem dX12_goesOne_322 : decode cX12_goesOne 322 = .ok (.iload 4, 2) := by decide +kernel
theorem dX12_goesOne_324 : decode cX12_goesOne 324 = .ok (.iload 6, 2) := by decide +kernel
theorem dX12_goesOne_326 : decode cX12_goesOne 326 = .ok (.invokevirtual 437, 3) := by decide +kernel
theorem dX12_goesOne_329 : decode cX12_goesOne 329 = .ok (.ifCond .eq 64, 3) := by decide +kernel
theorem dX12_goesOne_332 : decode cX12_goesOne 332 = .ok (.iload_n 3, 1) := by decide +kernel
theorem dX12_goesOne_333 : decode cX12_goesOne 333 = .ok (.aload_n 0, 1) := by decide +kernel
theorem dX12_goesOne_334 : decode cX12_goesOne 334 = .ok (.getfield 73, 3) := by decide +kernel
theorem dX12_goesOne_337 : decode cX12_goesOne 337 = .ok (.iload 8, 2) := by decide +kernel
theorem dX12_goesOne_339 : decode cX12_goesOne 339 = .ok (.iaload, 1) := by decide +kernel
theorem dX12_goesOne_340 : decode cX12_goesOne 340 = .ok (.if_icmp .lt 53, 3) := by decide +kernel
theorem dX12_goesOne_343 : decode cX12_goesOne 343 = .ok (.aload_n 0, 1) := by decide +kernel
theorem dX12_goesOne_344 : decode cX12_goesOne 344 = .ok (.getfield 179, 3) := by decide +kernel
theorem dX12_goesOne_347 : decode cX12_goesOne 347 = .ok (.bipush 10, 2) := by decide +kernel
theorem dX12_goesOne_349 : decode cX12_goesOne 349 = .ok (.iload_n 3, 1) := by decide +kernel
theorem dX12_goesOne_350 : decode cX12_goesOne 350 = .ok (.aload_n 0, 1) := by decide +kernel
theorem dX12_goesOne_351 : decode cX12_goesOne 351 = .ok (.getfield 73, 3) := by decide +kernel
theorem dX12_goesOne_354 : decode cX12_goesOne 354 = .ok (.iload 8, 2) := by decide +kernel
theorem dX12_goesOne_356 : decode cX12_goesOne 356 = .ok (.iaload, 1) := by decide +kernel
theorem dX12_goesOne_357 : decode cX12_goesOne 357 = .ok (.isub, 1) := by decide +kernel
theorem dX12_goesOne_358 : decode cX12_goesOne 358 = .ok (.imul, 1) := by decide +kernel
theorem dX12_goesOne_359 : decode cX12_goesOne 359 = .ok (.iload 6, 2) := by decide +kernel
theorem dX12_goesOne_361 : decode cX12_goesOne 361 = .ok (.iadd, 1) := by decide +kernel
theorem dX12_goesOne_362 : decode cX12_goesOne 362 = .ok (.baload, 1) := by decide +kernel
theorem dX12_goesOne_363 : decode cX12_goesOne 363 = .ok (.ifCond .eq 30, 3) := by decide +kernel
theorem dX12_goesOne_366 : decode cX12_goesOne 366 = .ok (.aload_n 0, 1) := by decide +kernel
theorem dX12_goesOne_367 : decode cX12_goesOne 367 = .ok (.iload_n 1, 1) := by decide +kernel
theorem dX12_goesOne_368 : decode cX12_goesOne 368 = .ok (.iload_n 3, 1) := by decide +kernel
theorem dX12_goesOne_369 : decode cX12_goesOne 369 = .ok (.aload_n 0, 1) := by decide +kernel
theorem dX12_goesOne_370 : decode cX12_goesOne 370 = .ok (.getfield 73, 3) := by decide +kernel
theorem dX12_goesOne_373 : decode cX12_goesOne 373 = .ok (.iload 8, 2) := by decide +kernel
theorem dX12_goesOne_375 : decode cX12_goesOne 375 = .ok (.iaload, 1) := by decide +kernel
theorem dX12_goesOne_376 : decode cX12_goesOne 376 = .ok (.isub, 1) := by decide +kernel
theorem dX12_goesOne_377 : decode cX12_goesOne 377 = .ok (.aload_n 0, 1) := by decide +kernel
theorem dX12_goesOne_378 : decode cX12_goesOne 378 = .ok (.getfield 73, 3) := by decide +kernel
theorem dX12_goesOne_381 : decode cX12_goesOne 381 = .ok (.iload 8, 2) := by decide +kernel
theorem dX12_goesOne_383 : decode cX12_goesOne 383 = .ok (.iaload, 1) := by decide +kernel
theorem dX12_goesOne_384 : decode cX12_goesOne 384 = .ok (.invokevirtual 440, 3) := by decide +kernel
theorem dX12_goesOne_387 : decode cX12_goesOne 387 = .ok (.ifCond .eq 6, 3) := by decide +kernel
theorem dX12_goesOne_390 : decode cX12_goesOne 390 = .ok (.iconst 1, 1) := by decide +kernel
theorem dX12_goesOne_391 : decode cX12_goesOne 391 = .ok (.istore 5, 2) := by decide +kernel
theorem dX12_goesOne_393 : decode cX12_goesOne 393 = .ok (.iinc 8 1, 3) := by decide +kernel
theorem dX12_goesOne_396 : decode cX12_goesOne 396 = .ok (.goto (-99), 3) := by decide +kernel
theorem dX12_goesOne_399 : decode cX12_goesOne 399 = .ok (.iinc 6 1, 3) := by decide +kernel
theorem dX12_goesOne_402 : decode cX12_goesOne 402 = .ok (.goto (-137), 3) := by decide +kernel
theorem dX12_goesOne_405 : decode cX12_goesOne 405 = .ok (.aload_n 0, 1) := by decide +kernel
theorem dX12_goesOne_406 : decode cX12_goesOne 406 = .ok (.getfield 179, 3) := by decide +kernel
theorem dX12_goesOne_409 : decode cX12_goesOne 409 = .ok (.bipush 10, 2) := by decide +kernel
theorem dX12_goesOne_411 : decode cX12_goesOne 411 = .ok (.iload_n 3, 1) := by decide +kernel
theorem dX12_goesOne_412 : decode cX12_goesOne 412 = .ok (.imul, 1) := by decide +kernel
theorem dX12_goesOne_413 : decode cX12_goesOne 413 = .ok (.iload 4, 2) := by decide +kernel
theorem dX12_goesOne_415 : decode cX12_goesOne 415 = .ok (.iadd, 1) := by decide +kernel
theorem dX12_goesOne_416 : decode cX12_goesOne 416 = .ok (.iload 5, 2) := by decide +kernel
theorem dX12_goesOne_418 : decode cX12_goesOne 418 = .ok (.ifCond .eq 22, 3) := by decide +kernel
theorem dX12_goesOne_421 : decode cX12_goesOne 421 = .ok (.aload_n 0, 1) := by decide +kernel
theorem dX12_goesOne_422 : decode cX12_goesOne 422 = .ok (.getfield 185, 3) := by decide +kernel
theorem dX12_goesOne_425 : decode cX12_goesOne 425 = .ok (.bipush 10, 2) := by decide +kernel
theorem dX12_goesOne_427 : decode cX12_goesOne 427 = .ok (.iload_n 3, 1) := by decide +kernel
theorem dX12_goesOne_428 : decode cX12_goesOne 428 = .ok (.imul, 1) := by decide +kernel
theorem dX12_goesOne_429 : decode cX12_goesOne 429 = .ok (.iload 4, 2) := by decide +kernel
theorem dX12_goesOne_431 : decode cX12_goesOne 431 = .ok (.iadd, 1) := by decide +kernel
theorem dX12_goesOne_432 : decode cX12_goesOne 432 = .ok (.baload, 1) := by decide +kernel
theorem dX12_goesOne_433 : decode cX12_goesOne 433 = .ok (.ifCond .eq 7, 3) := by decide +kernel
theorem dX12_goesOne_436 : decode cX12_goesOne 436 = .ok (.iconst 1, 1) := by decide +kernel
theorem dX12_goesOne_437 : decode cX12_goesOne 437 = .ok (.goto 4, 3) := by decide +kernel
theorem dX12_goesOne_440 : decode cX12_goesOne 440 = .ok (.iconst 0, 1) := by decide +kernel
theorem dX12_goesOne_441 : decode cX12_goesOne 441 = .ok (.bastore, 1) := by decide +kernel
theorem dX12_goesOne_442 : decode cX12_goesOne 442 = .ok (.iinc 4 1, 3) := by decide +kernel
theorem dX12_goesOne_445 : decode cX12_goesOne 445 = .ok (.goto (-219), 3) := by decide +kernel
theorem dX12_goesOne_448 : decode cX12_goesOne 448 = .ok (.iinc 3 1, 3) := by decide +kernel
theorem dX12_goesOne_451 : decode cX12_goesOne 451 = .ok (.goto (-234), 3) := by decide +kernel
theorem dX12_goesOne_454 : decode cX12_goesOne 454 = .ok (.bipush 95, 2) := by decide +kernel
theorem dX12_goesOne_456 : decode cX12_goesOne 456 = .ok (.istore_n 3, 1) := by decide +kernel
theorem dX12_goesOne_457 : decode cX12_goesOne 457 = .ok (.iload_n 3, 1) := by decide +kernel
theorem dX12_goesOne_458 : decode cX12_goesOne 458 = .ok (.ifCond .lt 216, 3) := by decide +kernel
theorem dX12_goesOne_461 : decode cX12_goesOne 461 = .ok (.iconst 0, 1) := by decide +kernel
theorem dX12_goesOne_462 : decode cX12_goesOne 462 = .ok (.istore 4, 2) := by decide +kernel
theorem dX12_goesOne_464 : decode cX12_goesOne 464 = .ok (.iload 4, 2) := by decide +kernel
theorem dX12_goesOne_466 : decode cX12_goesOne 466 = .ok (.bipush 10, 2) := by decide +kernel
theorem dX12_goesOne_468 : decode cX12_goesOne 468 = .ok (.if_icmp .ge 200, 3) := by decide +kernel
theorem dX12_goesOne_471 : decode cX12_goesOne 471 = .ok (.iload_n 3, 1) := by decide +kernel
theorem dX12_goesOne_472 : decode cX12_goesOne 472 = .ok (.bipush 95, 2) := by decide +kernel
theorem dX12_goesOne_474 : decode cX12_goesOne 474 = .ok (.if_icmp .eq 21, 3) := by decide +kernel
theorem dX12_goesOne_477 : decode cX12_goesOne 477 = .ok (.aload_n 0, 1) := by decide +kernel
theorem dX12_goesOne_478 : decode cX12_goesOne 478 = .ok (.getfield 182, 3) := by decide +kernel
theorem dX12_goesOne_481 : decode cX12_goesOne 481 = .ok (.bipush 10, 2) := by decide +kernel
theorem dX12_goesOne_483 : decode cX12_goesOne 483 = .ok (.iload_n 3, 1) := by decide +kernel
theorem dX12_goesOne_484 : decode cX12_goesOne 484 = .ok (.imul, 1) := by decide +kernel
theorem dX12_goesOne_485 : decode cX12_goesOne 485 = .ok (.bipush 10, 2) := by decide +kernel
theorem dX12_goesOne_487 : decode cX12_goesOne 487 = .ok (.iadd, 1) := by decide +kernel
theorem dX12_goesOne_488 : decode cX12_goesOne 488 = .ok (.iload 4, 2) := by decide +kernel
theorem dX12_goesOne_490 : decode cX12_goesOne 490 = .ok (.iadd, 1) := by decide +kernel
theorem dX12_goesOne_491 : decode cX12_goesOne 491 = .ok (.baload, 1) := by decide +kernel
theorem dX12_goesOne_492 : decode cX12_goesOne 492 = .ok (.ifCond .eq 7, 3) := by decide +kernel
theorem dX12_goesOne_495 : decode cX12_goesOne 495 = .ok (.iconst 1, 1) := by decide +kernel
theorem dX12_goesOne_496 : decode cX12_goesOne 496 = .ok (.goto 4, 3) := by decide +kernel
theorem dX12_goesOne_499 : decode cX12_goesOne 499 = .ok (.iconst 0, 1) := by decide +kernel
theorem dX12_goesOne_500 : decode cX12_goesOne 500 = .ok (.istore 5, 2) := by decide +kernel
theorem dX12_goesOne_502 : decode cX12_goesOne 502 = .ok (.iconst 0, 1) := by decide +kernel
theorem dX12_goesOne_503 : decode cX12_goesOne 503 = .ok (.istore 6, 2) := by decide +kernel
theorem dX12_goesOne_505 : decode cX12_goesOne 505 = .ok (.iload 6, 2) := by decide +kernel
theorem dX12_goesOne_507 : decode cX12_goesOne 507 = .ok (.aload_n 0, 1) := by decide +kernel
theorem dX12_goesOne_508 : decode cX12_goesOne 508 = .ok (.getfield 336, 3) := by decide +kernel
theorem dX12_goesOne_511 : decode cX12_goesOne 511 = .ok (.if_icmp .ge 114, 3) := by decide +kernel
theorem dX12_goesOne_514 : decode cX12_goesOne 514 = .ok (.iload 5, 2) := by decide +kernel
theorem dX12_goesOne_516 : decode cX12_goesOne 516 = .ok (.ifCond .ne 109, 3) := by decide +kernel
theorem dX12_goesOne_519 : decode cX12_goesOne 519 = .ok (.aload_n 0, 1) := by decide +kernel
theorem dX12_goesOne_520 : decode cX12_goesOne 520 = .ok (.getfield 67, 3) := by decide +kernel
theorem dX12_goesOne_523 : decode cX12_goesOne 523 = .ok (.iload 6, 2) := by decide +kernel
theorem dX12_goesOne_525 : decode cX12_goesOne 525 = .ok (.iaload, 1) := by decide +kernel
theorem dX12_goesOne_526 : decode cX12_goesOne 526 = .ok (.iload 4, 2) := by decide +kernel
theorem dX12_goesOne_528 : decode cX12_goesOne 528 = .ok (.if_icmp .eq 18, 3) := by decide +kernel
theorem dX12_goesOne_531 : decode cX12_goesOne 531 = .ok (.aload_n 0, 1) := by decide +kernel
theorem dX12_goesOne_532 : decode cX12_goesOne 532 = .ok (.getfield 70, 3) := by decide +kernel
theorem dX12_goesOne_535 : decode cX12_goesOne 535 = .ok (.iload 6, 2) := by decide +kernel
theorem dX12_goesOne_537 : decode cX12_goesOne 537 = .ok (.iaload, 1) := by decide +kernel
theorem dX12_goesOne_538 : decode cX12_goesOne 538 = .ok (.iload 4, 2) := by decide +kernel
theorem dX12_goesOne_540 : decode cX12_goesOne 540 = .ok (.if_icmp .eq 6, 3) := by decide +kernel
theorem dX12_goesOne_543 : decode cX12_goesOne 543 = .ok (.goto 76, 3) := by decide +kernel
theorem dX12_goesOne_546 : decode cX12_goesOne 546 = .ok (.aload_n 0, 1) := by decide +kernel
theorem dX12_goesOne_547 : decode cX12_goesOne 547 = .ok (.getfield 67, 3) := by decide +kernel
theorem dX12_goesOne_550 : decode cX12_goesOne 550 = .ok (.iload 6, 2) := by decide +kernel
theorem dX12_goesOne_552 : decode cX12_goesOne 552 = .ok (.iaload, 1) := by decide +kernel
theorem dX12_goesOne_553 : decode cX12_goesOne 553 = .ok (.aload_n 0, 1) := by decide +kernel
theorem dX12_goesOne_554 : decode cX12_goesOne 554 = .ok (.getfield 70, 3) := by decide +kernel
theorem dX12_goesOne_557 : decode cX12_goesOne 557 = .ok (.iload 6, 2) := by decide +kernel
theorem dX12_goesOne_559 : decode cX12_goesOne 559 = .ok (.iaload, 1) := by decide +kernel
theorem dX12_goesOne_560 : decode cX12_goesOne 560 = .ok (.iadd, 1) := by decide +kernel
theorem dX12_goesOne_561 : decode cX12_goesOne 561 = .ok (.iload 4, 2) := by decide +kernel
theorem dX12_goesOne_563 : decode cX12_goesOne 563 = .ok (.isub, 1) := by decide +kernel
theorem dX12_goesOne_564 : decode cX12_goesOne 564 = .ok (.istore 7, 2) := by decide +kernel
theorem dX12_goesOne_566 : decode cX12_goesOne 566 = .ok (.iload_n 3, 1) := by decide +kernel
theorem dX12_goesOne_567 : decode cX12_goesOne 567 = .ok (.aload_n 0, 1) := by decide +kernel
theorem dX12_goesOne_568 : decode cX12_goesOne 568 = .ok (.getfield 73, 3) := by decide +kernel
theorem dX12_goesOne_571 : decode cX12_goesOne 571 = .ok (.iload 6, 2) := by decide +kernel
theorem dX12_goesOne_573 : decode cX12_goesOne 573 = .ok (.iaload, 1) := by decide +kernel
theorem dX12_goesOne_574 : decode cX12_goesOne 574 = .ok (.iadd, 1) := by decide +kernel
theorem dX12_goesOne_575 : decode cX12_goesOne 575 = .ok (.istore 8, 2) := by decide +kernel
theorem dX12_goesOne_577 : decode cX12_goesOne 577 = .ok (.aload_n 0, 1) := by decide +kernel
theorem dX12_goesOne_578 : decode cX12_goesOne 578 = .ok (.iload_n 1, 1) := by decide +kernel
theorem dX12_goesOne_579 : decode cX12_goesOne 579 = .ok (.iload_n 3, 1) := by decide +kernel
theorem dX12_goesOne_580 : decode cX12_goesOne 580 = .ok (.aload_n 0, 1) := by decide +kernel
theorem dX12_goesOne_581 : decode cX12_goesOne 581 = .ok (.getfield 73, 3) := by decide +kernel
theorem dX12_goesOne_584 : decode cX12_goesOne 584 = .ok (.iload 6, 2) := by decide +kernel
theorem dX12_goesOne_586 : decode cX12_goesOne 586 = .ok (.iaload, 1) := by decide +kernel
theorem dX12_goesOne_587 : decode cX12_goesOne 587 = .ok (.invokevirtual 440, 3) := by decide +kernel
theorem dX12_goesOne_590 : decode cX12_goesOne 590 = .ok (.ifCond .eq 29, 3) := by decide +kernel
theorem dX12_goesOne_593 : decode cX12_goesOne 593 = .ok (.iload 8, 2) := by decide +kernel
theorem dX12_goesOne_595 : decode cX12_goesOne 595 = .ok (.bipush 96, 2) := by decide +kernel
theorem dX12_goesOne_597 : decode cX12_goesOne 597 = .ok (.if_icmp .ge 19, 3) := by decide +kernel
theorem dX12_goesOne_600 : decode cX12_goesOne 600 = .ok (.aload_n 0, 1) := by decide +kernel
theorem dX12_goesOne_601 : decode cX12_goesOne 601 = .ok (.getfield 182, 3) := by decide +kernel
theorem dX12_goesOne_604 : decode cX12_goesOne 604 = .ok (.bipush 10, 2) := by decide +kernel
theorem dX12_goesOne_606 : decode cX12_goesOne 606 = .ok (.iload 8, 2) := by decide +kernel
theorem dX12_goesOne_608 : decode cX12_goesOne 608 = .ok (.imul, 1) := by decide +kernel
theorem dX12_goesOne_609 : decode cX12_goesOne 609 = .ok (.iload 7, 2) := by decide +kernel
theorem dX12_goesOne_611 : decode cX12_goesOne 611 = .ok (.iadd, 1) := by decide +kernel
theorem dX12_goesOne_612 : decode cX12_goesOne 612 = .ok (.baload, 1) := by decide +kernel
theorem dX12_goesOne_613 : decode cX12_goesOne 613 = .ok (.ifCond .eq 6, 3) := by decide +kernel
theorem dX12_goesOne_616 : decode cX12_goesOne 616 = .ok (.iconst 1, 1) := by decide +kernel
theorem dX12_goesOne_617 : decode cX12_goesOne 617 = .ok (.istore 5, 2) := by decide +kernel
theorem dX12_goesOne_619 : decode cX12_goesOne 619 = .ok (.iinc 6 1, 3) := by decide +kernel
theorem dX12_goesOne_622 : decode cX12_goesOne 622 = .ok (.goto (-117), 3) := by decide +kernel
theorem dX12_goesOne_625 : decode cX12_goesOne 625 = .ok (.aload_n 0, 1) := by decide +kernel
theorem dX12_goesOne_626 : decode cX12_goesOne 626 = .ok (.getfield 182, 3) := by decide +kernel
theorem dX12_goesOne_629 : decode cX12_goesOne 629 = .ok (.bipush 10, 2) := by decide +kernel
theorem dX12_goesOne_631 : decode cX12_goesOne 631 = .ok (.iload_n 3, 1) := by decide +kernel
theorem dX12_goesOne_632 : decode cX12_goesOne 632 = .ok (.imul, 1) := by decide +kernel
theorem dX12_goesOne_633 : decode cX12_goesOne 633 = .ok (.iload 4, 2) := by decide +kernel
theorem dX12_goesOne_635 : decode cX12_goesOne 635 = .ok (.iadd, 1) := by decide +kernel
theorem dX12_goesOne_636 : decode cX12_goesOne 636 = .ok (.iload 5, 2) := by decide +kernel
theorem dX12_goesOne_638 : decode cX12_goesOne 638 = .ok (.ifCond .eq 22, 3) := by decide +kernel
theorem dX12_goesOne_641 : decode cX12_goesOne 641 = .ok (.aload_n 0, 1) := by decide +kernel
theorem dX12_goesOne_642 : decode cX12_goesOne 642 = .ok (.getfield 185, 3) := by decide +kernel
theorem dX12_goesOne_645 : decode cX12_goesOne 645 = .ok (.bipush 10, 2) := by decide +kernel
theorem dX12_goesOne_647 : decode cX12_goesOne 647 = .ok (.iload_n 3, 1) := by decide +kernel
theorem dX12_goesOne_648 : decode cX12_goesOne 648 = .ok (.imul, 1) := by decide +kernel
theorem dX12_goesOne_649 : decode cX12_goesOne 649 = .ok (.iload 4, 2) := by decide +kernel
theorem dX12_goesOne_651 : decode cX12_goesOne 651 = .ok (.iadd, 1) := by decide +kernel
theorem dX12_goesOne_652 : decode cX12_goesOne 652 = .ok (.baload, 1) := by decide +kernel
theorem dX12_goesOne_653 : decode cX12_goesOne 653 = .ok (.ifCond .eq 7, 3) := by decide +kernel
theorem dX12_goesOne_656 : decode cX12_goesOne 656 = .ok (.iconst 1, 1) := by decide +kernel
theorem dX12_goesOne_657 : decode cX12_goesOne 657 = .ok (.goto 4, 3) := by decide +kernel
theorem dX12_goesOne_660 : decode cX12_goesOne 660 = .ok (.iconst 0, 1) := by decide +kernel
theorem dX12_goesOne_661 : decode cX12_goesOne 661 = .ok (.bastore, 1) := by decide +kernel
theorem dX12_goesOne_662 : decode cX12_goesOne 662 = .ok (.iinc 4 1, 3) := by decide +kernel
theorem dX12_goesOne_665 : decode cX12_goesOne 665 = .ok (.goto (-201), 3) := by decide +kernel
theorem dX12_goesOne_668 : decode cX12_goesOne 668 = .ok (.iinc 3 (-1), 3) := by decide +kernel
theorem dX12_goesOne_671 : decode cX12_goesOne 671 = .ok (.goto (-214), 3) := by decide +kernel
theorem dX12_goesOne_674 : decode cX12_goesOne 674 = .ok (.iconst 0, 1) := by decide +kernel
theorem dX12_goesOne_675 : decode cX12_goesOne 675 = .ok (.istore_n 3, 1) := by decide +kernel
theorem dX12_goesOne_676 : decode cX12_goesOne 676 = .ok (.iload_n 3, 1) := by decide +kernel
theorem dX12_goesOne_677 : decode cX12_goesOne 677 = .ok (.sipush 960, 3) := by decide +kernel
theorem dX12_goesOne_680 : decode cX12_goesOne 680 = .ok (.if_icmp .ge 44, 3) := by decide +kernel
theorem dX12_goesOne_683 : decode cX12_goesOne 683 = .ok (.aload_n 0, 1) := by decide +kernel
theorem dX12_goesOne_684 : decode cX12_goesOne 684 = .ok (.getfield 176, 3) := by decide +kernel
theorem dX12_goesOne_687 : decode cX12_goesOne 687 = .ok (.sipush 960, 3) := by decide +kernel
theorem dX12_goesOne_690 : decode cX12_goesOne 690 = .ok (.iload_n 1, 1) := by decide +kernel
theorem dX12_goesOne_691 : decode cX12_goesOne 691 = .ok (.imul, 1) := by decide +kernel
theorem dX12_goesOne_692 : decode cX12_goesOne 692 = .ok (.iload_n 3, 1) := by decide +kernel
theorem dX12_goesOne_693 : decode cX12_goesOne 693 = .ok (.iadd, 1) := by decide +kernel
theorem dX12_goesOne_694 : decode cX12_goesOne 694 = .ok (.aload_n 0, 1) := by decide +kernel
theorem dX12_goesOne_695 : decode cX12_goesOne 695 = .ok (.getfield 179, 3) := by decide +kernel
theorem dX12_goesOne_698 : decode cX12_goesOne 698 = .ok (.iload_n 3, 1) := by decide +kernel
theorem dX12_goesOne_699 : decode cX12_goesOne 699 = .ok (.baload, 1) := by decide +kernel
theorem dX12_goesOne_700 : decode cX12_goesOne 700 = .ok (.ifCond .eq 16, 3) := by decide +kernel
theorem dX12_goesOne_703 : decode cX12_goesOne 703 = .ok (.aload_n 0, 1) := by decide +kernel
theorem dX12_goesOne_704 : decode cX12_goesOne 704 = .ok (.getfield 182, 3) := by decide +kernel
theorem dX12_goesOne_707 : decode cX12_goesOne 707 = .ok (.iload_n 3, 1) := by decide +kernel
theorem dX12_goesOne_708 : decode cX12_goesOne 708 = .ok (.baload, 1) := by decide +kernel
theorem dX12_goesOne_709 : decode cX12_goesOne 709 = .ok (.ifCond .eq 7, 3) := by decide +kernel
theorem dX12_goesOne_712 : decode cX12_goesOne 712 = .ok (.iconst 1, 1) := by decide +kernel
theorem dX12_goesOne_713 : decode cX12_goesOne 713 = .ok (.goto 4, 3) := by decide +kernel
theorem dX12_goesOne_716 : decode cX12_goesOne 716 = .ok (.iconst 0, 1) := by decide +kernel
theorem dX12_goesOne_717 : decode cX12_goesOne 717 = .ok (.bastore, 1) := by decide +kernel
theorem dX12_goesOne_718 : decode cX12_goesOne 718 = .ok (.iinc 3 1, 3) := by decide +kernel
theorem dX12_goesOne_721 : decode cX12_goesOne 721 = .ok (.goto (-45), 3) := by decide +kernel
theorem dX12_goesOne_724 : decode cX12_goesOne 724 = .ok (.return_, 1) := by decide +kernel
abbrev rm_X12_goesOne : Room := { frames := 1, cells := 0, slots := 0, locals := 24 }
set_option maxRecDepth 100000 in
set_option maxHeartbeats 4000000 in
theorem ct_X12_goesOne {w : Wd} {l : Launch} {a1 : Int} {a2 : Int} {σ : St} {σ' : St} (ia1 : InI a1) (ia2 : InI a2) (h : m_X12_goesOne a1 a2 σ = some σ') : Ct w l yX12_goesOne (Cond.code yX12_goesOne cX12_goesOne 9 none :: TB) rm_X12_goesOne [rv w 170, iv a1, iv a2] σ none True σ' := by
  refine Ct.of2 [some (rv w 170), some (iv a1), some (iv a2), none, none, none, none, none, none] 6 rfl pn_RX12 (Nat.le_of_ble_eq_true rfl) ?_
  intro p e s m args below meth c C hr hlk
  unfold m_X12_goesOne at h
  refine g_iconst C dX12_goesOne_0 ?_
  refine g_istore_n (L1 := [some (rv w 170), some (iv a1), some (iv a2), some (iv 0), none, none, none, none, none]) C dX12_goesOne_1 rfl (Nat.le_of_ble_eq_true rfl) rfl ?_
  obtain ⟨b1, hb1, hF1⟩ := bnd h
  have hX1 : ∀ (σ17 : St) , σ17 = b1 → GM w p l e rm_X12_goesOne s m args below meth c none True σ' 9 71 [some (rv w 170), some (iv a1), some (iv a2), none, none, none, none, none, none] [] σ17 := by
    intro σ17 q
    subst q
    have h := hF1
    refine g_iconst C dX12_goesOne_71 ?_
    refine g_istore_n (L1 := [some (rv w 170), some (iv a1), some (iv a2), some (iv 0), none, none, none, none, none]) C dX12_goesOne_72 rfl (Nat.le_of_ble_eq_true rfl) rfl ?_
    obtain ⟨b18, hb18, hF18⟩ := bnd h
    have hX18 : ∀ (σ46 : St) , σ46 = b18 → GM w p l e rm_X12_goesOne s m args below meth c none True σ' 9 215 [some (rv w 170), some (iv a1), none, none, none, none, none, none, none] [] σ46 := by
      intro σ46 q
      subst q
      have h := hF18
      refine g_iconst C dX12_goesOne_215 ?_
      refine g_istore_n (L1 := [some (rv w 170), some (iv a1), none, some (iv 0), none, none, none, none, none]) C dX12_goesOne_216 rfl (Nat.le_of_ble_eq_true rfl) rfl ?_
      obtain ⟨b47, hb47, hF47⟩ := bnd h
      have hX47 : ∀ (σ128 : St) , σ128 = b47 → GM w p l e rm_X12_goesOne s m args below meth c none True σ' 9 454 [some (rv w 170), some (iv a1), none, none, none, none, none, none, none] [] σ128 := by
        intro σ128 q
        subst q
        have h := hF47
        refine g_bipush C dX12_goesOne_454 rfl ?_
        refine g_istore_n (L1 := [some (rv w 170), some (iv a1), none, some (iv 95), none, none, none, none, none]) C dX12_goesOne_456 rfl (Nat.le_of_ble_eq_true rfl) rfl ?_
        obtain ⟨b129, hb129, hF129⟩ := bnd h
        have hX129 : ∀ (σ202 : St) , σ202 = b129 → GM w p l e rm_X12_goesOne s m args below meth c none True σ' 9 674 [some (rv w 170), some (iv a1), none, none, none, none, none, none, none] [] σ202 := by
          intro σ202 q
          subst q
          have h := hF129
          refine g_iconst C dX12_goesOne_674 ?_
          refine g_istore_n (L1 := [some (rv w 170), some (iv a1), none, some (iv 0), none, none, none, none, none]) C dX12_goesOne_675 rfl (Nat.le_of_ble_eq_true rfl) rfl ?_
          obtain ⟨b203, hb203, hF203⟩ := bnd h
          have hX203 : ∀ (σ214 : St) , σ214 = b203 → GM w p l e rm_X12_goesOne s m args below meth c none True σ' 9 724 [none, none, none, none, none, none, none, none, none] [] σ214 := by
            intro σ214 q
            subst q
            have h := hF203
            exact g_vretP C dX12_goesOne_724 hr hlk h
          have hL203 : ∀ (n : Nat) (x204 : Int) (σ205 : St) , InI x204 → lpN (fun a => m_X12_goesOne_L676 a1 a.1 a.2) n (x204, σ205) = some b203 → GM w p l e rm_X12_goesOne s m args below meth c none True σ' 9 676 [some (rv w 170), some (iv a1), none, some (iv x204), none, none, none, none, none] [] σ205 := by
            intro n
            induction n with
            | zero => intro x204 σ205 ix204 q; cases q
            | succ n ih203 =>
              intro x204 σ205 ix204 q
              obtain ⟨o203, h, hk203⟩ := lp_step q
              replace h : m_X12_goesOne_L676 a1 x204 σ205 = some o203 := h
              unfold m_X12_goesOne_L676 at h
              refine g_iload_n C dX12_goesOne_676 rfl ?_
              refine g_sipush C dX12_goesOne_677 rfl ?_
              refine g_icmp_ge C dX12_goesOne_680 ix204 (by decide) rfl (tgt := 724) (fun c206 => ?_) (fun c206 => ?_)
              · have h := ifT c206 h
                refine g_mask [false, false, true, false, true, true, true, true, true] ?_
                obtain rfl := Option.some.inj h
                exact hX203 σ205 (lpR hk203).symm
              · have h := ifF c206 h
                refine g_aload_n C dX12_goesOne_683 rfl ?_
                refine g_getR (j := 75) C dX12_goesOne_684 rfl (Nat.le_of_ble_eq_true rfl) (Nat.le_of_ble_eq_true rfl) fl_12_176 rfl rfl (r := 221) rfl ?_
                refine g_sipush C dX12_goesOne_687 rfl ?_
                refine g_iload_n C dX12_goesOne_690 rfl ?_
                refine g_imul C dX12_goesOne_691 ?_
                refine g_iload_n C dX12_goesOne_692 rfl ?_
                refine g_iadd C dX12_goesOne_693 ?_
                refine g_aload_n C dX12_goesOne_694 rfl ?_
                refine g_getR (j := 76) C dX12_goesOne_695 rfl (Nat.le_of_ble_eq_true rfl) (Nat.le_of_ble_eq_true rfl) fl_12_179 rfl rfl (r := 222) rfl ?_
                refine g_iload_n C dX12_goesOne_698 rfl ?_
                obtain ⟨x207, qx207, h⟩ := bnd h
                refine g_zald C dX12_goesOne_699 rfl rfl qx207 ix204 (fun ix207 => ?_)
                refine g_if_eq C dX12_goesOne_700 (zI ix207) rfl (tgt := 716) (fun c208 => ?_) (fun c208 => ?_)
                · have h := ifT c208 h
                  refine g_iconst C dX12_goesOne_716 ?_
                  obtain ⟨σ209, qσ209, h⟩ := bnd h
                  refine g_zast C dX12_goesOne_717 rfl rfl qσ209 (iwr _) (Or.inl rfl) ?_
                  refine g_iinc (L1 := [some (rv w 170), some (iv a1), none, some (iv (wr (x204 + 1))), none, none, none, none, none]) C dX12_goesOne_718 rfl rfl (Nat.le_of_ble_eq_true rfl) rfl ?_
                  refine g_goto C dX12_goesOne_721 rfl (tgt := 676) ?_
                  obtain rfl := Option.some.inj h
                  exact ih203 _ _ (iwr _) (lpL hk203)
                · have h := ifF c208 h
                  refine g_aload_n C dX12_goesOne_703 rfl ?_
                  refine g_getR (j := 77) C dX12_goesOne_704 rfl (Nat.le_of_ble_eq_true rfl) (Nat.le_of_ble_eq_true rfl) fl_12_182 rfl rfl (r := 223) rfl ?_
                  refine g_iload_n C dX12_goesOne_707 rfl ?_
                  obtain ⟨x210, qx210, h⟩ := bnd h
                  refine g_zald C dX12_goesOne_708 rfl rfl qx210 ix204 (fun ix210 => ?_)
                  refine g_if_eq C dX12_goesOne_709 (zI ix210) rfl (tgt := 716) (fun c211 => ?_) (fun c211 => ?_)
                  · have h := ifT c211 h
                    refine g_iconst C dX12_goesOne_716 ?_
                    obtain ⟨σ212, qσ212, h⟩ := bnd h
                    refine g_zast C dX12_goesOne_717 rfl rfl qσ212 (iwr _) (Or.inl rfl) ?_
                    refine g_iinc (L1 := [some (rv w 170), some (iv a1), none, some (iv (wr (x204 + 1))), none, none, none, none, none]) C dX12_goesOne_718 rfl rfl (Nat.le_of_ble_eq_true rfl) rfl ?_
                    refine g_goto C dX12_goesOne_721 rfl (tgt := 676) ?_
                    obtain rfl := Option.some.inj h
                    exact ih203 _ _ (iwr _) (lpL hk203)
                  · have h := ifF c211 h
                    refine g_iconst C dX12_goesOne_712 ?_
                    refine g_goto C dX12_goesOne_713 rfl (tgt := 717) ?_
                    obtain ⟨σ213, qσ213, h⟩ := bnd h
                    refine g_zast C dX12_goesOne_717 rfl rfl qσ213 (iwr _) (Or.inr rfl) ?_
                    refine g_iinc (L1 := [some (rv w 170), some (iv a1), none, some (iv (wr (x204 + 1))), none, none, none, none, none]) C dX12_goesOne_718 rfl rfl (Nat.le_of_ble_eq_true rfl) rfl ?_
                    refine g_goto C dX12_goesOne_721 rfl (tgt := 676) ?_
                    obtain rfl := Option.some.inj h
                    exact ih203 _ _ (iwr _) (lpL hk203)
          exact hL203 FU _ _ (by decide) hb203
        have hL129 : ∀ (n : Nat) (x130 : Int) (σ131 : St) , InI x130 → lpN (fun a => m_X12_goesOne_L457 a1 a.1 a.2) n (x130, σ131) = some b129 → GM w p l e rm_X12_goesOne s m args below meth c none True σ' 9 457 [some (rv w 170), some (iv a1), none, some (iv x130), none, none, none, none, none] [] σ131 := by
          intro n
          induction n with
          | zero => intro x130 σ131 ix130 q; cases q
          | succ n ih129 =>
            intro x130 σ131 ix130 q
            obtain ⟨o129, h, hk129⟩ := lp_step q
            replace h : m_X12_goesOne_L457 a1 x130 σ131 = some o129 := h
            unfold m_X12_goesOne_L457 at h
            refine g_iload_n C dX12_goesOne_457 rfl ?_
            refine g_if_lt C dX12_goesOne_458 ix130 rfl (tgt := 674) (fun c132 => ?_) (fun c132 => ?_)
            · have h := ifT c132 h
              refine g_mask [true, true, true, false, true, true, true, true, true] ?_
              obtain rfl := Option.some.inj h
              exact hX129 σ131 (lpR hk129).symm
            · have h := ifF c132 h
              refine g_iconst C dX12_goesOne_461 ?_
              refine g_istore (L1 := [some (rv w 170), some (iv a1), none, some (iv x130), some (iv 0), none, none, none, none]) C dX12_goesOne_462 rfl (Nat.le_of_ble_eq_true rfl) rfl ?_
              obtain ⟨b133, hb133, hF133⟩ := bnd h
              have hX133 : ∀ (σ201 : St) , σ201 = b133 → GM w p l e rm_X12_goesOne s m args below meth c none True σ' 9 668 [some (rv w 170), some (iv a1), none, some (iv x130), none, none, none, none, none] [] σ201 := by
                intro σ201 q
                subst q
                have h := hF133
                refine g_iinc (L1 := [some (rv w 170), some (iv a1), none, some (iv (wr (x130 + (-1)))), none, none, none, none, none]) C dX12_goesOne_668 rfl rfl (Nat.le_of_ble_eq_true rfl) rfl ?_
                refine g_goto C dX12_goesOne_671 rfl (tgt := 457) ?_
                obtain rfl := Option.some.inj h
                exact ih129 _ _ (iwr _) (lpL hk129)
              have hL133 : ∀ (n : Nat) (x134 : Int) (σ135 : St) , InI x134 → lpN (fun a => m_X12_goesOne_L464 x130 a1 a.1 a.2) n (x134, σ135) = some b133 → GM w p l e rm_X12_goesOne s m args below meth c none True σ' 9 464 [some (rv w 170), some (iv a1), none, some (iv x130), some (iv x134), none, none, none, none] [] σ135 := by
                intro n
                induction n with
                | zero => intro x134 σ135 ix134 q; cases q
                | succ n ih133 =>
                  intro x134 σ135 ix134 q
                  obtain ⟨o133, h, hk133⟩ := lp_step q
                  replace h : m_X12_goesOne_L464 x130 a1 x134 σ135 = some o133 := h
                  unfold m_X12_goesOne_L464 at h
                  refine g_iload C dX12_goesOne_464 rfl ?_
                  refine g_bipush C dX12_goesOne_466 rfl ?_
                  refine g_icmp_ge C dX12_goesOne_468 ix134 (by decide) rfl (tgt := 668) (fun c136 => ?_) (fun c136 => ?_)
                  · have h := ifT c136 h
                    refine g_mask [true, true, true, true, false, true, true, true, true] ?_
                    obtain rfl := Option.some.inj h
                    exact hX133 σ135 (lpR hk133).symm
                  · have h := ifF c136 h
                    refine g_iload_n C dX12_goesOne_471 rfl ?_
                    refine g_bipush C dX12_goesOne_472 rfl ?_
                    have hJ495_200 : m_X12_goesOne_J495 σ135 x134 x130 a1 = some o133 → GM w p l e rm_X12_goesOne s m args below meth c none True σ' 9 495 [some (rv w 170), some (iv a1), none, some (iv x130), some (iv x134), none, none, none, none] [] σ135 := by
                      intro h
                      unfold m_X12_goesOne_J495 at h
                      refine g_iconst C dX12_goesOne_495 ?_
                      refine g_goto C dX12_goesOne_496 rfl (tgt := 500) ?_
                      refine g_istore (L1 := [some (rv w 170), some (iv a1), none, some (iv x130), some (iv x134), some (iv 1), none, none, none]) C dX12_goesOne_500 rfl (Nat.le_of_ble_eq_true rfl) rfl ?_
                      refine g_iconst C dX12_goesOne_502 ?_
                      refine g_istore (L1 := [some (rv w 170), some (iv a1), none, some (iv x130), some (iv x134), some (iv 1), some (iv 0), none, none]) C dX12_goesOne_503 rfl (Nat.le_of_ble_eq_true rfl) rfl ?_
                      obtain ⟨b169, hb169, hF169⟩ := bnd h
                      have hX169 : ∀ (x192 : Int) , InZ x192 → x192 = b169 → GM w p l e rm_X12_goesOne s m args below meth c none True σ' 9 625 [some (rv w 170), some (iv a1), none, some (iv x130), some (iv x134), some (iv x192), none, none, none] [] σ135 := by
                        intro x192 ix192 q
                        subst q
                        have h := hF169
                        refine g_aload_n C dX12_goesOne_625 rfl ?_
                        refine g_getR (j := 77) C dX12_goesOne_626 rfl (Nat.le_of_ble_eq_true rfl) (Nat.le_of_ble_eq_true rfl) fl_12_182 rfl rfl (r := 223) rfl ?_
                        refine g_bipush C dX12_goesOne_629 rfl ?_
                        refine g_iload_n C dX12_goesOne_631 rfl ?_
                        refine g_imul C dX12_goesOne_632 ?_
                        refine g_iload C dX12_goesOne_633 rfl ?_
                        refine g_iadd C dX12_goesOne_635 ?_
                        refine g_iload C dX12_goesOne_636 rfl ?_
                        refine g_if_eq C dX12_goesOne_638 (zI ix192) rfl (tgt := 660) (fun c194 => ?_) (fun c194 => ?_)
                        · have h := ifT c194 h
                          refine g_iconst C dX12_goesOne_660 ?_
                          obtain ⟨σ195, qσ195, h⟩ := bnd h
                          refine g_zast C dX12_goesOne_661 rfl rfl qσ195 (iwr _) (Or.inl rfl) ?_
                          refine g_iinc (L1 := [some (rv w 170), some (iv a1), none, some (iv x130), some (iv (wr (x134 + 1))), some (iv x192), none, none, none]) C dX12_goesOne_662 rfl rfl (Nat.le_of_ble_eq_true rfl) rfl ?_
                          refine g_goto C dX12_goesOne_665 rfl (tgt := 464) ?_
                          refine g_mask [true, true, true, true, true, false, true, true, true] ?_
                          obtain rfl := Option.some.inj h
                          exact ih133 _ _ (iwr _) (lpL hk133)
                        · have h := ifF c194 h
                          refine g_aload_n C dX12_goesOne_641 rfl ?_
                          refine g_getR (j := 78) C dX12_goesOne_642 rfl (Nat.le_of_ble_eq_true rfl) (Nat.le_of_ble_eq_true rfl) fl_12_185 rfl rfl (r := 224) rfl ?_
                          refine g_bipush C dX12_goesOne_645 rfl ?_
                          refine g_iload_n C dX12_goesOne_647 rfl ?_
                          refine g_imul C dX12_goesOne_648 ?_
                          refine g_iload C dX12_goesOne_649 rfl ?_
                          refine g_iadd C dX12_goesOne_651 ?_
                          obtain ⟨x196, qx196, h⟩ := bnd h
                          refine g_zald C dX12_goesOne_652 rfl rfl qx196 (iwr _) (fun ix196 => ?_)
                          refine g_if_eq C dX12_goesOne_653 (zI ix196) rfl (tgt := 660) (fun c197 => ?_) (fun c197 => ?_)
                          · have h := ifT c197 h
                            refine g_iconst C dX12_goesOne_660 ?_
                            obtain ⟨σ198, qσ198, h⟩ := bnd h
                            refine g_zast C dX12_goesOne_661 rfl rfl qσ198 (iwr _) (Or.inl rfl) ?_
                            refine g_iinc (L1 := [some (rv w 170), some (iv a1), none, some (iv x130), some (iv (wr (x134 + 1))), some (iv x192), none, none, none]) C dX12_goesOne_662 rfl rfl (Nat.le_of_ble_eq_true rfl) rfl ?_
                            refine g_goto C dX12_goesOne_665 rfl (tgt := 464) ?_
                            refine g_mask [true, true, true, true, true, false, true, true, true] ?_
                            obtain rfl := Option.some.inj h
                            exact ih133 _ _ (iwr _) (lpL hk133)
                          · have h := ifF c197 h
                            refine g_iconst C dX12_goesOne_656 ?_
                            refine g_goto C dX12_goesOne_657 rfl (tgt := 661) ?_
                            obtain ⟨σ199, qσ199, h⟩ := bnd h
                            refine g_zast C dX12_goesOne_661 rfl rfl qσ199 (iwr _) (Or.inr rfl) ?_
                            refine g_iinc (L1 := [some (rv w 170), some (iv a1), none, some (iv x130), some (iv (wr (x134 + 1))), some (iv x192), none, none, none]) C dX12_goesOne_662 rfl rfl (Nat.le_of_ble_eq_true rfl) rfl ?_
                            refine g_goto C dX12_goesOne_665 rfl (tgt := 464) ?_
                            refine g_mask [true, true, true, true, true, false, true, true, true] ?_
                            obtain rfl := Option.some.inj h
                            exact ih133 _ _ (iwr _) (lpL hk133)
                      have hL169 : ∀ (n : Nat) (x170 : Int) (x171 : Int) , InZ x170 → InI x171 → lpN (fun a => m_X12_goesOne_L505_193 σ135 x134 x130 a1 a.1 a.2) n (x170, x171) = some b169 → GM w p l e rm_X12_goesOne s m args below meth c none True σ' 9 505 [some (rv w 170), some (iv a1), none, some (iv x130), some (iv x134), some (iv x170), some (iv x171), none, none] [] σ135 := by
                        intro n
                        induction n with
                        | zero => intro x170 x171 ix170 ix171 q; cases q
                        | succ n ih169 =>
                          intro x170 x171 ix170 ix171 q
                          obtain ⟨o169, h, hk169⟩ := lp_step q
                          replace h : m_X12_goesOne_L505_193 σ135 x134 x130 a1 x170 x171 = some o169 := h
                          unfold m_X12_goesOne_L505_193 at h
                          refine g_iload C dX12_goesOne_505 rfl ?_
                          refine g_aload_n C dX12_goesOne_507 rfl ?_
                          refine g_getI (j := 31) C dX12_goesOne_508 rfl (Nat.le_of_ble_eq_true rfl) (Nat.le_of_ble_eq_true rfl) fl_12_336 rfl rfl (fun i172 => ?_)
                          refine g_icmp_ge C dX12_goesOne_511 ix171 i172 rfl (tgt := 625) (fun c173 => ?_) (fun c173 => ?_)
                          · have h := ifT c173 h
                            refine g_mask [true, true, true, true, true, true, false, true, true] ?_
                            obtain rfl := Option.some.inj h
                            exact hX169 x170 ix170 (lpR hk169).symm
                          · have h := ifF c173 h
                            refine g_iload C dX12_goesOne_514 rfl ?_
                            refine g_if_ne C dX12_goesOne_516 (zI ix170) rfl (tgt := 625) (fun c174 => ?_) (fun c174 => ?_)
                            · have h := ifF c174 h
                              refine g_mask [true, true, true, true, true, true, false, true, true] ?_
                              obtain rfl := Option.some.inj h
                              exact hX169 x170 ix170 (lpR hk169).symm
                            · have h := ifT c174 h
                              refine g_aload_n C dX12_goesOne_519 rfl ?_
                              refine g_getR (j := 32) C dX12_goesOne_520 rfl (Nat.le_of_ble_eq_true rfl) (Nat.le_of_ble_eq_true rfl) fl_12_67 rfl rfl (r := 187) rfl ?_
                              refine g_iload C dX12_goesOne_523 rfl ?_
                              obtain ⟨x175, qx175, h⟩ := bnd h
                              refine g_iald C dX12_goesOne_525 rfl rfl qx175 ix171 (fun ix175 => ?_)
                              refine g_iload C dX12_goesOne_526 rfl ?_
                              have hJ546_191 : m_X12_goesOne_J546_190 σ135 x171 x134 x130 a1 x170 = some o169 → GM w p l e rm_X12_goesOne s m args below meth c none True σ' 9 546 [some (rv w 170), some (iv a1), none, some (iv x130), some (iv x134), some (iv x170), some (iv x171), none, none] [] σ135 := by
                                intro h
                                unfold m_X12_goesOne_J546_190 at h
                                refine g_aload_n C dX12_goesOne_546 rfl ?_
                                refine g_getR (j := 32) C dX12_goesOne_547 rfl (Nat.le_of_ble_eq_true rfl) (Nat.le_of_ble_eq_true rfl) fl_12_67 rfl rfl (r := 187) rfl ?_
                                refine g_iload C dX12_goesOne_550 rfl ?_
                                obtain ⟨x179, qx179, h⟩ := bnd h
                                refine g_iald C dX12_goesOne_552 rfl rfl qx179 ix171 (fun ix179 => ?_)
                                refine g_aload_n C dX12_goesOne_553 rfl ?_
                                refine g_getR (j := 33) C dX12_goesOne_554 rfl (Nat.le_of_ble_eq_true rfl) (Nat.le_of_ble_eq_true rfl) fl_12_70 rfl rfl (r := 188) rfl ?_
                                refine g_iload C dX12_goesOne_557 rfl ?_
                                obtain ⟨x180, qx180, h⟩ := bnd h
                                refine g_iald C dX12_goesOne_559 rfl rfl qx180 ix171 (fun ix180 => ?_)
                                refine g_iadd C dX12_goesOne_560 ?_
                                refine g_iload C dX12_goesOne_561 rfl ?_
                                refine g_isub C dX12_goesOne_563 ?_
                                obtain ⟨x181, qx181, h⟩ := bnd h
                                have qx181 := Option.some.inj qx181
                                have ix181 : InI x181 := by rw [← qx181]; exact (iwr _)
                                refine g_E qx181 ?_
                                refine g_istore (L1 := [some (rv w 170), some (iv a1), none, some (iv x130), some (iv x134), some (iv x170), some (iv x171), some (iv x181), none]) C dX12_goesOne_564 rfl (Nat.le_of_ble_eq_true rfl) rfl ?_
                                refine g_iload_n C dX12_goesOne_566 rfl ?_
                                refine g_aload_n C dX12_goesOne_567 rfl ?_
                                refine g_getR (j := 34) C dX12_goesOne_568 rfl (Nat.le_of_ble_eq_true rfl) (Nat.le_of_ble_eq_true rfl) fl_12_73 rfl rfl (r := 189) rfl ?_
                                refine g_iload C dX12_goesOne_571 rfl ?_
                                obtain ⟨x182, qx182, h⟩ := bnd h
                                refine g_iald C dX12_goesOne_573 rfl rfl qx182 ix171 (fun ix182 => ?_)
                                refine g_iadd C dX12_goesOne_574 ?_
                                obtain ⟨x183, qx183, h⟩ := bnd h
                                have qx183 := Option.some.inj qx183
                                have ix183 : InI x183 := by rw [← qx183]; exact (iwr _)
                                refine g_E qx183 ?_
                                refine g_istore (L1 := [some (rv w 170), some (iv a1), none, some (iv x130), some (iv x134), some (iv x170), some (iv x171), some (iv x181), some (iv x183)]) C dX12_goesOne_575 rfl (Nat.le_of_ble_eq_true rfl) rfl ?_
                                refine g_aload_n C dX12_goesOne_577 rfl ?_
                                refine g_iload_n C dX12_goesOne_578 rfl ?_
                                refine g_iload_n C dX12_goesOne_579 rfl ?_
                                refine g_aload_n C dX12_goesOne_580 rfl ?_
                                refine g_getR (j := 34) C dX12_goesOne_581 rfl (Nat.le_of_ble_eq_true rfl) (Nat.le_of_ble_eq_true rfl) fl_12_73 rfl rfl (r := 189) rfl ?_
                                refine g_iload C dX12_goesOne_584 rfl ?_
                                obtain ⟨x184, qx184, h⟩ := bnd h
                                refine g_iald C dX12_goesOne_586 rfl rfl qx184 ix171 (fun ix184 => ?_)
                                obtain ⟨x185, qx185, h⟩ := bnd h
                                refine g_callV1 (As := [iv a1, iv x130, iv x184]) C dX12_goesOne_587 mi_X12_isFree ml_12_440 (ct_X12_isFree ia1 ix130 ix184 qx185) rfl rfl ⟨rfl, rfl⟩ ⟨Nat.le_of_ble_eq_true rfl, Nat.le_of_ble_eq_true rfl⟩ ⟨Nat.zero_le _, Nat.zero_le _⟩ rfl (Nat.le_of_ble_eq_true rfl) (fun ix185 => ?_)
                                refine g_if_eq C dX12_goesOne_590 (zI ix185) rfl (tgt := 619) (fun c186 => ?_) (fun c186 => ?_)
                                · have h := ifT c186 h
                                  refine g_iinc (L1 := [some (rv w 170), some (iv a1), none, some (iv x130), some (iv x134), some (iv x170), some (iv (wr (x171 + 1))), some (iv x181), some (iv x183)]) C dX12_goesOne_619 rfl rfl (Nat.le_of_ble_eq_true rfl) rfl ?_
                                  refine g_goto C dX12_goesOne_622 rfl (tgt := 505) ?_
                                  refine g_mask [true, true, true, true, true, true, true, false, false] ?_
                                  obtain rfl := Option.some.inj h
                                  exact ih169 _ _ ix170 (iwr _) (lpL hk169)
                                · have h := ifF c186 h
                                  refine g_iload C dX12_goesOne_593 rfl ?_
                                  refine g_bipush C dX12_goesOne_595 rfl ?_
                                  refine g_icmp_ge C dX12_goesOne_597 ix183 (by decide) rfl (tgt := 616) (fun c187 => ?_) (fun c187 => ?_)
                                  · have h := ifT c187 h
                                    refine g_iconst C dX12_goesOne_616 ?_
                                    refine g_istore (L1 := [some (rv w 170), some (iv a1), none, some (iv x130), some (iv x134), some (iv 1), some (iv x171), some (iv x181), some (iv x183)]) C dX12_goesOne_617 rfl (Nat.le_of_ble_eq_true rfl) rfl ?_
                                    refine g_iinc (L1 := [some (rv w 170), some (iv a1), none, some (iv x130), some (iv x134), some (iv 1), some (iv (wr (x171 + 1))), some (iv x181), some (iv x183)]) C dX12_goesOne_619 rfl rfl (Nat.le_of_ble_eq_true rfl) rfl ?_
                                    refine g_goto C dX12_goesOne_622 rfl (tgt := 505) ?_
                                    refine g_mask [true, true, true, true, true, true, true, false, false] ?_
                                    obtain rfl := Option.some.inj h
                                    exact ih169 _ _ (Or.inr rfl) (iwr _) (lpL hk169)
                                  · have h := ifF c187 h
                                    refine g_aload_n C dX12_goesOne_600 rfl ?_
                                    refine g_getR (j := 77) C dX12_goesOne_601 rfl (Nat.le_of_ble_eq_true rfl) (Nat.le_of_ble_eq_true rfl) fl_12_182 rfl rfl (r := 223) rfl ?_
                                    refine g_bipush C dX12_goesOne_604 rfl ?_
                                    refine g_iload C dX12_goesOne_606 rfl ?_
                                    refine g_imul C dX12_goesOne_608 ?_
                                    refine g_iload C dX12_goesOne_609 rfl ?_
                                    refine g_iadd C dX12_goesOne_611 ?_
                                    obtain ⟨x188, qx188, h⟩ := bnd h
                                    refine g_zald C dX12_goesOne_612 rfl rfl qx188 (iwr _) (fun ix188 => ?_)
                                    refine g_if_eq C dX12_goesOne_613 (zI ix188) rfl (tgt := 619) (fun c189 => ?_) (fun c189 => ?_)
                                    · have h := ifT c189 h
                                      refine g_iinc (L1 := [some (rv w 170), some (iv a1), none, some (iv x130), some (iv x134), some (iv x170), some (iv (wr (x171 + 1))), some (iv x181), some (iv x183)]) C dX12_goesOne_619 rfl rfl (Nat.le_of_ble_eq_true rfl) rfl ?_
                                      refine g_goto C dX12_goesOne_622 rfl (tgt := 505) ?_
                                      refine g_mask [true, true, true, true, true, true, true, false, false] ?_
                                      obtain rfl := Option.some.inj h
                                      exact ih169 _ _ ix170 (iwr _) (lpL hk169)
                                    · have h := ifF c189 h
                                      refine g_iconst C dX12_goesOne_616 ?_
                                      refine g_istore (L1 := [some (rv w 170), some (iv a1), none, some (iv x130), some (iv x134), some (iv 1), some (iv x171), some (iv x181), some (iv x183)]) C dX12_goesOne_617 rfl (Nat.le_of_ble_eq_true rfl) rfl ?_
                                      refine g_iinc (L1 := [some (rv w 170), some (iv a1), none, some (iv x130), some (iv x134), some (iv 1), some (iv (wr (x171 + 1))), some (iv x181), some (iv x183)]) C dX12_goesOne_619 rfl rfl (Nat.le_of_ble_eq_true rfl) rfl ?_
                                      refine g_goto C dX12_goesOne_622 rfl (tgt := 505) ?_
                                      refine g_mask [true, true, true, true, true, true, true, false, false] ?_
                                      obtain rfl := Option.some.inj h
                                      exact ih169 _ _ (Or.inr rfl) (iwr _) (lpL hk169)
                              refine g_icmp_eq C dX12_goesOne_528 ix175 ix134 rfl (tgt := 546) (fun c176 => ?_) (fun c176 => ?_)
                              · have h := ifT c176 h
                                exact hJ546_191  h
                              · have h := ifF c176 h
                                refine g_aload_n C dX12_goesOne_531 rfl ?_
                                refine g_getR (j := 33) C dX12_goesOne_532 rfl (Nat.le_of_ble_eq_true rfl) (Nat.le_of_ble_eq_true rfl) fl_12_70 rfl rfl (r := 188) rfl ?_
                                refine g_iload C dX12_goesOne_535 rfl ?_
                                obtain ⟨x177, qx177, h⟩ := bnd h
                                refine g_iald C dX12_goesOne_537 rfl rfl qx177 ix171 (fun ix177 => ?_)
                                refine g_iload C dX12_goesOne_538 rfl ?_
                                refine g_icmp_eq C dX12_goesOne_540 ix177 ix134 rfl (tgt := 546) (fun c178 => ?_) (fun c178 => ?_)
                                · have h := ifT c178 h
                                  exact hJ546_191  h
                                · have h := ifF c178 h
                                  refine g_goto C dX12_goesOne_543 rfl (tgt := 619) ?_
                                  refine g_iinc (L1 := [some (rv w 170), some (iv a1), none, some (iv x130), some (iv x134), some (iv x170), some (iv (wr (x171 + 1))), none, none]) C dX12_goesOne_619 rfl rfl (Nat.le_of_ble_eq_true rfl) rfl ?_
                                  refine g_goto C dX12_goesOne_622 rfl (tgt := 505) ?_
                                  obtain rfl := Option.some.inj h
                                  exact ih169 _ _ ix170 (iwr _) (lpL hk169)
                      exact hL169 FU _ _ (Or.inr rfl) (by decide) hb169
                    refine g_icmp_eq C dX12_goesOne_474 ix130 (by decide) rfl (tgt := 495) (fun c137 => ?_) (fun c137 => ?_)
                    · have h := ifT c137 h
                      exact hJ495_200  h
                    · have h := ifF c137 h
                      refine g_aload_n C dX12_goesOne_477 rfl ?_
                      refine g_getR (j := 77) C dX12_goesOne_478 rfl (Nat.le_of_ble_eq_true rfl) (Nat.le_of_ble_eq_true rfl) fl_12_182 rfl rfl (r := 223) rfl ?_
                      refine g_bipush C dX12_goesOne_481 rfl ?_
                      refine g_iload_n C dX12_goesOne_483 rfl ?_
                      refine g_imul C dX12_goesOne_484 ?_
                      refine g_bipush C dX12_goesOne_485 rfl ?_
                      refine g_iadd C dX12_goesOne_487 ?_
                      refine g_iload C dX12_goesOne_488 rfl ?_
                      refine g_iadd C dX12_goesOne_490 ?_
                      obtain ⟨x138, qx138, h⟩ := bnd h
                      refine g_zald C dX12_goesOne_491 rfl rfl qx138 (iwr _) (fun ix138 => ?_)
                      refine g_if_eq C dX12_goesOne_492 (zI ix138) rfl (tgt := 499) (fun c139 => ?_) (fun c139 => ?_)
                      · have h := ifT c139 h
                        refine g_iconst C dX12_goesOne_499 ?_
                        refine g_istore (L1 := [some (rv w 170), some (iv a1), none, some (iv x130), some (iv x134), some (iv 0), none, none, none]) C dX12_goesOne_500 rfl (Nat.le_of_ble_eq_true rfl) rfl ?_
                        refine g_iconst C dX12_goesOne_502 ?_
                        refine g_istore (L1 := [some (rv w 170), some (iv a1), none, some (iv x130), some (iv x134), some (iv 0), some (iv 0), none, none]) C dX12_goesOne_503 rfl (Nat.le_of_ble_eq_true rfl) rfl ?_
                        obtain ⟨b140, hb140, hF140⟩ := bnd h
                        have hX140 : ∀ (x162 : Int) , InZ x162 → x162 = b140 → GM w p l e rm_X12_goesOne s m args below meth c none True σ' 9 625 [some (rv w 170), some (iv a1), none, some (iv x130), some (iv x134), some (iv x162), none, none, none] [] σ135 := by
                          intro x162 ix162 q
                          subst q
                          have h := hF140
                          refine g_aload_n C dX12_goesOne_625 rfl ?_
                          refine g_getR (j := 77) C dX12_goesOne_626 rfl (Nat.le_of_ble_eq_true rfl) (Nat.le_of_ble_eq_true rfl) fl_12_182 rfl rfl (r := 223) rfl ?_
                          refine g_bipush C dX12_goesOne_629 rfl ?_
                          refine g_iload_n C dX12_goesOne_631 rfl ?_
                          refine g_imul C dX12_goesOne_632 ?_
                          refine g_iload C dX12_goesOne_633 rfl ?_
                          refine g_iadd C dX12_goesOne_635 ?_
                          refine g_iload C dX12_goesOne_636 rfl ?_
                          refine g_if_eq C dX12_goesOne_638 (zI ix162) rfl (tgt := 660) (fun c163 => ?_) (fun c163 => ?_)
                          · have h := ifT c163 h
                            refine g_iconst C dX12_goesOne_660 ?_
                            obtain ⟨σ164, qσ164, h⟩ := bnd h
                            refine g_zast C dX12_goesOne_661 rfl rfl qσ164 (iwr _) (Or.inl rfl) ?_
                            refine g_iinc (L1 := [some (rv w 170), some (iv a1), none, some (iv x130), some (iv (wr (x134 + 1))), some (iv x162), none, none, none]) C dX12_goesOne_662 rfl rfl (Nat.le_of_ble_eq_true rfl) rfl ?_
                            refine g_goto C dX12_goesOne_665 rfl (tgt := 464) ?_
                            refine g_mask [true, true, true, true, true, false, true, true, true] ?_
                            obtain rfl := Option.some.inj h
                            exact ih133 _ _ (iwr _) (lpL hk133)
                          · have h := ifF c163 h
                            refine g_aload_n C dX12_goesOne_641 rfl ?_
                            refine g_getR (j := 78) C dX12_goesOne_642 rfl (Nat.le_of_ble_eq_true rfl) (Nat.le_of_ble_eq_true rfl) fl_12_185 rfl rfl (r := 224) rfl ?_
                            refine g_bipush C dX12_goesOne_645 rfl ?_
                            refine g_iload_n C dX12_goesOne_647 rfl ?_
                            refine g_imul C dX12_goesOne_648 ?_
                            refine g_iload C dX12_goesOne_649 rfl ?_
                            refine g_iadd C dX12_goesOne_651 ?_
                            obtain ⟨x165, qx165, h⟩ := bnd h
                            refine g_zald C dX12_goesOne_652 rfl rfl qx165 (iwr _) (fun ix165 => ?_)
                            refine g_if_eq C dX12_goesOne_653 (zI ix165) rfl (tgt := 660) (fun c166 => ?_) (fun c166 => ?_)
                            · have h := ifT c166 h
                              refine g_iconst C dX12_goesOne_660 ?_
                              obtain ⟨σ167, qσ167, h⟩ := bnd h
                              refine g_zast C dX12_goesOne_661 rfl rfl qσ167 (iwr _) (Or.inl rfl) ?_
                              refine g_iinc (L1 := [some (rv w 170), some (iv a1), none, some (iv x130), some (iv (wr (x134 + 1))), some (iv x162), none, none, none]) C dX12_goesOne_662 rfl rfl (Nat.le_of_ble_eq_true rfl) rfl ?_
                              refine g_goto C dX12_goesOne_665 rfl (tgt := 464) ?_
                              refine g_mask [true, true, true, true, true, false, true, true, true] ?_
                              obtain rfl := Option.some.inj h
                              exact ih133 _ _ (iwr _) (lpL hk133)
                            · have h := ifF c166 h
                              refine g_iconst C dX12_goesOne_656 ?_
                              refine g_goto C dX12_goesOne_657 rfl (tgt := 661) ?_
                              obtain ⟨σ168, qσ168, h⟩ := bnd h
                              refine g_zast C dX12_goesOne_661 rfl rfl qσ168 (iwr _) (Or.inr rfl) ?_
                              refine g_iinc (L1 := [some (rv w 170), some (iv a1), none, some (iv x130), some (iv (wr (x134 + 1))), some (iv x162), none, none, none]) C dX12_goesOne_662 rfl rfl (Nat.le_of_ble_eq_true rfl) rfl ?_
                              refine g_goto C dX12_goesOne_665 rfl (tgt := 464) ?_
                              refine g_mask [true, true, true, true, true, false, true, true, true] ?_
                              obtain rfl := Option.some.inj h
                              exact ih133 _ _ (iwr _) (lpL hk133)
                        have hL140 : ∀ (n : Nat) (x141 : Int) (x142 : Int) , InZ x141 → InI x142 → lpN (fun a => m_X12_goesOne_L505 σ135 x134 x130 a1 a.1 a.2) n (x141, x142) = some b140 → GM w p l e rm_X12_goesOne s m args below meth c none True σ' 9 505 [some (rv w 170), some (iv a1), none, some (iv x130), some (iv x134), some (iv x141), some (iv x142), none, none] [] σ135 := by
                          intro n
                          induction n with
                          | zero => intro x141 x142 ix141 ix142 q; cases q
                          | succ n ih140 =>
                            intro x141 x142 ix141 ix142 q
                            obtain ⟨o140, h, hk140⟩ := lp_step q
                            replace h : m_X12_goesOne_L505 σ135 x134 x130 a1 x141 x142 = some o140 := h
                            unfold m_X12_goesOne_L505 at h
                            refine g_iload C dX12_goesOne_505 rfl ?_
                            refine g_aload_n C dX12_goesOne_507 rfl ?_
                            refine g_getI (j := 31) C dX12_goesOne_508 rfl (Nat.le_of_ble_eq_true rfl) (Nat.le_of_ble_eq_true rfl) fl_12_336 rfl rfl (fun i143 => ?_)
                            refine g_icmp_ge C dX12_goesOne_511 ix142 i143 rfl (tgt := 625) (fun c144 => ?_) (fun c144 => ?_)
                            · have h := ifT c144 h
                              refine g_mask [true, true, true, true, true, true, false, true, true] ?_
                              obtain rfl := Option.some.inj h
                              exact hX140 x141 ix141 (lpR hk140).symm
                            · have h := ifF c144 h
                              refine g_iload C dX12_goesOne_514 rfl ?_
                              refine g_if_ne C dX12_goesOne_516 (zI ix141) rfl (tgt := 625) (fun c145 => ?_) (fun c145 => ?_)
                              · have h := ifF c145 h
                                refine g_mask [true, true, true, true, true, true, false, true, true] ?_
                                obtain rfl := Option.some.inj h
                                exact hX140 x141 ix141 (lpR hk140).symm
                              · have h := ifT c145 h
                                refine g_aload_n C dX12_goesOne_519 rfl ?_
                                refine g_getR (j := 32) C dX12_goesOne_520 rfl (Nat.le_of_ble_eq_true rfl) (Nat.le_of_ble_eq_true rfl) fl_12_67 rfl rfl (r := 187) rfl ?_
                                refine g_iload C dX12_goesOne_523 rfl ?_
                                obtain ⟨x146, qx146, h⟩ := bnd h
                                refine g_iald C dX12_goesOne_525 rfl rfl qx146 ix142 (fun ix146 => ?_)
                                refine g_iload C dX12_goesOne_526 rfl ?_
                                have hJ546_161 : m_X12_goesOne_J546 σ135 x142 x134 x130 a1 x141 = some o140 → GM w p l e rm_X12_goesOne s m args below meth c none True σ' 9 546 [some (rv w 170), some (iv a1), none, some (iv x130), some (iv x134), some (iv x141), some (iv x142), none, none] [] σ135 := by
                                  intro h
                                  unfold m_X12_goesOne_J546 at h
                                  refine g_aload_n C dX12_goesOne_546 rfl ?_
                                  refine g_getR (j := 32) C dX12_goesOne_547 rfl (Nat.le_of_ble_eq_true rfl) (Nat.le_of_ble_eq_true rfl) fl_12_67 rfl rfl (r := 187) rfl ?_
                                  refine g_iload C dX12_goesOne_550 rfl ?_
                                  obtain ⟨x150, qx150, h⟩ := bnd h
                                  refine g_iald C dX12_goesOne_552 rfl rfl qx150 ix142 (fun ix150 => ?_)
                                  refine g_aload_n C dX12_goesOne_553 rfl ?_
                                  refine g_getR (j := 33) C dX12_goesOne_554 rfl (Nat.le_of_ble_eq_true rfl) (Nat.le_of_ble_eq_true rfl) fl_12_70 rfl rfl (r := 188) rfl ?_
                                  refine g_iload C dX12_goesOne_557 rfl ?_
                                  obtain ⟨x151, qx151, h⟩ := bnd h
                                  refine g_iald C dX12_goesOne_559 rfl rfl qx151 ix142 (fun ix151 => ?_)
                                  refine g_iadd C dX12_goesOne_560 ?_
                                  refine g_iload C dX12_goesOne_561 rfl ?_
                                  refine g_isub C dX12_goesOne_563 ?_
                                  obtain ⟨x152, qx152, h⟩ := bnd h
                                  have qx152 := Option.some.inj qx152
                                  have ix152 : InI x152 := by rw [← qx152]; exact (iwr _)
                                  refine g_E qx152 ?_
                                  refine g_istore (L1 := [some (rv w 170), some (iv a1), none, some (iv x130), some (iv x134), some (iv x141), some (iv x142), some (iv x152), none]) C dX12_goesOne_564 rfl (Nat.le_of_ble_eq_true rfl) rfl ?_
                                  refine g_iload_n C dX12_goesOne_566 rfl ?_
                                  refine g_aload_n C dX12_goesOne_567 rfl ?_
                                  refine g_getR (j := 34) C dX12_goesOne_568 rfl (Nat.le_of_ble_eq_true rfl) (Nat.le_of_ble_eq_true rfl) fl_12_73 rfl rfl (r := 189) rfl ?_
                                  refine g_iload C dX12_goesOne_571 rfl ?_
                                  obtain ⟨x153, qx153, h⟩ := bnd h
                                  refine g_iald C dX12_goesOne_573 rfl rfl qx153 ix142 (fun ix153 => ?_)
                                  refine g_iadd C dX12_goesOne_574 ?_
                                  obtain ⟨x154, qx154, h⟩ := bnd h
                                  have qx154 := Option.some.inj qx154
                                  have ix154 : InI x154 := by rw [← qx154]; exact (iwr _)
                                  refine g_E qx154 ?_
                                  refine g_istore (L1 := [some (rv w 170), some (iv a1), none, some (iv x130), some (iv x134), some (iv x141), some (iv x142), some (iv x152), some (iv x154)]) C dX12_goesOne_575 rfl (Nat.le_of_ble_eq_true rfl) rfl ?_
                                  refine g_aload_n C dX12_goesOne_577 rfl ?_
                                  refine g_iload_n C dX12_goesOne_578 rfl ?_
                                  refine g_iload_n C dX12_goesOne_579 rfl ?_
                                  refine g_aload_n C dX12_goesOne_580 rfl ?_
                                  refine g_getR (j := 34) C dX12_goesOne_581 rfl (Nat.le_of_ble_eq_true rfl) (Nat.le_of_ble_eq_true rfl) fl_12_73 rfl rfl (r := 189) rfl ?_
                                  refine g_iload C dX12_goesOne_584 rfl ?_
                                  obtain ⟨x155, qx155, h⟩ := bnd h
                                  refine g_iald C dX12_goesOne_586 rfl rfl qx155 ix142 (fun ix155 => ?_)
                                  obtain ⟨x156, qx156, h⟩ := bnd h
                                  refine g_callV1 (As := [iv a1, iv x130, iv x155]) C dX12_goesOne_587 mi_X12_isFree ml_12_440 (ct_X12_isFree ia1 ix130 ix155 qx156) rfl rfl ⟨rfl, rfl⟩ ⟨Nat.le_of_ble_eq_true rfl, Nat.le_of_ble_eq_true rfl⟩ ⟨Nat.zero_le _, Nat.zero_le _⟩ rfl (Nat.le_of_ble_eq_true rfl) (fun ix156 => ?_)
                                  refine g_if_eq C dX12_goesOne_590 (zI ix156) rfl (tgt := 619) (fun c157 => ?_) (fun c157 => ?_)
                                  · have h := ifT c157 h
                                    refine g_iinc (L1 := [some (rv w 170), some (iv a1), none, some (iv x130), some (iv x134), some (iv x141), some (iv (wr (x142 + 1))), some (iv x152), some (iv x154)]) C dX12_goesOne_619 rfl rfl (Nat.le_of_ble_eq_true rfl) rfl ?_
                                    refine g_goto C dX12_goesOne_622 rfl (tgt := 505) ?_
                                    refine g_mask [true, true, true, true, true, true, true, false, false] ?_
                                    obtain rfl := Option.some.inj h
                                    exact ih140 _ _ ix141 (iwr _) (lpL hk140)
                                  · have h := ifF c157 h
                                    refine g_iload C dX12_goesOne_593 rfl ?_
                                    refine g_bipush C dX12_goesOne_595 rfl ?_
                                    refine g_icmp_ge C dX12_goesOne_597 ix154 (by decide) rfl (tgt := 616) (fun c158 => ?_) (fun c158 => ?_)
                                    · have h := ifT c158 h
                                      refine g_iconst C dX12_goesOne_616 ?_
                                      refine g_istore (L1 := [some (rv w 170), some (iv a1), none, some (iv x130), some (iv x134), some (iv 1), some (iv x142), some (iv x152), some (iv x154)]) C dX12_goesOne_617 rfl (Nat.le_of_ble_eq_true rfl) rfl ?_
                                      refine g_iinc (L1 := [some (rv w 170), some (iv a1), none, some (iv x130), some (iv x134), some (iv 1), some (iv (wr (x142 + 1))), some (iv x152), some (iv x154)]) C dX12_goesOne_619 rfl rfl (Nat.le_of_ble_eq_true rfl) rfl ?_
                                      refine g_goto C dX12_goesOne_622 rfl (tgt := 505) ?_
                                      refine g_mask [true, true, true, true, true, true, true, false, false] ?_
                                      obtain rfl := Option.some.inj h
                                      exact ih140 _ _ (Or.inr rfl) (iwr _) (lpL hk140)
                                    · have h := ifF c158 h
                                      refine g_aload_n C dX12_goesOne_600 rfl ?_
                                      refine g_getR (j := 77) C dX12_goesOne_601 rfl (Nat.le_of_ble_eq_true rfl) (Nat.le_of_ble_eq_true rfl) fl_12_182 rfl rfl (r := 223) rfl ?_
                                      refine g_bipush C dX12_goesOne_604 rfl ?_
                                      refine g_iload C dX12_goesOne_606 rfl ?_
                                      refine g_imul C dX12_goesOne_608 ?_
                                      refine g_iload C dX12_goesOne_609 rfl ?_
                                      refine g_iadd C dX12_goesOne_611 ?_
                                      obtain ⟨x159, qx159, h⟩ := bnd h
                                      refine g_zald C dX12_goesOne_612 rfl rfl qx159 (iwr _) (fun ix159 => ?_)
                                      refine g_if_eq C dX12_goesOne_613 (zI ix159) rfl (tgt := 619) (fun c160 => ?_) (fun c160 => ?_)
                                      · have h := ifT c160 h
                                        refine g_iinc (L1 := [some (rv w 170), some (iv a1), none, some (iv x130), some (iv x134), some (iv x141), some (iv (wr (x142 + 1))), some (iv x152), some (iv x154)]) C dX12_goesOne_619 rfl rfl (Nat.le_of_ble_eq_true rfl) rfl ?_
                                        refine g_goto C dX12_goesOne_622 rfl (tgt := 505) ?_
                                        refine g_mask [true, true, true, true, true, true, true, false, false] ?_
                                        obtain rfl := Option.some.inj h
                                        exact ih140 _ _ ix141 (iwr _) (lpL hk140)
                                      · have h := ifF c160 h
                                        refine g_iconst C dX12_goesOne_616 ?_
                                        refine g_istore (L1 := [some (rv w 170), some (iv a1), none, some (iv x130), some (iv x134), some (iv 1), some (iv x142), some (iv x152), some (iv x154)]) C dX12_goesOne_617 rfl (Nat.le_of_ble_eq_true rfl) rfl ?_
                                        refine g_iinc (L1 := [some (rv w 170), some (iv a1), none, some (iv x130), some (iv x134), some (iv 1), some (iv (wr (x142 + 1))), some (iv x152), some (iv x154)]) C dX12_goesOne_619 rfl rfl (Nat.le_of_ble_eq_true rfl) rfl ?_
                                        refine g_goto C dX12_goesOne_622 rfl (tgt := 505) ?_
                                        refine g_mask [true, true, true, true, true, true, true, false, false] ?_
                                        obtain rfl := Option.some.inj h
                                        exact ih140 _ _ (Or.inr rfl) (iwr _) (lpL hk140)
                                refine g_icmp_eq C dX12_goesOne_528 ix146 ix134 rfl (tgt := 546) (fun c147 => ?_) (fun c147 => ?_)
                                · have h := ifT c147 h
                                  exact hJ546_161  h
                                · have h := ifF c147 h
                                  refine g_aload_n C dX12_goesOne_531 rfl ?_
                                  refine g_getR (j := 33) C dX12_goesOne_532 rfl (Nat.le_of_ble_eq_true rfl) (Nat.le_of_ble_eq_true rfl) fl_12_70 rfl rfl (r := 188) rfl ?_
                                  refine g_iload C dX12_goesOne_535 rfl ?_
                                  obtain ⟨x148, qx148, h⟩ := bnd h
                                  refine g_iald C dX12_goesOne_537 rfl rfl qx148 ix142 (fun ix148 => ?_)
                                  refine g_iload C dX12_goesOne_538 rfl ?_
                                  refine g_icmp_eq C dX12_goesOne_540 ix148 ix134 rfl (tgt := 546) (fun c149 => ?_) (fun c149 => ?_)
                                  · have h := ifT c149 h
                                    exact hJ546_161  h
                                  · have h := ifF c149 h
                                    refine g_goto C dX12_goesOne_543 rfl (tgt := 619) ?_
                                    refine g_iinc (L1 := [some (rv w 170), some (iv a1), none, some (iv x130), some (iv x134), some (iv x141), some (iv (wr (x142 + 1))), none, none]) C dX12_goesOne_619 rfl rfl (Nat.le_of_ble_eq_true rfl) rfl ?_
                                    refine g_goto C dX12_goesOne_622 rfl (tgt := 505) ?_
                                    obtain rfl := Option.some.inj h
                                    exact ih140 _ _ ix141 (iwr _) (lpL hk140)
                        exact hL140 FU _ _ (Or.inl rfl) (by decide) hb140
                      · have h := ifF c139 h
                        exact hJ495_200  h
              exact hL133 FU _ _ (by decide) hb133
        exact hL129 FU _ _ (by decide) hb129
      have hL47 : ∀ (n : Nat) (x48 : Int) (σ49 : St) , InI x48 → lpN (fun a => m_X12_goesOne_L217 a1 a.1 a.2) n (x48, σ49) = some b47 → GM w p l e rm_X12_goesOne s m args below meth c none True σ' 9 217 [some (rv w 170), some (iv a1), none, some (iv x48), none, none, none, none, none] [] σ49 := by
        intro n
        induction n with
        | zero => intro x48 σ49 ix48 q; cases q
        | succ n ih47 =>
          intro x48 σ49 ix48 q
          obtain ⟨o47, h, hk47⟩ := lp_step q
          replace h : m_X12_goesOne_L217 a1 x48 σ49 = some o47 := h
          unfold m_X12_goesOne_L217 at h
          refine g_iload_n C dX12_goesOne_217 rfl ?_
          refine g_bipush C dX12_goesOne_218 rfl ?_
          refine g_icmp_ge C dX12_goesOne_220 ix48 (by decide) rfl (tgt := 454) (fun c50 => ?_) (fun c50 => ?_)
          · have h := ifT c50 h
            refine g_mask [true, true, true, false, true, true, true, true, true] ?_
            obtain rfl := Option.some.inj h
            exact hX47 σ49 (lpR hk47).symm
          · have h := ifF c50 h
            refine g_iconst C dX12_goesOne_223 ?_
            refine g_istore (L1 := [some (rv w 170), some (iv a1), none, some (iv x48), some (iv 0), none, none, none, none]) C dX12_goesOne_224 rfl (Nat.le_of_ble_eq_true rfl) rfl ?_
            obtain ⟨b51, hb51, hF51⟩ := bnd h
            have hX51 : ∀ (σ127 : St) , σ127 = b51 → GM w p l e rm_X12_goesOne s m args below meth c none True σ' 9 448 [some (rv w 170), some (iv a1), none, some (iv x48), none, none, none, none, none] [] σ127 := by
              intro σ127 q
              subst q
              have h := hF51
              refine g_iinc (L1 := [some (rv w 170), some (iv a1), none, some (iv (wr (x48 + 1))), none, none, none, none, none]) C dX12_goesOne_448 rfl rfl (Nat.le_of_ble_eq_true rfl) rfl ?_
              refine g_goto C dX12_goesOne_451 rfl (tgt := 217) ?_
              obtain rfl := Option.some.inj h
              exact ih47 _ _ (iwr _) (lpL hk47)
            have hL51 : ∀ (n : Nat) (x52 : Int) (σ53 : St) , InI x52 → lpN (fun a => m_X12_goesOne_L226 x48 a1 a.1 a.2) n (x52, σ53) = some b51 → GM w p l e rm_X12_goesOne s m args below meth c none True σ' 9 226 [some (rv w 170), some (iv a1), none, some (iv x48), some (iv x52), none, none, none, none] [] σ53 := by
              intro n
              induction n with
              | zero => intro x52 σ53 ix52 q; cases q
              | succ n ih51 =>
                intro x52 σ53 ix52 q
                obtain ⟨o51, h, hk51⟩ := lp_step q
                replace h : m_X12_goesOne_L226 x48 a1 x52 σ53 = some o51 := h
                unfold m_X12_goesOne_L226 at h
                refine g_iload C dX12_goesOne_226 rfl ?_
                refine g_bipush C dX12_goesOne_228 rfl ?_
                refine g_icmp_ge C dX12_goesOne_230 ix52 (by decide) rfl (tgt := 448) (fun c54 => ?_) (fun c54 => ?_)
                · have h := ifT c54 h
                  refine g_mask [true, true, true, true, false, true, true, true, true] ?_
                  obtain rfl := Option.some.inj h
                  exact hX51 σ53 (lpR hk51).symm
                · have h := ifF c54 h
                  refine g_iload_n C dX12_goesOne_233 rfl ?_
                  have hJ255_126 : m_X12_goesOne_J255 σ53 x52 x48 a1 = some o51 → GM w p l e rm_X12_goesOne s m args below meth c none True σ' 9 255 [some (rv w 170), some (iv a1), none, some (iv x48), some (iv x52), none, none, none, none] [] σ53 := by
                    intro h
                    unfold m_X12_goesOne_J255 at h
                    refine g_iconst C dX12_goesOne_255 ?_
                    refine g_goto C dX12_goesOne_256 rfl (tgt := 260) ?_
                    refine g_istore (L1 := [some (rv w 170), some (iv a1), none, some (iv x48), some (iv x52), some (iv 1), none, none, none]) C dX12_goesOne_260 rfl (Nat.le_of_ble_eq_true rfl) rfl ?_
                    refine g_iconst C dX12_goesOne_262 ?_
                    refine g_istore (L1 := [some (rv w 170), some (iv a1), none, some (iv x48), some (iv x52), some (iv 1), some (iv 0), none, none]) C dX12_goesOne_263 rfl (Nat.le_of_ble_eq_true rfl) rfl ?_
                    obtain ⟨b91, hb91, hF91⟩ := bnd h
                    have hX91 : ∀ (x118 : Int) , InZ x118 → x118 = b91 → GM w p l e rm_X12_goesOne s m args below meth c none True σ' 9 405 [some (rv w 170), some (iv a1), none, some (iv x48), some (iv x52), some (iv x118), none, none, none] [] σ53 := by
                      intro x118 ix118 q
                      subst q
                      have h := hF91
                      refine g_aload_n C dX12_goesOne_405 rfl ?_
                      refine g_getR (j := 76) C dX12_goesOne_406 rfl (Nat.le_of_ble_eq_true rfl) (Nat.le_of_ble_eq_true rfl) fl_12_179 rfl rfl (r := 222) rfl ?_
                      refine g_bipush C dX12_goesOne_409 rfl ?_
                      refine g_iload_n C dX12_goesOne_411 rfl ?_
                      refine g_imul C dX12_goesOne_412 ?_
                      refine g_iload C dX12_goesOne_413 rfl ?_
                      refine g_iadd C dX12_goesOne_415 ?_
                      refine g_iload C dX12_goesOne_416 rfl ?_
                      refine g_if_eq C dX12_goesOne_418 (zI ix118) rfl (tgt := 440) (fun c120 => ?_) (fun c120 => ?_)
                      · have h := ifT c120 h
                        refine g_iconst C dX12_goesOne_440 ?_
                        obtain ⟨σ121, qσ121, h⟩ := bnd h
                        refine g_zast C dX12_goesOne_441 rfl rfl qσ121 (iwr _) (Or.inl rfl) ?_
                        refine g_iinc (L1 := [some (rv w 170), some (iv a1), none, some (iv x48), some (iv (wr (x52 + 1))), some (iv x118), none, none, none]) C dX12_goesOne_442 rfl rfl (Nat.le_of_ble_eq_true rfl) rfl ?_
                        refine g_goto C dX12_goesOne_445 rfl (tgt := 226) ?_
                        refine g_mask [true, true, true, true, true, false, true, true, true] ?_
                        obtain rfl := Option.some.inj h
                        exact ih51 _ _ (iwr _) (lpL hk51)
                      · have h := ifF c120 h
                        refine g_aload_n C dX12_goesOne_421 rfl ?_
                        refine g_getR (j := 78) C dX12_goesOne_422 rfl (Nat.le_of_ble_eq_true rfl) (Nat.le_of_ble_eq_true rfl) fl_12_185 rfl rfl (r := 224) rfl ?_
                        refine g_bipush C dX12_goesOne_425 rfl ?_
                        refine g_iload_n C dX12_goesOne_427 rfl ?_
                        refine g_imul C dX12_goesOne_428 ?_
                        refine g_iload C dX12_goesOne_429 rfl ?_
                        refine g_iadd C dX12_goesOne_431 ?_
                        obtain ⟨x122, qx122, h⟩ := bnd h
                        refine g_zald C dX12_goesOne_432 rfl rfl qx122 (iwr _) (fun ix122 => ?_)
                        refine g_if_eq C dX12_goesOne_433 (zI ix122) rfl (tgt := 440) (fun c123 => ?_) (fun c123 => ?_)
                        · have h := ifT c123 h
                          refine g_iconst C dX12_goesOne_440 ?_
                          obtain ⟨σ124, qσ124, h⟩ := bnd h
                          refine g_zast C dX12_goesOne_441 rfl rfl qσ124 (iwr _) (Or.inl rfl) ?_
                          refine g_iinc (L1 := [some (rv w 170), some (iv a1), none, some (iv x48), some (iv (wr (x52 + 1))), some (iv x118), none, none, none]) C dX12_goesOne_442 rfl rfl (Nat.le_of_ble_eq_true rfl) rfl ?_
                          refine g_goto C dX12_goesOne_445 rfl (tgt := 226) ?_
                          refine g_mask [true, true, true, true, true, false, true, true, true] ?_
                          obtain rfl := Option.some.inj h
                          exact ih51 _ _ (iwr _) (lpL hk51)
                        · have h := ifF c123 h
                          refine g_iconst C dX12_goesOne_436 ?_
                          refine g_goto C dX12_goesOne_437 rfl (tgt := 441) ?_
                          obtain ⟨σ125, qσ125, h⟩ := bnd h
                          refine g_zast C dX12_goesOne_441 rfl rfl qσ125 (iwr _) (Or.inr rfl) ?_
                          refine g_iinc (L1 := [some (rv w 170), some (iv a1), none, some (iv x48), some (iv (wr (x52 + 1))), some (iv x118), none, none, none]) C dX12_goesOne_442 rfl rfl (Nat.le_of_ble_eq_true rfl) rfl ?_
                          refine g_goto C dX12_goesOne_445 rfl (tgt := 226) ?_
                          refine g_mask [true, true, true, true, true, false, true, true, true] ?_
                          obtain rfl := Option.some.inj h
                          exact ih51 _ _ (iwr _) (lpL hk51)
                    have hL91 : ∀ (n : Nat) (x92 : Int) (x93 : Int) , InZ x92 → InI x93 → lpN (fun a => m_X12_goesOne_L265_119 σ53 x52 x48 a1 a.1 a.2) n (x92, x93) = some b91 → GM w p l e rm_X12_goesOne s m args below meth c none True σ' 9 265 [some (rv w 170), some (iv a1), none, some (iv x48), some (iv x52), some (iv x92), some (iv x93), none, none] [] σ53 := by
                      intro n
                      induction n with
                      | zero => intro x92 x93 ix92 ix93 q; cases q
                      | succ n ih91 =>
                        intro x92 x93 ix92 ix93 q
                        obtain ⟨o91, h, hk91⟩ := lp_step q
                        replace h : m_X12_goesOne_L265_119 σ53 x52 x48 a1 x92 x93 = some o91 := h
                        unfold m_X12_goesOne_L265_119 at h
                        refine g_iload C dX12_goesOne_265 rfl ?_
                        refine g_aload_n C dX12_goesOne_267 rfl ?_
                        refine g_getI (j := 30) C dX12_goesOne_268 rfl (Nat.le_of_ble_eq_true rfl) (Nat.le_of_ble_eq_true rfl) fl_12_330 rfl rfl (fun i94 => ?_)
                        refine g_icmp_ge C dX12_goesOne_271 ix93 i94 rfl (tgt := 405) (fun c95 => ?_) (fun c95 => ?_)
                        · have h := ifT c95 h
                          refine g_mask [true, true, true, true, true, true, false, true, true] ?_
                          obtain rfl := Option.some.inj h
                          exact hX91 x92 ix92 (lpR hk91).symm
                        · have h := ifF c95 h
                          refine g_iload C dX12_goesOne_274 rfl ?_
                          refine g_if_ne C dX12_goesOne_276 (zI ix92) rfl (tgt := 405) (fun c96 => ?_) (fun c96 => ?_)
                          · have h := ifF c96 h
                            refine g_mask [true, true, true, true, true, true, false, true, true] ?_
                            obtain rfl := Option.some.inj h
                            exact hX91 x92 ix92 (lpR hk91).symm
                          · have h := ifT c96 h
                            refine g_aload_n C dX12_goesOne_279 rfl ?_
                            refine g_getR (j := 39) C dX12_goesOne_280 rfl (Nat.le_of_ble_eq_true rfl) (Nat.le_of_ble_eq_true rfl) fl_12_85 rfl rfl (r := 193) rfl ?_
                            refine g_bipush C dX12_goesOne_283 rfl ?_
                            refine g_iload C dX12_goesOne_285 rfl ?_
                            refine g_imul C dX12_goesOne_287 ?_
                            refine g_iload C dX12_goesOne_288 rfl ?_
                            refine g_iadd C dX12_goesOne_290 ?_
                            obtain ⟨x97, qx97, h⟩ := bnd h
                            refine g_iald C dX12_goesOne_291 rfl rfl qx97 (iwr _) (fun ix97 => ?_)
                            refine g_istore (L1 := [some (rv w 170), some (iv a1), none, some (iv x48), some (iv x52), some (iv x92), some (iv x93), some (iv x97), none]) C dX12_goesOne_292 rfl (Nat.le_of_ble_eq_true rfl) rfl ?_
                            refine g_iconst C dX12_goesOne_294 ?_
                            refine g_istore (L1 := [some (rv w 170), some (iv a1), none, some (iv x48), some (iv x52), some (iv x92), some (iv x93), some (iv x97), some (iv 0)]) C dX12_goesOne_295 rfl (Nat.le_of_ble_eq_true rfl) rfl ?_
                            obtain ⟨b98, hb98, hF98⟩ := bnd h
                            have hX98 : ∀ (x116 : Int) , InZ x116 → x116 = b98 → GM w p l e rm_X12_goesOne s m args below meth c none True σ' 9 399 [some (rv w 170), some (iv a1), none, some (iv x48), some (iv x52), some (iv x116), some (iv x93), none, none] [] σ53 := by
                              intro x116 ix116 q
                              subst q
                              have h := hF98
                              refine g_iinc (L1 := [some (rv w 170), some (iv a1), none, some (iv x48), some (iv x52), some (iv x116), some (iv (wr (x93 + 1))), none, none]) C dX12_goesOne_399 rfl rfl (Nat.le_of_ble_eq_true rfl) rfl ?_
                              refine g_goto C dX12_goesOne_402 rfl (tgt := 265) ?_
                              obtain rfl := Option.some.inj h
                              exact ih91 _ _ ix116 (iwr _) (lpL hk91)
                            have hL98 : ∀ (n : Nat) (x99 : Int) (x100 : Int) , InZ x99 → InI x100 → lpN (fun a => m_X12_goesOne_L297_117 σ53 x97 x52 x93 x48 a1 a.1 a.2) n (x99, x100) = some b98 → GM w p l e rm_X12_goesOne s m args below meth c none True σ' 9 297 [some (rv w 170), some (iv a1), none, some (iv x48), some (iv x52), some (iv x99), some (iv x93), some (iv x97), some (iv x100)] [] σ53 := by
                              intro n
                              induction n with
                              | zero => intro x99 x100 ix99 ix100 q; cases q
                              | succ n ih98 =>
                                intro x99 x100 ix99 ix100 q
                                obtain ⟨o98, h, hk98⟩ := lp_step q
                                replace h : m_X12_goesOne_L297_117 σ53 x97 x52 x93 x48 a1 x99 x100 = some o98 := h
                                unfold m_X12_goesOne_L297_117 at h
                                refine g_iload C dX12_goesOne_297 rfl ?_
                                refine g_aload_n C dX12_goesOne_299 rfl ?_
                                refine g_getI (j := 31) C dX12_goesOne_300 rfl (Nat.le_of_ble_eq_true rfl) (Nat.le_of_ble_eq_true rfl) fl_12_336 rfl rfl (fun i101 => ?_)
                                refine g_icmp_ge C dX12_goesOne_303 ix100 i101 rfl (tgt := 399) (fun c102 => ?_) (fun c102 => ?_)
                                · have h := ifT c102 h
                                  refine g_mask [true, true, true, true, true, true, true, false, false] ?_
                                  obtain rfl := Option.some.inj h
                                  exact hX98 x99 ix99 (lpR hk98).symm
                                · have h := ifF c102 h
                                  refine g_iload C dX12_goesOne_306 rfl ?_
                                  refine g_sipush C dX12_goesOne_308 rfl ?_
                                  refine g_icmp_ge C dX12_goesOne_311 ix97 (by decide) rfl (tgt := 399) (fun c103 => ?_) (fun c103 => ?_)
                                  · have h := ifT c103 h
                                    refine g_mask [true, true, true, true, true, true, true, false, false] ?_
                                    obtain rfl := Option.some.inj h
                                    exact hX98 x99 ix99 (lpR hk98).symm
                                  · have h := ifF c103 h
                                    refine g_iload C dX12_goesOne_314 rfl ?_
                                    refine g_if_ne C dX12_goesOne_316 (zI ix99) rfl (tgt := 399) (fun c104 => ?_) (fun c104 => ?_)
                                    · have h := ifF c104 h
                                      refine g_mask [true, true, true, true, true, true, true, false, false] ?_
                                      obtain rfl := Option.some.inj h
                                      exact hX98 x99 ix99 (lpR hk98).symm
                                    · have h := ifT c104 h
                                      refine g_aload_n C dX12_goesOne_319 rfl ?_
                                      refine g_iload C dX12_goesOne_320 rfl ?_
                                      refine g_iload C dX12_goesOne_322 rfl ?_
                                      refine g_iload C dX12_goesOne_324 rfl ?_
                                      obtain ⟨x105, qx105, h⟩ := bnd h
                                      refine g_callV1 (As := [iv x100, iv x52, iv x93]) C dX12_goesOne_326 mi_X12_isBetween ml_12_437 (ct_X12_isBetween ix100 ix52 ix93 qx105) rfl rfl ⟨rfl, rfl⟩ ⟨Nat.le_of_ble_eq_true rfl, Nat.le_of_ble_eq_true rfl⟩ ⟨Nat.zero_le _, Nat.zero_le _⟩ rfl (Nat.le_of_ble_eq_true rfl) (fun ix105 => ?_)
                                      refine g_if_eq C dX12_goesOne_329 (zI ix105) rfl (tgt := 393) (fun c106 => ?_) (fun c106 => ?_)
                                      · have h := ifT c106 h
                                        refine g_iinc (L1 := [some (rv w 170), some (iv a1), none, some (iv x48), some (iv x52), some (iv x99), some (iv x93), some (iv x97), some (iv (wr (x100 + 1)))]) C dX12_goesOne_393 rfl rfl (Nat.le_of_ble_eq_true rfl) rfl ?_
                                        refine g_goto C dX12_goesOne_396 rfl (tgt := 297) ?_
                                        obtain rfl := Option.some.inj h
                                        exact ih98 _ _ ix99 (iwr _) (lpL hk98)
                                      · have h := ifF c106 h
                                        refine g_iload_n C dX12_goesOne_332 rfl ?_
                                        refine g_aload_n C dX12_goesOne_333 rfl ?_
                                        refine g_getR (j := 34) C dX12_goesOne_334 rfl (Nat.le_of_ble_eq_true rfl) (Nat.le_of_ble_eq_true rfl) fl_12_73 rfl rfl (r := 189) rfl ?_
                                        refine g_iload C dX12_goesOne_337 rfl ?_
                                        obtain ⟨x107, qx107, h⟩ := bnd h
                                        refine g_iald C dX12_goesOne_339 rfl rfl qx107 ix100 (fun ix107 => ?_)
                                        refine g_icmp_lt C dX12_goesOne_340 ix48 ix107 rfl (tgt := 393) (fun c108 => ?_) (fun c108 => ?_)
                                        · have h := ifT c108 h
                                          refine g_iinc (L1 := [some (rv w 170), some (iv a1), none, some (iv x48), some (iv x52), some (iv x99), some (iv x93), some (iv x97), some (iv (wr (x100 + 1)))]) C dX12_goesOne_393 rfl rfl (Nat.le_of_ble_eq_true rfl) rfl ?_
                                          refine g_goto C dX12_goesOne_396 rfl (tgt := 297) ?_
                                          obtain rfl := Option.some.inj h
                                          exact ih98 _ _ ix99 (iwr _) (lpL hk98)
                                        · have h := ifF c108 h
                                          refine g_aload_n C dX12_goesOne_343 rfl ?_
                                          refine g_getR (j := 76) C dX12_goesOne_344 rfl (Nat.le_of_ble_eq_true rfl) (Nat.le_of_ble_eq_true rfl) fl_12_179 rfl rfl (r := 222) rfl ?_
                                          refine g_bipush C dX12_goesOne_347 rfl ?_
                                          refine g_iload_n C dX12_goesOne_349 rfl ?_
                                          refine g_aload_n C dX12_goesOne_350 rfl ?_
                                          refine g_getR (j := 34) C dX12_goesOne_351 rfl (Nat.le_of_ble_eq_true rfl) (Nat.le_of_ble_eq_true rfl) fl_12_73 rfl rfl (r := 189) rfl ?_
                                          refine g_iload C dX12_goesOne_354 rfl ?_
                                          obtain ⟨x109, qx109, h⟩ := bnd h
                                          refine g_iald C dX12_goesOne_356 rfl rfl qx109 ix100 (fun ix109 => ?_)
                                          refine g_isub C dX12_goesOne_357 ?_
                                          refine g_imul C dX12_goesOne_358 ?_
                                          refine g_iload C dX12_goesOne_359 rfl ?_
                                          refine g_iadd C dX12_goesOne_361 ?_
                                          obtain ⟨x110, qx110, h⟩ := bnd h
                                          refine g_zald C dX12_goesOne_362 rfl rfl qx110 (iwr _) (fun ix110 => ?_)
                                          refine g_if_eq C dX12_goesOne_363 (zI ix110) rfl (tgt := 393) (fun c111 => ?_) (fun c111 => ?_)
                                          · have h := ifT c111 h
                                            refine g_iinc (L1 := [some (rv w 170), some (iv a1), none, some (iv x48), some (iv x52), some (iv x99), some (iv x93), some (iv x97), some (iv (wr (x100 + 1)))]) C dX12_goesOne_393 rfl rfl (Nat.le_of_ble_eq_true rfl) rfl ?_
                                            refine g_goto C dX12_goesOne_396 rfl (tgt := 297) ?_
                                            obtain rfl := Option.some.inj h
                                            exact ih98 _ _ ix99 (iwr _) (lpL hk98)
                                          · have h := ifF c111 h
                                            refine g_aload_n C dX12_goesOne_366 rfl ?_
                                            refine g_iload_n C dX12_goesOne_367 rfl ?_
                                            refine g_iload_n C dX12_goesOne_368 rfl ?_
                                            refine g_aload_n C dX12_goesOne_369 rfl ?_
                                            refine g_getR (j := 34) C dX12_goesOne_370 rfl (Nat.le_of_ble_eq_true rfl) (Nat.le_of_ble_eq_true rfl) fl_12_73 rfl rfl (r := 189) rfl ?_
                                            refine g_iload C dX12_goesOne_373 rfl ?_
                                            obtain ⟨x112, qx112, h⟩ := bnd h
                                            refine g_iald C dX12_goesOne_375 rfl rfl qx112 ix100 (fun ix112 => ?_)
                                            refine g_isub C dX12_goesOne_376 ?_
                                            refine g_aload_n C dX12_goesOne_377 rfl ?_
                                            refine g_getR (j := 34) C dX12_goesOne_378 rfl (Nat.le_of_ble_eq_true rfl) (Nat.le_of_ble_eq_true rfl) fl_12_73 rfl rfl (r := 189) rfl ?_
                                            refine g_iload C dX12_goesOne_381 rfl ?_
                                            obtain ⟨x113, qx113, h⟩ := bnd h
                                            refine g_iald C dX12_goesOne_383 rfl rfl qx113 ix100 (fun ix113 => ?_)
                                            obtain ⟨x114, qx114, h⟩ := bnd h
                                            refine g_callV1 (As := [iv a1, iv (wr (x48 - x112)), iv x113]) C dX12_goesOne_384 mi_X12_isFree ml_12_440 (ct_X12_isFree ia1 (iwr _) ix113 qx114) rfl rfl ⟨rfl, rfl⟩ ⟨Nat.le_of_ble_eq_true rfl, Nat.le_of_ble_eq_true rfl⟩ ⟨Nat.zero_le _, Nat.zero_le _⟩ rfl (Nat.le_of_ble_eq_true rfl) (fun ix114 => ?_)
                                            refine g_if_eq C dX12_goesOne_387 (zI ix114) rfl (tgt := 393) (fun c115 => ?_) (fun c115 => ?_)
                                            · have h := ifT c115 h
                                              refine g_iinc (L1 := [some (rv w 170), some (iv a1), none, some (iv x48), some (iv x52), some (iv x99), some (iv x93), some (iv x97), some (iv (wr (x100 + 1)))]) C dX12_goesOne_393 rfl rfl (Nat.le_of_ble_eq_true rfl) rfl ?_
                                              refine g_goto C dX12_goesOne_396 rfl (tgt := 297) ?_
                                              obtain rfl := Option.some.inj h
                                              exact ih98 _ _ ix99 (iwr _) (lpL hk98)
                                            · have h := ifF c115 h
                                              refine g_iconst C dX12_goesOne_390 ?_
                                              refine g_istore (L1 := [some (rv w 170), some (iv a1), none, some (iv x48), some (iv x52), some (iv 1), some (iv x93), some (iv x97), some (iv x100)]) C dX12_goesOne_391 rfl (Nat.le_of_ble_eq_true rfl) rfl ?_
                                              refine g_iinc (L1 := [some (rv w 170), some (iv a1), none, some (iv x48), some (iv x52), some (iv 1), some (iv x93), some (iv x97), some (iv (wr (x100 + 1)))]) C dX12_goesOne_393 rfl rfl (Nat.le_of_ble_eq_true rfl) rfl ?_
                                              refine g_goto C dX12_goesOne_396 rfl (tgt := 297) ?_
                                              obtain rfl := Option.some.inj h
                                              exact ih98 _ _ (Or.inr rfl) (iwr _) (lpL hk98)
                            exact hL98 FU _ _ ix92 (by decide) hb98
                    exact hL91 FU _ _ (Or.inr rfl) (by decide) hb91
                  refine g_if_eq C dX12_goesOne_234 ix48 rfl (tgt := 255) (fun c55 => ?_) (fun c55 => ?_)
                  · have h := ifT c55 h
                    exact hJ255_126  h
                  · have h := ifF c55 h
                    refine g_aload_n C dX12_goesOne_237 rfl ?_
                    refine g_getR (j := 76) C dX12_goesOne_238 rfl (Nat.le_of_ble_eq_true rfl) (Nat.le_of_ble_eq_true rfl) fl_12_179 rfl rfl (r := 222) rfl ?_
                    refine g_bipush C dX12_goesOne_241 rfl ?_
                    refine g_iload_n C dX12_goesOne_243 rfl ?_
                    refine g_imul C dX12_goesOne_244 ?_
                    refine g_bipush C dX12_goesOne_245 rfl ?_
                    refine g_isub C dX12_goesOne_247 ?_
                    refine g_iload C dX12_goesOne_248 rfl ?_
                    refine g_iadd C dX12_goesOne_250 ?_
                    obtain ⟨x56, qx56, h⟩ := bnd h
                    refine g_zald C dX12_goesOne_251 rfl rfl qx56 (iwr _) (fun ix56 => ?_)
                    refine g_if_eq C dX12_goesOne_252 (zI ix56) rfl (tgt := 259) (fun c57 => ?_) (fun c57 => ?_)
                    · have h := ifT c57 h
                      refine g_iconst C dX12_goesOne_259 ?_
                      refine g_istore (L1 := [some (rv w 170), some (iv a1), none, some (iv x48), some (iv x52), some (iv 0), none, none, none]) C dX12_goesOne_260 rfl (Nat.le_of_ble_eq_true rfl) rfl ?_
                      refine g_iconst C dX12_goesOne_262 ?_
                      refine g_istore (L1 := [some (rv w 170), some (iv a1), none, some (iv x48), some (iv x52), some (iv 0), some (iv 0), none, none]) C dX12_goesOne_263 rfl (Nat.le_of_ble_eq_true rfl) rfl ?_
                      obtain ⟨b58, hb58, hF58⟩ := bnd h
                      have hX58 : ∀ (x84 : Int) , InZ x84 → x84 = b58 → GM w p l e rm_X12_goesOne s m args below meth c none True σ' 9 405 [some (rv w 170), some (iv a1), none, some (iv x48), some (iv x52), some (iv x84), none, none, none] [] σ53 := by
                        intro x84 ix84 q
                        subst q
                        have h := hF58
                        refine g_aload_n C dX12_goesOne_405 rfl ?_
                        refine g_getR (j := 76) C dX12_goesOne_406 rfl (Nat.le_of_ble_eq_true rfl) (Nat.le_of_ble_eq_true rfl) fl_12_179 rfl rfl (r := 222) rfl ?_
                        refine g_bipush C dX12_goesOne_409 rfl ?_
                        refine g_iload_n C dX12_goesOne_411 rfl ?_
                        refine g_imul C dX12_goesOne_412 ?_
                        refine g_iload C dX12_goesOne_413 rfl ?_
                        refine g_iadd C dX12_goesOne_415 ?_
                        refine g_iload C dX12_goesOne_416 rfl ?_
                        refine g_if_eq C dX12_goesOne_418 (zI ix84) rfl (tgt := 440) (fun c85 => ?_) (fun c85 => ?_)
                        · have h := ifT c85 h
                          refine g_iconst C dX12_goesOne_440 ?_
                          obtain ⟨σ86, qσ86, h⟩ := bnd h
                          refine g_zast C dX12_goesOne_441 rfl rfl qσ86 (iwr _) (Or.inl rfl) ?_
                          refine g_iinc (L1 := [some (rv w 170), some (iv a1), none, some (iv x48), some (iv (wr (x52 + 1))), some (iv x84), none, none, none]) C dX12_goesOne_442 rfl rfl (Nat.le_of_ble_eq_true rfl) rfl ?_
                          refine g_goto C dX12_goesOne_445 rfl (tgt := 226) ?_
                          refine g_mask [true, true, true, true, true, false, true, true, true] ?_
                          obtain rfl := Option.some.inj h
                          exact ih51 _ _ (iwr _) (lpL hk51)
                        · have h := ifF c85 h
                          refine g_aload_n C dX12_goesOne_421 rfl ?_
                          refine g_getR (j := 78) C dX12_goesOne_422 rfl (Nat.le_of_ble_eq_true rfl) (Nat.le_of_ble_eq_true rfl) fl_12_185 rfl rfl (r := 224) rfl ?_
                          refine g_bipush C dX12_goesOne_425 rfl ?_
                          refine g_iload_n C dX12_goesOne_427 rfl ?_
                          refine g_imul C dX12_goesOne_428 ?_
                          refine g_iload C dX12_goesOne_429 rfl ?_
                          refine g_iadd C dX12_goesOne_431 ?_
                          obtain ⟨x87, qx87, h⟩ := bnd h
                          refine g_zald C dX12_goesOne_432 rfl rfl qx87 (iwr _) (fun ix87 => ?_)
                          refine g_if_eq C dX12_goesOne_433 (zI ix87) rfl (tgt := 440) (fun c88 => ?_) (fun c88 => ?_)
                          · have h := ifT c88 h
                            refine g_iconst C dX12_goesOne_440 ?_
                            obtain ⟨σ89, qσ89, h⟩ := bnd h
                            refine g_zast C dX12_goesOne_441 rfl rfl qσ89 (iwr _) (Or.inl rfl) ?_
                            refine g_iinc (L1 := [some (rv w 170), some (iv a1), none, some (iv x48), some (iv (wr (x52 + 1))), some (iv x84), none, none, none]) C dX12_goesOne_442 rfl rfl (Nat.le_of_ble_eq_true rfl) rfl ?_
                            refine g_goto C dX12_goesOne_445 rfl (tgt := 226) ?_
                            refine g_mask [true, true, true, true, true, false, true, true, true] ?_
                            obtain rfl := Option.some.inj h
                            exact ih51 _ _ (iwr _) (lpL hk51)
                          · have h := ifF c88 h
                            refine g_iconst C dX12_goesOne_436 ?_
                            refine g_goto C dX12_goesOne_437 rfl (tgt := 441) ?_
                            obtain ⟨σ90, qσ90, h⟩ := bnd h
                            refine g_zast C dX12_goesOne_441 rfl rfl qσ90 (iwr _) (Or.inr rfl) ?_
                            refine g_iinc (L1 := [some (rv w 170), some (iv a1), none, some (iv x48), some (iv (wr (x52 + 1))), some (iv x84), none, none, none]) C dX12_goesOne_442 rfl rfl (Nat.le_of_ble_eq_true rfl) rfl ?_
                            refine g_goto C dX12_goesOne_445 rfl (tgt := 226) ?_
                            refine g_mask [true, true, true, true, true, false, true, true, true] ?_
                            obtain rfl := Option.some.inj h
                            exact ih51 _ _ (iwr _) (lpL hk51)
                      have hL58 : ∀ (n : Nat) (x59 : Int) (x60 : Int) , InZ x59 → InI x60 → lpN (fun a => m_X12_goesOne_L265 σ53 x52 x48 a1 a.1 a.2) n (x59, x60) = some b58 → GM w p l e rm_X12_goesOne s m args below meth c none True σ' 9 265 [some (rv w 170), some (iv a1), none, some (iv x48), some (iv x52), some (iv x59), some (iv x60), none, none] [] σ53 := by
                        intro n
                        induction n with
                        | zero => intro x59 x60 ix59 ix60 q; cases q
                        | succ n ih58 =>
                          intro x59 x60 ix59 ix60 q
                          obtain ⟨o58, h, hk58⟩ := lp_step q
                          replace h : m_X12_goesOne_L265 σ53 x52 x48 a1 x59 x60 = some o58 := h
                          unfold m_X12_goesOne_L265 at h
                          refine g_iload C dX12_goesOne_265 rfl ?_
                          refine g_aload_n C dX12_goesOne_267 rfl ?_
                          refine g_getI (j := 30) C dX12_goesOne_268 rfl (Nat.le_of_ble_eq_true rfl) (Nat.le_of_ble_eq_true rfl) fl_12_330 rfl rfl (fun i61 => ?_)
                          refine g_icmp_ge C dX12_goesOne_271 ix60 i61 rfl (tgt := 405) (fun c62 => ?_) (fun c62 => ?_)
                          · have h := ifT c62 h
                            refine g_mask [true, true, true, true, true, true, false, true, true] ?_
                            obtain rfl := Option.some.inj h
                            exact hX58 x59 ix59 (lpR hk58).symm
                          · have h := ifF c62 h
                            refine g_iload C dX12_goesOne_274 rfl ?_
                            refine g_if_ne C dX12_goesOne_276 (zI ix59) rfl (tgt := 405) (fun c63 => ?_) (fun c63 => ?_)
                            · have h := ifF c63 h
                              refine g_mask [true, true, true, true, true, true, false, true, true] ?_
                              obtain rfl := Option.some.inj h
                              exact hX58 x59 ix59 (lpR hk58).symm
                            · have h := ifT c63 h
                              refine g_aload_n C dX12_goesOne_279 rfl ?_
                              refine g_getR (j := 39) C dX12_goesOne_280 rfl (Nat.le_of_ble_eq_true rfl) (Nat.le_of_ble_eq_true rfl) fl_12_85 rfl rfl (r := 193) rfl ?_
                              refine g_bipush C dX12_goesOne_283 rfl ?_
                              refine g_iload C dX12_goesOne_285 rfl ?_
                              refine g_imul C dX12_goesOne_287 ?_
                              refine g_iload C dX12_goesOne_288 rfl ?_
                              refine g_iadd C dX12_goesOne_290 ?_
                              obtain ⟨x64, qx64, h⟩ := bnd h
                              refine g_iald C dX12_goesOne_291 rfl rfl qx64 (iwr _) (fun ix64 => ?_)
                              refine g_istore (L1 := [some (rv w 170), some (iv a1), none, some (iv x48), some (iv x52), some (iv x59), some (iv x60), some (iv x64), none]) C dX12_goesOne_292 rfl (Nat.le_of_ble_eq_true rfl) rfl ?_
                              refine g_iconst C dX12_goesOne_294 ?_
                              refine g_istore (L1 := [some (rv w 170), some (iv a1), none, some (iv x48), some (iv x52), some (iv x59), some (iv x60), some (iv x64), some (iv 0)]) C dX12_goesOne_295 rfl (Nat.le_of_ble_eq_true rfl) rfl ?_
                              obtain ⟨b65, hb65, hF65⟩ := bnd h
                              have hX65 : ∀ (x83 : Int) , InZ x83 → x83 = b65 → GM w p l e rm_X12_goesOne s m args below meth c none True σ' 9 399 [some (rv w 170), some (iv a1), none, some (iv x48), some (iv x52), some (iv x83), some (iv x60), none, none] [] σ53 := by
                                intro x83 ix83 q
                                subst q
                                have h := hF65
                                refine g_iinc (L1 := [some (rv w 170), some (iv a1), none, some (iv x48), some (iv x52), some (iv x83), some (iv (wr (x60 + 1))), none, none]) C dX12_goesOne_399 rfl rfl (Nat.le_of_ble_eq_true rfl) rfl ?_
                                refine g_goto C dX12_goesOne_402 rfl (tgt := 265) ?_
                                obtain rfl := Option.some.inj h
                                exact ih58 _ _ ix83 (iwr _) (lpL hk58)
                              have hL65 : ∀ (n : Nat) (x66 : Int) (x67 : Int) , InZ x66 → InI x67 → lpN (fun a => m_X12_goesOne_L297 σ53 x64 x52 x60 x48 a1 a.1 a.2) n (x66, x67) = some b65 → GM w p l e rm_X12_goesOne s m args below meth c none True σ' 9 297 [some (rv w 170), some (iv a1), none, some (iv x48), some (iv x52), some (iv x66), some (iv x60), some (iv x64), some (iv x67)] [] σ53 := by
                                intro n
                                induction n with
                                | zero => intro x66 x67 ix66 ix67 q; cases q
                                | succ n ih65 =>
                                  intro x66 x67 ix66 ix67 q
                                  obtain ⟨o65, h, hk65⟩ := lp_step q
                                  replace h : m_X12_goesOne_L297 σ53 x64 x52 x60 x48 a1 x66 x67 = some o65 := h
                                  unfold m_X12_goesOne_L297 at h
                                  refine g_iload C dX12_goesOne_297 rfl ?_
                                  refine g_aload_n C dX12_goesOne_299 rfl ?_
                                  refine g_getI (j := 31) C dX12_goesOne_300 rfl (Nat.le_of_ble_eq_true rfl) (Nat.le_of_ble_eq_true rfl) fl_12_336 rfl rfl (fun i68 => ?_)
                                  refine g_icmp_ge C dX12_goesOne_303 ix67 i68 rfl (tgt := 399) (fun c69 => ?_) (fun c69 => ?_)
                                  · have h := ifT c69 h
                                    refine g_mask [true, true, true, true, true, true, true, false, false] ?_
                                    obtain rfl := Option.some.inj h
                                    exact hX65 x66 ix66 (lpR hk65).symm
                                  · have h := ifF c69 h
                                    refine g_iload C dX12_goesOne_306 rfl ?_
                                    refine g_sipush C dX12_goesOne_308 rfl ?_
                                    refine g_icmp_ge C dX12_goesOne_311 ix64 (by decide) rfl (tgt := 399) (fun c70 => ?_) (fun c70 => ?_)
                                    · have h := ifT c70 h
                                      refine g_mask [true, true, true, true, true, true, true, false, false] ?_
                                      obtain rfl := Option.some.inj h
                                      exact hX65 x66 ix66 (lpR hk65).symm
                                    · have h := ifF c70 h
                                      refine g_iload C dX12_goesOne_314 rfl ?_
                                      refine g_if_ne C dX12_goesOne_316 (zI ix66) rfl (tgt := 399) (fun c71 => ?_) (fun c71 => ?_)
                                      · have h := ifF c71 h
                                        refine g_mask [true, true, true, true, true, true, true, false, false] ?_
                                        obtain rfl := Option.some.inj h
                                        exact hX65 x66 ix66 (lpR hk65).symm
                                      · have h := ifT c71 h
                                        refine g_aload_n C dX12_goesOne_319 rfl ?_
                                        refine g_iload C dX12_goesOne_320 rfl ?_
                                        refine g_iload C dX12_goesOne_322 rfl ?_
                                        refine g_iload C dX12_goesOne_324 rfl ?_
                                        obtain ⟨x72, qx72, h⟩ := bnd h
                                        refine g_callV1 (As := [iv x67, iv x52, iv x60]) C dX12_goesOne_326 mi_X12_isBetween ml_12_437 (ct_X12_isBetween ix67 ix52 ix60 qx72) rfl rfl ⟨rfl, rfl⟩ ⟨Nat.le_of_ble_eq_true rfl, Nat.le_of_ble_eq_true rfl⟩ ⟨Nat.zero_le _, Nat.zero_le _⟩ rfl (Nat.le_of_ble_eq_true rfl) (fun ix72 => ?_)
                                        refine g_if_eq C dX12_goesOne_329 (zI ix72) rfl (tgt := 393) (fun c73 => ?_) (fun c73 => ?_)
                                        · have h := ifT c73 h
                                          refine g_iinc (L1 := [some (rv w 170), some (iv a1), none, some (iv x48), some (iv x52), some (iv x66), some (iv x60), some (iv x64), some (iv (wr (x67 + 1)))]) C dX12_goesOne_393 rfl rfl (Nat.le_of_ble_eq_true rfl) rfl ?_
                                          refine g_goto C dX12_goesOne_396 rfl (tgt := 297) ?_
                                          obtain rfl := Option.some.inj h
                                          exact ih65 _ _ ix66 (iwr _) (lpL hk65)
                                        · have h := ifF c73 h
                                          refine g_iload_n C dX12_goesOne_332 rfl ?_
                                          refine g_aload_n C dX12_goesOne_333 rfl ?_
                                          refine g_getR (j := 34) C dX12_goesOne_334 rfl (Nat.le_of_ble_eq_true rfl) (Nat.le_of_ble_eq_true rfl) fl_12_73 rfl rfl (r := 189) rfl ?_
                                          refine g_iload C dX12_goesOne_337 rfl ?_
                                          obtain ⟨x74, qx74, h⟩ := bnd h
                                          refine g_iald C dX12_goesOne_339 rfl rfl qx74 ix67 (fun ix74 => ?_)
                                          refine g_icmp_lt C dX12_goesOne_340 ix48 ix74 rfl (tgt := 393) (fun c75 => ?_) (fun c75 => ?_)
                                          · have h := ifT c75 h
                                            refine g_iinc (L1 := [some (rv w 170), some (iv a1), none, some (iv x48), some (iv x52), some (iv x66), some (iv x60), some (iv x64), some (iv (wr (x67 + 1)))]) C dX12_goesOne_393 rfl rfl (Nat.le_of_ble_eq_true rfl) rfl ?_
                                            refine g_goto C dX12_goesOne_396 rfl (tgt := 297) ?_
                                            obtain rfl := Option.some.inj h
                                            exact ih65 _ _ ix66 (iwr _) (lpL hk65)
                                          · have h := ifF c75 h
                                            refine g_aload_n C dX12_goesOne_343 rfl ?_
                                            refine g_getR (j := 76) C dX12_goesOne_344 rfl (Nat.le_of_ble_eq_true rfl) (Nat.le_of_ble_eq_true rfl) fl_12_179 rfl rfl (r := 222) rfl ?_
                                            refine g_bipush C dX12_goesOne_347 rfl ?_
                                            refine g_iload_n C dX12_goesOne_349 rfl ?_
                                            refine g_aload_n C dX12_goesOne_350 rfl ?_
                                            refine g_getR (j := 34) C dX12_goesOne_351 rfl (Nat.le_of_ble_eq_true rfl) (Nat.le_of_ble_eq_true rfl) fl_12_73 rfl rfl (r := 189) rfl ?_
                                            refine g_iload C dX12_goesOne_354 rfl ?_
                                            obtain ⟨x76, qx76, h⟩ := bnd h
                                            refine g_iald C dX12_goesOne_356 rfl rfl qx76 ix67 (fun ix76 => ?_)
                                            refine g_isub C dX12_goesOne_357 ?_
                                            refine g_imul C dX12_goesOne_358 ?_
                                            refine g_iload C dX12_goesOne_359 rfl ?_
                                            refine g_iadd C dX12_goesOne_361 ?_
                                            obtain ⟨x77, qx77, h⟩ := bnd h
                                            refine g_zald C dX12_goesOne_362 rfl rfl qx77 (iwr _) (fun ix77 => ?_)
                                            refine g_if_eq C dX12_goesOne_363 (zI ix77) rfl (tgt := 393) (fun c78 => ?_) (fun c78 => ?_)
                                            · have h := ifT c78 h
                                              refine g_iinc (L1 := [some (rv w 170), some (iv a1), none, some (iv x48), some (iv x52), some (iv x66), some (iv x60), some (iv x64), some (iv (wr (x67 + 1)))]) C dX12_goesOne_393 rfl rfl (Nat.le_of_ble_eq_true rfl) rfl ?_
                                              refine g_goto C dX12_goesOne_396 rfl (tgt := 297) ?_
                                              obtain rfl := Option.some.inj h
                                              exact ih65 _ _ ix66 (iwr _) (lpL hk65)
                                            · have h := ifF c78 h
                                              refine g_aload_n C dX12_goesOne_366 rfl ?_
                                              refine g_iload_n C dX12_goesOne_367 rfl ?_
                                              refine g_iload_n C dX12_goesOne_368 rfl ?_
                                              refine g_aload_n C dX12_goesOne_369 rfl ?_
                                              refine g_getR (j := 34) C dX12_goesOne_370 rfl (Nat.le_of_ble_eq_true rfl) (Nat.le_of_ble_eq_true rfl) fl_12_73 rfl rfl (r := 189) rfl ?_
                                              refine g_iload C dX12_goesOne_373 rfl ?_
                                              obtain ⟨x79, qx79, h⟩ := bnd h
                                              refine g_iald C dX12_goesOne_375 rfl rfl qx79 ix67 (fun ix79 => ?_)
                                              refine g_isub C dX12_goesOne_376 ?_
                                              refine g_aload_n C dX12_goesOne_377 rfl ?_
                                              refine g_getR (j := 34) C dX12_goesOne_378 rfl (Nat.le_of_ble_eq_true rfl) (Nat.le_of_ble_eq_true rfl) fl_12_73 rfl rfl (r := 189) rfl ?_
                                              refine g_iload C dX12_goesOne_381 rfl ?_
                                              obtain ⟨x80, qx80, h⟩ := bnd h
                                              refine g_iald C dX12_goesOne_383 rfl rfl qx80 ix67 (fun ix80 => ?_)
                                              obtain ⟨x81, qx81, h⟩ := bnd h
                                              refine g_callV1 (As := [iv a1, iv (wr (x48 - x79)), iv x80]) C dX12_goesOne_384 mi_X12_isFree ml_12_440 (ct_X12_isFree ia1 (iwr _) ix80 qx81) rfl rfl ⟨rfl, rfl⟩ ⟨Nat.le_of_ble_eq_true rfl, Nat.le_of_ble_eq_true rfl⟩ ⟨Nat.zero_le _, Nat.zero_le _⟩ rfl (Nat.le_of_ble_eq_true rfl) (fun ix81 => ?_)
                                              refine g_if_eq C dX12_goesOne_387 (zI ix81) rfl (tgt := 393) (fun c82 => ?_) (fun c82 => ?_)
                                              · have h := ifT c82 h
                                                refine g_iinc (L1 := [some (rv w 170), some (iv a1), none, some (iv x48), some (iv x52), some (iv x66), some (iv x60), some (iv x64), some (iv (wr (x67 + 1)))]) C dX12_goesOne_393 rfl rfl (Nat.le_of_ble_eq_true rfl) rfl ?_
                                                refine g_goto C dX12_goesOne_396 rfl (tgt := 297) ?_
                                                obtain rfl := Option.some.inj h
                                                exact ih65 _ _ ix66 (iwr _) (lpL hk65)
                                              · have h := ifF c82 h
                                                refine g_iconst C dX12_goesOne_390 ?_
                                                refine g_istore (L1 := [some (rv w 170), some (iv a1), none, some (iv x48), some (iv x52), some (iv 1), some (iv x60), some (iv x64), some (iv x67)]) C dX12_goesOne_391 rfl (Nat.le_of_ble_eq_true rfl) rfl ?_
                                                refine g_iinc (L1 := [some (rv w 170), some (iv a1), none, some (iv x48), some (iv x52), some (iv 1), some (iv x60), some (iv x64), some (iv (wr (x67 + 1)))]) C dX12_goesOne_393 rfl rfl (Nat.le_of_ble_eq_true rfl) rfl ?_
                                                refine g_goto C dX12_goesOne_396 rfl (tgt := 297) ?_
                                                obtain rfl := Option.some.inj h
                                                exact ih65 _ _ (Or.inr rfl) (iwr _) (lpL hk65)
                              exact hL65 FU _ _ ix59 (by decide) hb65
                      exact hL58 FU _ _ (Or.inl rfl) (by decide) hb58
                    · have h := ifF c57 h
                      exact hJ255_126  h
            exact hL51 FU _ _ (by decide) hb51
      exact hL47 FU _ _ (by decide) hb47
    have hL18 : ∀ (n : Nat) (x19 : Int) (σ20 : St) , InI x19 → lpN (fun a => m_X12_goesOne_L73 a2 a1 a.1 a.2) n (x19, σ20) = some b18 → GM w p l e rm_X12_goesOne s m args below meth c none True σ' 9 73 [some (rv w 170), some (iv a1), some (iv a2), some (iv x19), none, none, none, none, none] [] σ20 := by
      intro n
      induction n with
      | zero => intro x19 σ20 ix19 q; cases q
      | succ n ih18 =>
        intro x19 σ20 ix19 q
        obtain ⟨o18, h, hk18⟩ := lp_step q
        replace h : m_X12_goesOne_L73 a2 a1 x19 σ20 = some o18 := h
        unfold m_X12_goesOne_L73 at h
        refine g_iload_n C dX12_goesOne_73 rfl ?_
        refine g_iload_n C dX12_goesOne_74 rfl ?_
        refine g_icmp_ge C dX12_goesOne_75 ix19 ia2 rfl (tgt := 215) (fun c21 => ?_) (fun c21 => ?_)
        · have h := ifT c21 h
          refine g_mask [true, true, false, false, true, true, true, true, true] ?_
          obtain rfl := Option.some.inj h
          exact hX18 σ20 (lpR hk18).symm
        · have h := ifF c21 h
          refine g_aload_n C dX12_goesOne_78 rfl ?_
          refine g_getR (j := 42) C dX12_goesOne_79 rfl (Nat.le_of_ble_eq_true rfl) (Nat.le_of_ble_eq_true rfl) fl_12_91 rfl rfl (r := 195) rfl ?_
          refine g_iload_n C dX12_goesOne_82 rfl ?_
          obtain ⟨x22, qx22, h⟩ := bnd h
          refine g_iald C dX12_goesOne_83 rfl rfl qx22 ix19 (fun ix22 => ?_)
          refine g_iconst C dX12_goesOne_84 ?_
          refine g_icmp_ne C dX12_goesOne_85 ix22 (by decide) rfl (tgt := 209) (fun c23 => ?_) (fun c23 => ?_)
          · have h := ifF c23 h
            refine g_iinc (L1 := [some (rv w 170), some (iv a1), some (iv a2), some (iv (wr (x19 + 1))), none, none, none, none, none]) C dX12_goesOne_209 rfl rfl (Nat.le_of_ble_eq_true rfl) rfl ?_
            refine g_goto C dX12_goesOne_212 rfl (tgt := 73) ?_
            obtain rfl := Option.some.inj h
            exact ih18 _ _ (iwr _) (lpL hk18)
          · have h := ifT c23 h
            refine g_aload_n C dX12_goesOne_88 rfl ?_
            refine g_getR (j := 43) C dX12_goesOne_89 rfl (Nat.le_of_ble_eq_true rfl) (Nat.le_of_ble_eq_true rfl) fl_12_94 rfl rfl (r := 196) rfl ?_
            refine g_iload_n C dX12_goesOne_92 rfl ?_
            obtain ⟨x24, qx24, h⟩ := bnd h
            refine g_iald C dX12_goesOne_93 rfl rfl qx24 ix19 (fun ix24 => ?_)
            refine g_iload_n C dX12_goesOne_94 rfl ?_
            refine g_icmp_ne C dX12_goesOne_95 ix24 ia1 rfl (tgt := 209) (fun c25 => ?_) (fun c25 => ?_)
            · have h := ifF c25 h
              refine g_iinc (L1 := [some (rv w 170), some (iv a1), some (iv a2), some (iv (wr (x19 + 1))), none, none, none, none, none]) C dX12_goesOne_209 rfl rfl (Nat.le_of_ble_eq_true rfl) rfl ?_
              refine g_goto C dX12_goesOne_212 rfl (tgt := 73) ?_
              obtain rfl := Option.some.inj h
              exact ih18 _ _ (iwr _) (lpL hk18)
            · have h := ifT c25 h
              refine g_aload_n C dX12_goesOne_98 rfl ?_
              refine g_iload_n C dX12_goesOne_99 rfl ?_
              refine g_iload_n C dX12_goesOne_100 rfl ?_
              obtain ⟨x26, qx26, h⟩ := bnd h
              refine g_callV1 (As := [iv x19, iv a2]) C dX12_goesOne_101 mi_X12_isStruck ml_12_351 (ct_X12_isStruck ix19 ia2 qx26) rfl rfl ⟨rfl, rfl⟩ ⟨Nat.le_of_ble_eq_true rfl, Nat.le_of_ble_eq_true rfl⟩ ⟨Nat.zero_le _, Nat.zero_le _⟩ rfl (Nat.le_of_ble_eq_true rfl) (fun ix26 => ?_)
              refine g_if_eq C dX12_goesOne_104 (zI ix26) rfl (tgt := 110) (fun c27 => ?_) (fun c27 => ?_)
              · have h := ifT c27 h
                refine g_aload_n C dX12_goesOne_110 rfl ?_
                refine g_getR (j := 45) C dX12_goesOne_111 rfl (Nat.le_of_ble_eq_true rfl) (Nat.le_of_ble_eq_true rfl) fl_12_100 rfl rfl (r := 198) rfl ?_
                refine g_iload_n C dX12_goesOne_114 rfl ?_
                obtain ⟨x28, qx28, h⟩ := bnd h
                refine g_iald C dX12_goesOne_115 rfl rfl qx28 ix19 (fun ix28 => ?_)
                refine g_istore (L1 := [some (rv w 170), some (iv a1), some (iv a2), some (iv x19), some (iv x28), none, none, none, none]) C dX12_goesOne_116 rfl (Nat.le_of_ble_eq_true rfl) rfl ?_
                refine g_iconst C dX12_goesOne_118 ?_
                refine g_istore (L1 := [some (rv w 170), some (iv a1), some (iv a2), some (iv x19), some (iv x28), some (iv 0), none, none, none]) C dX12_goesOne_119 rfl (Nat.le_of_ble_eq_true rfl) rfl ?_
                obtain ⟨b29, hb29, hF29⟩ := bnd h
                have hX29 : ∀ (σ44 : St) , σ44 = b29 → GM w p l e rm_X12_goesOne s m args below meth c none True σ' 9 196 [some (rv w 170), some (iv a1), some (iv a2), some (iv x19), some (iv x28), none, none, none, none] [] σ44 := by
                  intro σ44 q
                  subst q
                  have h := hF29
                  refine g_aload_n C dX12_goesOne_196 rfl ?_
                  refine g_getR (j := 79) C dX12_goesOne_197 rfl (Nat.le_of_ble_eq_true rfl) (Nat.le_of_ble_eq_true rfl) fl_12_188 rfl rfl (r := 225) rfl ?_
                  refine g_bipush C dX12_goesOne_200 rfl ?_
                  refine g_iload_n C dX12_goesOne_202 rfl ?_
                  refine g_imul C dX12_goesOne_203 ?_
                  refine g_iload C dX12_goesOne_204 rfl ?_
                  refine g_iadd C dX12_goesOne_206 ?_
                  refine g_iconst C dX12_goesOne_207 ?_
                  obtain ⟨σ45, qσ45, h⟩ := bnd h
                  refine g_zast C dX12_goesOne_208 rfl rfl qσ45 (iwr _) (Or.inr rfl) ?_
                  refine g_iinc (L1 := [some (rv w 170), some (iv a1), some (iv a2), some (iv (wr (x19 + 1))), some (iv x28), none, none, none, none]) C dX12_goesOne_209 rfl rfl (Nat.le_of_ble_eq_true rfl) rfl ?_
                  refine g_goto C dX12_goesOne_212 rfl (tgt := 73) ?_
                  refine g_mask [true, true, true, true, false, true, true, true, true] ?_
                  obtain rfl := Option.some.inj h
                  exact ih18 _ _ (iwr _) (lpL hk18)
                have hL29 : ∀ (n : Nat) (x30 : Int) (σ31 : St) , InI x30 → lpN (fun a => m_X12_goesOne_L121 x19 a1 x28 a.1 a.2) n (x30, σ31) = some b29 → GM w p l e rm_X12_goesOne s m args below meth c none True σ' 9 121 [some (rv w 170), some (iv a1), some (iv a2), some (iv x19), some (iv x28), some (iv x30), none, none, none] [] σ31 := by
                  intro n
                  induction n with
                  | zero => intro x30 σ31 ix30 q; cases q
                  | succ n ih29 =>
                    intro x30 σ31 ix30 q
                    obtain ⟨o29, h, hk29⟩ := lp_step q
                    replace h : m_X12_goesOne_L121 x19 a1 x28 x30 σ31 = some o29 := h
                    unfold m_X12_goesOne_L121 at h
                    refine g_iload C dX12_goesOne_121 rfl ?_
                    refine g_aload_n C dX12_goesOne_123 rfl ?_
                    refine g_getI (j := 30) C dX12_goesOne_124 rfl (Nat.le_of_ble_eq_true rfl) (Nat.le_of_ble_eq_true rfl) fl_12_330 rfl rfl (fun i32 => ?_)
                    refine g_icmp_ge C dX12_goesOne_127 ix30 i32 rfl (tgt := 196) (fun c33 => ?_) (fun c33 => ?_)
                    · have h := ifT c33 h
                      refine g_mask [true, true, true, true, true, false, true, true, true] ?_
                      obtain rfl := Option.some.inj h
                      exact hX29 σ31 (lpR hk29).symm
                    · have h := ifF c33 h
                      refine g_aload_n C dX12_goesOne_130 rfl ?_
                      refine g_getR (j := 78) C dX12_goesOne_131 rfl (Nat.le_of_ble_eq_true rfl) (Nat.le_of_ble_eq_true rfl) fl_12_185 rfl rfl (r := 224) rfl ?_
                      refine g_bipush C dX12_goesOne_134 rfl ?_
                      refine g_iload C dX12_goesOne_136 rfl ?_
                      refine g_imul C dX12_goesOne_138 ?_
                      refine g_iload C dX12_goesOne_139 rfl ?_
                      refine g_iadd C dX12_goesOne_141 ?_
                      refine g_iload C dX12_goesOne_142 rfl ?_
                      refine g_aload_n C dX12_goesOne_144 rfl ?_
                      refine g_getR (j := 44) C dX12_goesOne_145 rfl (Nat.le_of_ble_eq_true rfl) (Nat.le_of_ble_eq_true rfl) fl_12_97 rfl rfl (r := 197) rfl ?_
                      refine g_iload_n C dX12_goesOne_148 rfl ?_
                      obtain ⟨x34, qx34, h⟩ := bnd h
                      refine g_iald C dX12_goesOne_149 rfl rfl qx34 ix19 (fun ix34 => ?_)
                      refine g_icmp_ne C dX12_goesOne_150 ix30 ix34 rfl (tgt := 188) (fun c35 => ?_) (fun c35 => ?_)
                      · have h := ifF c35 h
                        refine g_iconst C dX12_goesOne_188 ?_
                        obtain ⟨σ36, qσ36, h⟩ := bnd h
                        refine g_zast C dX12_goesOne_189 rfl rfl qσ36 (iwr _) (Or.inl rfl) ?_
                        refine g_iinc (L1 := [some (rv w 170), some (iv a1), some (iv a2), some (iv x19), some (iv x28), some (iv (wr (x30 + 1))), none, none, none]) C dX12_goesOne_190 rfl rfl (Nat.le_of_ble_eq_true rfl) rfl ?_
                        refine g_goto C dX12_goesOne_193 rfl (tgt := 121) ?_
                        obtain rfl := Option.some.inj h
                        exact ih29 _ _ (iwr _) (lpL hk29)
                      · have h := ifT c35 h
                        refine g_aload_n C dX12_goesOne_153 rfl ?_
                        refine g_getR (j := 79) C dX12_goesOne_154 rfl (Nat.le_of_ble_eq_true rfl) (Nat.le_of_ble_eq_true rfl) fl_12_188 rfl rfl (r := 225) rfl ?_
                        refine g_bipush C dX12_goesOne_157 rfl ?_
                        refine g_iload_n C dX12_goesOne_159 rfl ?_
                        refine g_imul C dX12_goesOne_160 ?_
                        refine g_iload C dX12_goesOne_161 rfl ?_
                        refine g_iadd C dX12_goesOne_163 ?_
                        obtain ⟨x37, qx37, h⟩ := bnd h
                        refine g_zald C dX12_goesOne_164 rfl rfl qx37 (iwr _) (fun ix37 => ?_)
                        have hJ184_43 : m_X12_goesOne_J184 σ31 x28 x30 = some o29 → GM w p l e rm_X12_goesOne s m args below meth c none True σ' 9 184 [some (rv w 170), some (iv a1), some (iv a2), some (iv x19), some (iv x28), some (iv x30), none, none, none] [iv (wr (wr (10 * x28) + x30)), rv w 224] σ31 := by
                          intro h
                          unfold m_X12_goesOne_J184 at h
                          refine g_iconst C dX12_goesOne_184 ?_
                          refine g_goto C dX12_goesOne_185 rfl (tgt := 189) ?_
                          obtain ⟨σ42, qσ42, h⟩ := bnd h
                          refine g_zast C dX12_goesOne_189 rfl rfl qσ42 (iwr _) (Or.inr rfl) ?_
                          refine g_iinc (L1 := [some (rv w 170), some (iv a1), some (iv a2), some (iv x19), some (iv x28), some (iv (wr (x30 + 1))), none, none, none]) C dX12_goesOne_190 rfl rfl (Nat.le_of_ble_eq_true rfl) rfl ?_
                          refine g_goto C dX12_goesOne_193 rfl (tgt := 121) ?_
                          obtain rfl := Option.some.inj h
                          exact ih29 _ _ (iwr _) (lpL hk29)
                        refine g_if_eq C dX12_goesOne_165 (zI ix37) rfl (tgt := 184) (fun c38 => ?_) (fun c38 => ?_)
                        · have h := ifT c38 h
                          exact hJ184_43  h
                        · have h := ifF c38 h
                          refine g_aload_n C dX12_goesOne_168 rfl ?_
                          refine g_getR (j := 78) C dX12_goesOne_169 rfl (Nat.le_of_ble_eq_true rfl) (Nat.le_of_ble_eq_true rfl) fl_12_185 rfl rfl (r := 224) rfl ?_
                          refine g_bipush C dX12_goesOne_172 rfl ?_
                          refine g_iload C dX12_goesOne_174 rfl ?_
                          refine g_imul C dX12_goesOne_176 ?_
                          refine g_iload C dX12_goesOne_177 rfl ?_
                          refine g_iadd C dX12_goesOne_179 ?_
                          obtain ⟨x39, qx39, h⟩ := bnd h
                          refine g_zald C dX12_goesOne_180 rfl rfl qx39 (iwr _) (fun ix39 => ?_)
                          refine g_if_eq C dX12_goesOne_181 (zI ix39) rfl (tgt := 188) (fun c40 => ?_) (fun c40 => ?_)
                          · have h := ifT c40 h
                            refine g_iconst C dX12_goesOne_188 ?_
                            obtain ⟨σ41, qσ41, h⟩ := bnd h
                            refine g_zast C dX12_goesOne_189 rfl rfl qσ41 (iwr _) (Or.inl rfl) ?_
                            refine g_iinc (L1 := [some (rv w 170), some (iv a1), some (iv a2), some (iv x19), some (iv x28), some (iv (wr (x30 + 1))), none, none, none]) C dX12_goesOne_190 rfl rfl (Nat.le_of_ble_eq_true rfl) rfl ?_
                            refine g_goto C dX12_goesOne_193 rfl (tgt := 121) ?_
                            obtain rfl := Option.some.inj h
                            exact ih29 _ _ (iwr _) (lpL hk29)
                          · have h := ifF c40 h
                            exact hJ184_43  h
                exact hL29 FU _ _ (by decide) hb29
              · have h := ifF c27 h
                refine g_goto C dX12_goesOne_107 rfl (tgt := 209) ?_
                refine g_iinc (L1 := [some (rv w 170), some (iv a1), some (iv a2), some (iv (wr (x19 + 1))), none, none, none, none, none]) C dX12_goesOne_209 rfl rfl (Nat.le_of_ble_eq_true rfl) rfl ?_
                refine g_goto C dX12_goesOne_212 rfl (tgt := 73) ?_
                obtain rfl := Option.some.inj h
                exact ih18 _ _ (iwr _) (lpL hk18)
    exact hL18 FU _ _ (by decide) hb18
  have hL1 : ∀ (n : Nat) (x2 : Int) (σ3 : St) , InI x2 → lpN (fun a => m_X12_goesOne_L2 a.1 a.2) n (x2, σ3) = some b1 → GM w p l e rm_X12_goesOne s m args below meth c none True σ' 9 2 [some (rv w 170), some (iv a1), some (iv a2), some (iv x2), none, none, none, none, none] [] σ3 := by
    intro n
    induction n with
    | zero => intro x2 σ3 ix2 q; cases q
    | succ n ih1 =>
      intro x2 σ3 ix2 q
      obtain ⟨o1, h, hk1⟩ := lp_step q
      replace h : m_X12_goesOne_L2 x2 σ3 = some o1 := h
      unfold m_X12_goesOne_L2 at h
      refine g_iload_n C dX12_goesOne_2 rfl ?_
      refine g_bipush C dX12_goesOne_3 rfl ?_
      refine g_icmp_ge C dX12_goesOne_5 ix2 (by decide) rfl (tgt := 71) (fun c4 => ?_) (fun c4 => ?_)
      · have h := ifT c4 h
        refine g_mask [true, true, true, false, true, true, true, true, true] ?_
        obtain rfl := Option.some.inj h
        exact hX1 σ3 (lpR hk1).symm
      · have h := ifF c4 h
        refine g_iconst C dX12_goesOne_8 ?_
        refine g_istore (L1 := [some (rv w 170), some (iv a1), some (iv a2), some (iv x2), some (iv 0), none, none, none, none]) C dX12_goesOne_9 rfl (Nat.le_of_ble_eq_true rfl) rfl ?_
        obtain ⟨b5, hb5, hF5⟩ := bnd h
        have hX5 : ∀ (σ16 : St) , σ16 = b5 → GM w p l e rm_X12_goesOne s m args below meth c none True σ' 9 65 [some (rv w 170), some (iv a1), some (iv a2), some (iv x2), none, none, none, none, none] [] σ16 := by
          intro σ16 q
          subst q
          have h := hF5
          refine g_iinc (L1 := [some (rv w 170), some (iv a1), some (iv a2), some (iv (wr (x2 + 1))), none, none, none, none, none]) C dX12_goesOne_65 rfl rfl (Nat.le_of_ble_eq_true rfl) rfl ?_
          refine g_goto C dX12_goesOne_68 rfl (tgt := 2) ?_
          obtain rfl := Option.some.inj h
          exact ih1 _ _ (iwr _) (lpL hk1)
        have hL5 : ∀ (n : Nat) (x6 : Int) (σ7 : St) , InI x6 → lpN (fun a => m_X12_goesOne_L11 x2 a.1 a.2) n (x6, σ7) = some b5 → GM w p l e rm_X12_goesOne s m args below meth c none True σ' 9 11 [some (rv w 170), some (iv a1), some (iv a2), some (iv x2), some (iv x6), none, none, none, none] [] σ7 := by
          intro n
          induction n with
          | zero => intro x6 σ7 ix6 q; cases q
          | succ n ih5 =>
            intro x6 σ7 ix6 q
            obtain ⟨o5, h, hk5⟩ := lp_step q
            replace h : m_X12_goesOne_L11 x2 x6 σ7 = some o5 := h
            unfold m_X12_goesOne_L11 at h
            refine g_iload C dX12_goesOne_11 rfl ?_
            refine g_bipush C dX12_goesOne_13 rfl ?_
            refine g_icmp_ge C dX12_goesOne_15 ix6 (by decide) rfl (tgt := 65) (fun c8 => ?_) (fun c8 => ?_)
            · have h := ifT c8 h
              refine g_mask [true, true, true, true, false, true, true, true, true] ?_
              obtain rfl := Option.some.inj h
              exact hX5 σ7 (lpR hk5).symm
            · have h := ifF c8 h
              refine g_aload_n C dX12_goesOne_18 rfl ?_
              refine g_getR (j := 78) C dX12_goesOne_19 rfl (Nat.le_of_ble_eq_true rfl) (Nat.le_of_ble_eq_true rfl) fl_12_185 rfl rfl (r := 224) rfl ?_
              refine g_bipush C dX12_goesOne_22 rfl ?_
              refine g_iload_n C dX12_goesOne_24 rfl ?_
              refine g_imul C dX12_goesOne_25 ?_
              refine g_iload C dX12_goesOne_26 rfl ?_
              refine g_iadd C dX12_goesOne_28 ?_
              refine g_iload C dX12_goesOne_29 rfl ?_
              refine g_aload_n C dX12_goesOne_31 rfl ?_
              refine g_getI (j := 30) C dX12_goesOne_32 rfl (Nat.le_of_ble_eq_true rfl) (Nat.le_of_ble_eq_true rfl) fl_12_330 rfl rfl (fun i9 => ?_)
              refine g_icmp_ge C dX12_goesOne_35 ix6 i9 rfl (tgt := 57) (fun c10 => ?_) (fun c10 => ?_)
              · have h := ifT c10 h
                refine g_iconst C dX12_goesOne_57 ?_
                obtain ⟨σ11, qσ11, h⟩ := bnd h
                refine g_zast C dX12_goesOne_58 rfl rfl qσ11 (iwr _) (Or.inl rfl) ?_
                refine g_iinc (L1 := [some (rv w 170), some (iv a1), some (iv a2), some (iv x2), some (iv (wr (x6 + 1))), none, none, none, none]) C dX12_goesOne_59 rfl rfl (Nat.le_of_ble_eq_true rfl) rfl ?_
                refine g_goto C dX12_goesOne_62 rfl (tgt := 11) ?_
                obtain rfl := Option.some.inj h
                exact ih5 _ _ (iwr _) (lpL hk5)
              · have h := ifF c10 h
                refine g_aload_n C dX12_goesOne_38 rfl ?_
                refine g_getR (j := 47) C dX12_goesOne_39 rfl (Nat.le_of_ble_eq_true rfl) (Nat.le_of_ble_eq_true rfl) fl_12_106 rfl rfl (r := 200) rfl ?_
                refine g_bipush C dX12_goesOne_42 rfl ?_
                refine g_iload C dX12_goesOne_44 rfl ?_
                refine g_imul C dX12_goesOne_46 ?_
                refine g_iload_n C dX12_goesOne_47 rfl ?_
                refine g_iadd C dX12_goesOne_48 ?_
                obtain ⟨x12, qx12, h⟩ := bnd h
                refine g_zald C dX12_goesOne_49 rfl rfl qx12 (iwr _) (fun ix12 => ?_)
                refine g_if_ne C dX12_goesOne_50 (zI ix12) rfl (tgt := 57) (fun c13 => ?_) (fun c13 => ?_)
                · have h := ifF c13 h
                  refine g_iconst C dX12_goesOne_57 ?_
                  obtain ⟨σ14, qσ14, h⟩ := bnd h
                  refine g_zast C dX12_goesOne_58 rfl rfl qσ14 (iwr _) (Or.inl rfl) ?_
                  refine g_iinc (L1 := [some (rv w 170), some (iv a1), some (iv a2), some (iv x2), some (iv (wr (x6 + 1))), none, none, none, none]) C dX12_goesOne_59 rfl rfl (Nat.le_of_ble_eq_true rfl) rfl ?_
                  refine g_goto C dX12_goesOne_62 rfl (tgt := 11) ?_
                  obtain rfl := Option.some.inj h
                  exact ih5 _ _ (iwr _) (lpL hk5)
                · have h := ifT c13 h
                  refine g_iconst C dX12_goesOne_53 ?_
                  refine g_goto C dX12_goesOne_54 rfl (tgt := 58) ?_
                  obtain ⟨σ15, qσ15, h⟩ := bnd h
                  refine g_zast C dX12_goesOne_58 rfl rfl qσ15 (iwr _) (Or.inr rfl) ?_
                  refine g_iinc (L1 := [some (rv w 170), some (iv a1), some (iv a2), some (iv x2), some (iv (wr (x6 + 1))), none, none, none, none]) C dX12_goesOne_59 rfl rfl (Nat.le_of_ble_eq_true rfl) rfl ?_
                  refine g_goto C dX12_goesOne_62 rfl (tgt := 11) ?_
                  obtain rfl := Option.some.inj h
                  exact ih5 _ _ (iwr _) (lpL hk5)
        exact hL5 FU _ _ (by decide) hb5
  exact hL1 FU _ _ (by decide) hb1
