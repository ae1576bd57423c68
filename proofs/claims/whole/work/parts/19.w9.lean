def f_X12_rounds_L73 (x1 : Int32) (x2 : Int32) (x3 : Int32) : Nat → Int32 → Int32 → qM → Option (Int32 × Int32 × qM)
  | 0, _, _, _ => none
  | n + 1, c4, c5, M =>
  (qrd M 26 57 (nI 1)).bind fun v23 => if v23 ≤ c5 then some (c4, c5, M)
    else (f_X12_has x2 c5 M).bind fun b28 => if b28 = true then (qwr M 37 6 c4 c5).bind fun M30 => f_X12_rounds_L73 x1 x2 x3 n (c4 + nI 1) (c5 + nI 1) M30
    else f_X12_rounds_L73 x1 x2 x3 n c4 (c5 + nI 1) M
set_option maxRecDepth 20000 in
set_option maxHeartbeats 4000000 in
theorem l_X12_rounds_L73 {G : qG} {ρ : qR} (x1 : Int32) (x2 : Int32) (x3 : Int32) (J : qJ) : ∀ (n : Nat) (c4 : Int32) (c5 : Int32) (M : qM) (res : Int32 × Int32 × qM), f_X12_rounds_L73 x1 x2 x3 n c4 c5 M = some res → (∀ x : Int32 × Int32 × qM, res = x → QW G (qrm 5 0 0) YX12_rounds 0 0 111 [some (.ref 25), some (.int x1), none, some (.int x3), some (.int x.1), none, none, none, none, none, none] [] SH x.2.2 J ρ) → QW G (qrm 5 0 0) YX12_rounds 0 0 73 [some (.ref 25), some (.int x1), some (.int x2), some (.int x3), some (.int c4), some (.int c5), none, none, none, none, none] [] SH M J ρ
  | 0, _, _, _, _, h, _ => by simp [f_X12_rounds_L73] at h
  | n + 1, c4, c5, M, res, h, hk => by
    rw [f_X12_rounds_L73] at h
    refine q_iload (pc := 73) dX12_rounds_73 rfl ?_
    refine q_aload_n (pc := 75) dX12_rounds_75 rfl ?_
    refine q_getf (pc := 76) (f := 0) (v := .ref 26) dX12_rounds_76 sh_25 cl_11 inX12 rfl (by decide) lk_X12_7 rfl ?_
    refine q_iconst (pc := 79) (v := nI 1) dX12_rounds_79 (by decide) ?_
    obtain ⟨v23, h24, h⟩ := Option.bind_eq_some_iff.mp h
    refine q_iald (pc := 80) dX12_rounds_80 sh_26 h24 ?_
    by_cases k25 : v23 ≤ c5
    · rw [if_pos k25] at h
      refine q_icmp_ge_t (pc := 81) (tgt := 111) dX12_rounds_81 (by decide) k25 ?_
      refine q_weak (ls' := [some (.ref 25), some (.int x1), none, some (.int x3), some (.int c4), none, none, none, none, none, none]) ⟨rfl, ⟨rfl, ⟨rfl, ⟨rfl, trivial⟩⟩⟩⟩ ?_
      obtain rfl := Option.some.inj h
      exact hk (c4, c5, M) rfl
    · rw [if_neg k25] at h
      refine q_icmp_ge_f (pc := 81) (tgt := 111) dX12_rounds_81 (by decide) k25 ?_
      refine q_iload_n (pc := 84) dX12_rounds_84 rfl ?_
      refine q_iload (pc := 85) dX12_rounds_85 rfl ?_
      obtain ⟨b28, h27, h⟩ := Option.bind_eq_some_iff.mp h
      refine q_calls (pc := 87) (st := []) (a_X12_has h27) okX12_has rfl dX12_rounds_87 lk_X12_132 rfl (by decide) (by decide) (Nat.le_of_ble_eq_true rfl) ⟨Nat.le_of_ble_eq_true rfl, Nat.le_of_ble_eq_true rfl⟩ rfl ?_
      show QW G (qrm 5 0 0) YX12_rounds 0 0 90 [some (.ref 25), some (.int x1), some (.int x2), some (.int x3), some (.int c4), some (.int c5), none, none, none, none, none] [.int (qb b28)] SH M J _
      by_cases k29 : b28 = true
      · rw [if_pos k29] at h
        refine q_if_eq_f (pc := 90) (tgt := 105) dX12_rounds_90 (by decide) (qb_t k29) ?_
        refine q_aload_n (pc := 93) dX12_rounds_93 rfl ?_
        refine q_getf (pc := 94) (f := 23) (v := .ref 37) dX12_rounds_94 sh_25 cl_11 inX12 rfl (by decide) lk_X12_48 rfl ?_
        refine q_iload (pc := 97) dX12_rounds_97 rfl ?_
        refine q_iload (pc := 99) dX12_rounds_99 rfl ?_
        obtain ⟨M30, h31, h⟩ := Option.bind_eq_some_iff.mp h
        refine q_iast (pc := 101) dX12_rounds_101 sh_37 h31 ?_
        refine q_iincW (pc := 102) (w := nI 1) (ls' := [some (.ref 25), some (.int x1), some (.int x2), some (.int x3), some (.int (c4 + nI 1)), some (.int c5), none, none, none, none, none]) dX12_rounds_102 rfl (by decide) (by decide) rfl rfl ?_
        refine q_iincW (pc := 105) (w := nI 1) (ls' := [some (.ref 25), some (.int x1), some (.int x2), some (.int x3), some (.int (c4 + nI 1)), some (.int (c5 + nI 1)), none, none, none, none, none]) dX12_rounds_105 rfl (by decide) (by decide) rfl rfl ?_
        refine q_goto (pc := 108) (tgt := 73) dX12_rounds_108 (by decide) ?_
        exact l_X12_rounds_L73 x1 x2 x3 J n (c4 + nI 1) (c5 + nI 1) M30 res h hk
      · rw [if_neg k29] at h
        refine q_if_eq_t (pc := 90) (tgt := 105) dX12_rounds_90 (by decide) (qb_f k29) ?_
        refine q_iincW (pc := 105) (w := nI 1) (ls' := [some (.ref 25), some (.int x1), some (.int x2), some (.int x3), some (.int c4), some (.int (c5 + nI 1)), none, none, none, none, none]) dX12_rounds_105 rfl (by decide) (by decide) rfl rfl ?_
        refine q_goto (pc := 108) (tgt := 73) dX12_rounds_108 (by decide) ?_
        exact l_X12_rounds_L73 x1 x2 x3 J n c4 (c5 + nI 1) M res h hk
def f_X12_rounds_L138 (x1 : Int32) (x3 : Int32) (x4 : Int32) (x5 : Int32) (x6 : Int32) : Nat → Int32 → Int32 → Int32 → qM → Option (Int32 × Int32 × Int32 × qM)
  | 0, _, _, _, _ => none
  | n + 1, c8, c9, c10, M =>
  if x4 ≤ c10 then some (c8, c9, c10, M)
    else (qrd M 37 6 c10).bind fun v39 => (f_X12_weds_at25_29 x1 v39 M).bind fun b43 => if b43 = true then (qrd M 37 6 c10).bind fun v45 => (qrd M 37 6 c10).bind fun v47 => (f_X12_weds_at25_29 x1 v47 M).bind fun b51 => if b51 = true then (qwr M 29 163 ((nI 7) + v45) (nI 1)).bind fun M53 => (f_X12_yearGoes_at25_29 M53).bind fun M57 => (qrd M57 37 6 c10).bind fun v58 => f_X12_rounds_L138 x1 x3 x4 x5 x6 n (c8 + (nI 1)) ((((nI 10) * c9) + v58) + (nI 1)) (c10 + nI 1) M57
    else (qrd M 37 6 c10).bind fun v60 => (f_X12_counts_at25_29 x1 v60 M).bind fun b64 => if b64 = true then (qwr M 29 163 ((nI 7) + v45) (nI 2)).bind fun M66 => (f_X12_yearGoes_at25_29 M66).bind fun M70 => (qrd M70 37 6 c10).bind fun v71 => f_X12_rounds_L138 x1 x3 x4 x5 x6 n (c8 + (nI 1)) ((((nI 10) * c9) + v71) + (nI 1)) (c10 + nI 1) M70
    else (qwr M 29 163 ((nI 7) + v45) (nI 0)).bind fun M73 => (f_X12_yearGoes_at25_29 M73).bind fun M77 => (qrd M77 37 6 c10).bind fun v78 => f_X12_rounds_L138 x1 x3 x4 x5 x6 n (c8 + (nI 1)) ((((nI 10) * c9) + v78) + (nI 1)) (c10 + nI 1) M77
    else (qrd M 37 6 c10).bind fun v80 => (qrd M 37 6 c10).bind fun v82 => (f_X12_weds_at25_29 x1 v82 M).bind fun b86 => if b86 = true then (qwr M 29 163 ((nI 7) + v80) (nI 1)).bind fun M88 => (f_X12_yearGoes_at25_29 M88).bind fun M92 => (qrd M92 37 6 c10).bind fun v93 => f_X12_rounds_L138 x1 x3 x4 x5 x6 n (c8 + (nI 0)) ((((nI 10) * c9) + v93) + (nI 1)) (c10 + nI 1) M92
    else (qrd M 37 6 c10).bind fun v95 => (f_X12_counts_at25_29 x1 v95 M).bind fun b99 => if b99 = true then (qwr M 29 163 ((nI 7) + v80) (nI 2)).bind fun M101 => (f_X12_yearGoes_at25_29 M101).bind fun M105 => (qrd M105 37 6 c10).bind fun v106 => f_X12_rounds_L138 x1 x3 x4 x5 x6 n (c8 + (nI 0)) ((((nI 10) * c9) + v106) + (nI 1)) (c10 + nI 1) M105
    else (qwr M 29 163 ((nI 7) + v80) (nI 0)).bind fun M108 => (f_X12_yearGoes_at25_29 M108).bind fun M112 => (qrd M112 37 6 c10).bind fun v113 => f_X12_rounds_L138 x1 x3 x4 x5 x6 n (c8 + (nI 0)) ((((nI 10) * c9) + v113) + (nI 1)) (c10 + nI 1) M112
set_option maxRecDepth 20000 in
set_option maxHeartbeats 4000000 in
theorem l_X12_rounds_L138 {G : qG} {ρ : qR} (x1 : Int32) (x3 : Int32) (x4 : Int32) (x5 : Int32) (x6 : Int32) (J : qJ) : ∀ (n : Nat) (c8 : Int32) (c9 : Int32) (c10 : Int32) (M : qM) (res : Int32 × Int32 × Int32 × qM), f_X12_rounds_L138 x1 x3 x4 x5 x6 n c8 c9 c10 M = some res → (∀ x : Int32 × Int32 × Int32 × qM, res = x → QW G (qrm 5 0 0) YX12_rounds 0 0 267 [some (.ref 25), some (.int x1), none, some (.int x3), some (.int x4), some (.int x5), some (.int x6), none, some (.int x.1), some (.int x.2.1), none] [] SH x.2.2.2 J ρ) → QW G (qrm 5 0 0) YX12_rounds 0 0 138 [some (.ref 25), some (.int x1), none, some (.int x3), some (.int x4), some (.int x5), some (.int x6), none, some (.int c8), some (.int c9), some (.int c10)] [] SH M J ρ
  | 0, _, _, _, _, _, h, _ => by simp [f_X12_rounds_L138] at h
  | n + 1, c8, c9, c10, M, res, h, hk => by
    rw [f_X12_rounds_L138] at h
    refine q_iload (pc := 138) dX12_rounds_138 rfl ?_
    refine q_iload (pc := 140) dX12_rounds_140 rfl ?_
    by_cases k38 : x4 ≤ c10
    · rw [if_pos k38] at h
      refine q_icmp_ge_t (pc := 142) (tgt := 267) dX12_rounds_142 (by decide) k38 ?_
      refine q_weak (ls' := [some (.ref 25), some (.int x1), none, some (.int x3), some (.int x4), some (.int x5), some (.int x6), none, some (.int c8), some (.int c9), none]) ⟨rfl, ⟨rfl, ⟨rfl, ⟨rfl, ⟨rfl, ⟨rfl, ⟨rfl, ⟨rfl, trivial⟩⟩⟩⟩⟩⟩⟩⟩ ?_
      obtain rfl := Option.some.inj h
      exact hk (c8, c9, c10, M) rfl
    · rw [if_neg k38] at h
      refine q_icmp_ge_f (pc := 142) (tgt := 267) dX12_rounds_142 (by decide) k38 ?_
      refine q_iload (pc := 145) dX12_rounds_145 rfl ?_
      refine q_aload_n (pc := 147) dX12_rounds_147 rfl ?_
      refine q_aload_n (pc := 148) dX12_rounds_148 rfl ?_
      refine q_getf (pc := 149) (f := 3) (v := .ref 29) dX12_rounds_149 sh_25 cl_11 inX12 rfl (by decide) lk_X12_19 rfl ?_
      refine q_iload_n (pc := 152) dX12_rounds_152 rfl ?_
      refine q_aload_n (pc := 153) dX12_rounds_153 rfl ?_
      refine q_getf (pc := 154) (f := 23) (v := .ref 37) dX12_rounds_154 sh_25 cl_11 inX12 rfl (by decide) lk_X12_48 rfl ?_
      refine q_iload (pc := 157) dX12_rounds_157 rfl ?_
      obtain ⟨v39, h40, h⟩ := Option.bind_eq_some_iff.mp h
      refine q_iald (pc := 159) dX12_rounds_159 sh_37 h40 ?_
      obtain ⟨b43, h42, h⟩ := Option.bind_eq_some_iff.mp h
      refine q_callv (pc := 160) (st := [.int c8]) (a_X12_weds_at25_29 h42) okX12_weds rfl dX12_rounds_160 lk_X12_151 sh_25 cl_11 rfl (by decide) (by decide) (Nat.le_of_ble_eq_true rfl) ⟨Nat.le_of_ble_eq_true rfl, Nat.le_of_ble_eq_true rfl⟩ rfl ?_
      show QW G (qrm 5 0 0) YX12_rounds 0 0 163 [some (.ref 25), some (.int x1), none, some (.int x3), some (.int x4), some (.int x5), some (.int x6), none, some (.int c8), some (.int c9), some (.int c10)] [.int (qb b43), .int c8] SH M J _
      by_cases k44 : b43 = true
      · rw [if_pos k44] at h
        refine q_if_eq_f (pc := 163) (tgt := 170) dX12_rounds_163 (by decide) (qb_t k44) ?_
        refine q_iconst (pc := 166) (v := nI 1) dX12_rounds_166 (by decide) ?_
        refine q_goto (pc := 167) (tgt := 171) dX12_rounds_167 (by decide) ?_
        refine q_iadd (pc := 171) dX12_rounds_171 ?_
        refine q_istore (pc := 172) (ls' := [some (.ref 25), some (.int x1), none, some (.int x3), some (.int x4), some (.int x5), some (.int x6), none, some (.int (c8 + (nI 1))), some (.int c9), some (.int c10)]) dX12_rounds_172 (by decide) rfl rfl ?_
        refine q_aload_n (pc := 174) dX12_rounds_174 rfl ?_
        refine q_getf (pc := 175) (f := 3) (v := .ref 29) dX12_rounds_175 sh_25 cl_11 inX12 rfl (by decide) lk_X12_19 rfl ?_
        refine q_bipush (pc := 178) (v := nI 7) dX12_rounds_178 (by decide) ?_
        refine q_aload_n (pc := 180) dX12_rounds_180 rfl ?_
        refine q_getf (pc := 181) (f := 23) (v := .ref 37) dX12_rounds_181 sh_25 cl_11 inX12 rfl (by decide) lk_X12_48 rfl ?_
        refine q_iload (pc := 184) dX12_rounds_184 rfl ?_
        obtain ⟨v45, h46, h⟩ := Option.bind_eq_some_iff.mp h
        refine q_iald (pc := 186) dX12_rounds_186 sh_37 h46 ?_
        refine q_iadd (pc := 187) dX12_rounds_187 ?_
        refine q_aload_n (pc := 188) dX12_rounds_188 rfl ?_
        refine q_aload_n (pc := 189) dX12_rounds_189 rfl ?_
        refine q_getf (pc := 190) (f := 3) (v := .ref 29) dX12_rounds_190 sh_25 cl_11 inX12 rfl (by decide) lk_X12_19 rfl ?_
        refine q_iload_n (pc := 193) dX12_rounds_193 rfl ?_
        refine q_aload_n (pc := 194) dX12_rounds_194 rfl ?_
        refine q_getf (pc := 195) (f := 23) (v := .ref 37) dX12_rounds_195 sh_25 cl_11 inX12 rfl (by decide) lk_X12_48 rfl ?_
        refine q_iload (pc := 198) dX12_rounds_198 rfl ?_
        obtain ⟨v47, h48, h⟩ := Option.bind_eq_some_iff.mp h
        refine q_iald (pc := 200) dX12_rounds_200 sh_37 h48 ?_
        obtain ⟨b51, h50, h⟩ := Option.bind_eq_some_iff.mp h
        refine q_callv (pc := 201) (st := [.int ((nI 7) + v45), .ref 29]) (a_X12_weds_at25_29 h50) okX12_weds rfl dX12_rounds_201 lk_X12_151 sh_25 cl_11 rfl (by decide) (by decide) (Nat.le_of_ble_eq_true rfl) ⟨Nat.le_of_ble_eq_true rfl, Nat.le_of_ble_eq_true rfl⟩ rfl ?_
        show QW G (qrm 5 0 0) YX12_rounds 0 0 204 [some (.ref 25), some (.int x1), none, some (.int x3), some (.int x4), some (.int x5), some (.int x6), none, some (.int (c8 + (nI 1))), some (.int c9), some (.int c10)] [.int (qb b51), .int ((nI 7) + v45), .ref 29] SH M J _
        by_cases k52 : b51 = true
        · rw [if_pos k52] at h
          refine q_if_eq_f (pc := 204) (tgt := 211) dX12_rounds_204 (by decide) (qb_t k52) ?_
          refine q_iconst (pc := 207) (v := nI 1) dX12_rounds_207 (by decide) ?_
          refine q_goto (pc := 208) (tgt := 235) dX12_rounds_208 (by decide) ?_
          obtain ⟨M53, h54, h⟩ := Option.bind_eq_some_iff.mp h
          refine q_iast (pc := 235) dX12_rounds_235 sh_29 h54 ?_
          refine q_aload_n (pc := 236) dX12_rounds_236 rfl ?_
          refine q_aload_n (pc := 237) dX12_rounds_237 rfl ?_
          refine q_getf (pc := 238) (f := 3) (v := .ref 29) dX12_rounds_238 sh_25 cl_11 inX12 rfl (by decide) lk_X12_19 rfl ?_
          obtain ⟨M57, h56, h⟩ := Option.bind_eq_some_iff.mp h
          refine q_callv (pc := 241) (st := []) (a_X12_yearGoes_at25_29 h56) okX12_yearGoes rfl dX12_rounds_241 lk_X12_208 sh_25 cl_11 rfl (by decide) (by decide) (Nat.le_of_ble_eq_true rfl) ⟨Nat.le_of_ble_eq_true rfl, Nat.le_of_ble_eq_true rfl⟩ rfl ?_
          show QW G (qrm 5 0 0) YX12_rounds 0 0 244 [some (.ref 25), some (.int x1), none, some (.int x3), some (.int x4), some (.int x5), some (.int x6), none, some (.int (c8 + (nI 1))), some (.int c9), some (.int c10)] [] SH M57 J _
          refine q_bipush (pc := 244) (v := nI 10) dX12_rounds_244 (by decide) ?_
          refine q_iload (pc := 246) dX12_rounds_246 rfl ?_
          refine q_imul (pc := 248) dX12_rounds_248 ?_
          refine q_aload_n (pc := 249) dX12_rounds_249 rfl ?_
          refine q_getf (pc := 250) (f := 23) (v := .ref 37) dX12_rounds_250 sh_25 cl_11 inX12 rfl (by decide) lk_X12_48 rfl ?_
          refine q_iload (pc := 253) dX12_rounds_253 rfl ?_
          obtain ⟨v58, h59, h⟩ := Option.bind_eq_some_iff.mp h
          refine q_iald (pc := 255) dX12_rounds_255 sh_37 h59 ?_
          refine q_iadd (pc := 256) dX12_rounds_256 ?_
          refine q_iconst (pc := 257) (v := nI 1) dX12_rounds_257 (by decide) ?_
          refine q_iadd (pc := 258) dX12_rounds_258 ?_
          refine q_istore (pc := 259) (ls' := [some (.ref 25), some (.int x1), none, some (.int x3), some (.int x4), some (.int x5), some (.int x6), none, some (.int (c8 + (nI 1))), some (.int ((((nI 10) * c9) + v58) + (nI 1))), some (.int c10)]) dX12_rounds_259 (by decide) rfl rfl ?_
          refine q_iincW (pc := 261) (w := nI 1) (ls' := [some (.ref 25), some (.int x1), none, some (.int x3), some (.int x4), some (.int x5), some (.int x6), none, some (.int (c8 + (nI 1))), some (.int ((((nI 10) * c9) + v58) + (nI 1))), some (.int (c10 + nI 1))]) dX12_rounds_261 rfl (by decide) (by decide) rfl rfl ?_
          refine q_goto (pc := 264) (tgt := 138) dX12_rounds_264 (by decide) ?_
          exact l_X12_rounds_L138 x1 x3 x4 x5 x6 J n (c8 + (nI 1)) ((((nI 10) * c9) + v58) + (nI 1)) (c10 + nI 1) M57 res h hk
        · rw [if_neg k52] at h
          refine q_if_eq_t (pc := 204) (tgt := 211) dX12_rounds_204 (by decide) (qb_f k52) ?_
          refine q_aload_n (pc := 211) dX12_rounds_211 rfl ?_
          refine q_aload_n (pc := 212) dX12_rounds_212 rfl ?_
          refine q_getf (pc := 213) (f := 3) (v := .ref 29) dX12_rounds_213 sh_25 cl_11 inX12 rfl (by decide) lk_X12_19 rfl ?_
          refine q_iload_n (pc := 216) dX12_rounds_216 rfl ?_
          refine q_aload_n (pc := 217) dX12_rounds_217 rfl ?_
          refine q_getf (pc := 218) (f := 23) (v := .ref 37) dX12_rounds_218 sh_25 cl_11 inX12 rfl (by decide) lk_X12_48 rfl ?_
          refine q_iload (pc := 221) dX12_rounds_221 rfl ?_
          obtain ⟨v60, h61, h⟩ := Option.bind_eq_some_iff.mp h
          refine q_iald (pc := 223) dX12_rounds_223 sh_37 h61 ?_
          obtain ⟨b64, h63, h⟩ := Option.bind_eq_some_iff.mp h
          refine q_callv (pc := 224) (st := [.int ((nI 7) + v45), .ref 29]) (a_X12_counts_at25_29 h63) okX12_counts rfl dX12_rounds_224 lk_X12_147 sh_25 cl_11 rfl (by decide) (by decide) (Nat.le_of_ble_eq_true rfl) ⟨Nat.le_of_ble_eq_true rfl, Nat.le_of_ble_eq_true rfl⟩ rfl ?_
          show QW G (qrm 5 0 0) YX12_rounds 0 0 227 [some (.ref 25), some (.int x1), none, some (.int x3), some (.int x4), some (.int x5), some (.int x6), none, some (.int (c8 + (nI 1))), some (.int c9), some (.int c10)] [.int (qb b64), .int ((nI 7) + v45), .ref 29] SH M J _
          by_cases k65 : b64 = true
          · rw [if_pos k65] at h
            refine q_if_eq_f (pc := 227) (tgt := 234) dX12_rounds_227 (by decide) (qb_t k65) ?_
            refine q_iconst (pc := 230) (v := nI 2) dX12_rounds_230 (by decide) ?_
            refine q_goto (pc := 231) (tgt := 235) dX12_rounds_231 (by decide) ?_
            obtain ⟨M66, h67, h⟩ := Option.bind_eq_some_iff.mp h
            refine q_iast (pc := 235) dX12_rounds_235 sh_29 h67 ?_
            refine q_aload_n (pc := 236) dX12_rounds_236 rfl ?_
            refine q_aload_n (pc := 237) dX12_rounds_237 rfl ?_
            refine q_getf (pc := 238) (f := 3) (v := .ref 29) dX12_rounds_238 sh_25 cl_11 inX12 rfl (by decide) lk_X12_19 rfl ?_
            obtain ⟨M70, h69, h⟩ := Option.bind_eq_some_iff.mp h
            refine q_callv (pc := 241) (st := []) (a_X12_yearGoes_at25_29 h69) okX12_yearGoes rfl dX12_rounds_241 lk_X12_208 sh_25 cl_11 rfl (by decide) (by decide) (Nat.le_of_ble_eq_true rfl) ⟨Nat.le_of_ble_eq_true rfl, Nat.le_of_ble_eq_true rfl⟩ rfl ?_
            show QW G (qrm 5 0 0) YX12_rounds 0 0 244 [some (.ref 25), some (.int x1), none, some (.int x3), some (.int x4), some (.int x5), some (.int x6), none, some (.int (c8 + (nI 1))), some (.int c9), some (.int c10)] [] SH M70 J _
            refine q_bipush (pc := 244) (v := nI 10) dX12_rounds_244 (by decide) ?_
            refine q_iload (pc := 246) dX12_rounds_246 rfl ?_
            refine q_imul (pc := 248) dX12_rounds_248 ?_
            refine q_aload_n (pc := 249) dX12_rounds_249 rfl ?_
            refine q_getf (pc := 250) (f := 23) (v := .ref 37) dX12_rounds_250 sh_25 cl_11 inX12 rfl (by decide) lk_X12_48 rfl ?_
            refine q_iload (pc := 253) dX12_rounds_253 rfl ?_
            obtain ⟨v71, h72, h⟩ := Option.bind_eq_some_iff.mp h
            refine q_iald (pc := 255) dX12_rounds_255 sh_37 h72 ?_
            refine q_iadd (pc := 256) dX12_rounds_256 ?_
            refine q_iconst (pc := 257) (v := nI 1) dX12_rounds_257 (by decide) ?_
            refine q_iadd (pc := 258) dX12_rounds_258 ?_
            refine q_istore (pc := 259) (ls' := [some (.ref 25), some (.int x1), none, some (.int x3), some (.int x4), some (.int x5), some (.int x6), none, some (.int (c8 + (nI 1))), some (.int ((((nI 10) * c9) + v71) + (nI 1))), some (.int c10)]) dX12_rounds_259 (by decide) rfl rfl ?_
            refine q_iincW (pc := 261) (w := nI 1) (ls' := [some (.ref 25), some (.int x1), none, some (.int x3), some (.int x4), some (.int x5), some (.int x6), none, some (.int (c8 + (nI 1))), some (.int ((((nI 10) * c9) + v71) + (nI 1))), some (.int (c10 + nI 1))]) dX12_rounds_261 rfl (by decide) (by decide) rfl rfl ?_
            refine q_goto (pc := 264) (tgt := 138) dX12_rounds_264 (by decide) ?_
            exact l_X12_rounds_L138 x1 x3 x4 x5 x6 J n (c8 + (nI 1)) ((((nI 10) * c9) + v71) + (nI 1)) (c10 + nI 1) M70 res h hk
          · rw [if_neg k65] at h
            refine q_if_eq_t (pc := 227) (tgt := 234) dX12_rounds_227 (by decide) (qb_f k65) ?_
            refine q_iconst (pc := 234) (v := nI 0) dX12_rounds_234 (by decide) ?_
            obtain ⟨M73, h74, h⟩ := Option.bind_eq_some_iff.mp h
            refine q_iast (pc := 235) dX12_rounds_235 sh_29 h74 ?_
            refine q_aload_n (pc := 236) dX12_rounds_236 rfl ?_
            refine q_aload_n (pc := 237) dX12_rounds_237 rfl ?_
            refine q_getf (pc := 238) (f := 3) (v := .ref 29) dX12_rounds_238 sh_25 cl_11 inX12 rfl (by decide) lk_X12_19 rfl ?_
            obtain ⟨M77, h76, h⟩ := Option.bind_eq_some_iff.mp h
            refine q_callv (pc := 241) (st := []) (a_X12_yearGoes_at25_29 h76) okX12_yearGoes rfl dX12_rounds_241 lk_X12_208 sh_25 cl_11 rfl (by decide) (by decide) (Nat.le_of_ble_eq_true rfl) ⟨Nat.le_of_ble_eq_true rfl, Nat.le_of_ble_eq_true rfl⟩ rfl ?_
            show QW G (qrm 5 0 0) YX12_rounds 0 0 244 [some (.ref 25), some (.int x1), none, some (.int x3), some (.int x4), some (.int x5), some (.int x6), none, some (.int (c8 + (nI 1))), some (.int c9), some (.int c10)] [] SH M77 J _
            refine q_bipush (pc := 244) (v := nI 10) dX12_rounds_244 (by decide) ?_
            refine q_iload (pc := 246) dX12_rounds_246 rfl ?_
            refine q_imul (pc := 248) dX12_rounds_248 ?_
            refine q_aload_n (pc := 249) dX12_rounds_249 rfl ?_
            refine q_getf (pc := 250) (f := 23) (v := .ref 37) dX12_rounds_250 sh_25 cl_11 inX12 rfl (by decide) lk_X12_48 rfl ?_
            refine q_iload (pc := 253) dX12_rounds_253 rfl ?_
            obtain ⟨v78, h79, h⟩ := Option.bind_eq_some_iff.mp h
            refine q_iald (pc := 255) dX12_rounds_255 sh_37 h79 ?_
            refine q_iadd (pc := 256) dX12_rounds_256 ?_
            refine q_iconst (pc := 257) (v := nI 1) dX12_rounds_257 (by decide) ?_
            refine q_iadd (pc := 258) dX12_rounds_258 ?_
            refine q_istore (pc := 259) (ls' := [some (.ref 25), some (.int x1), none, some (.int x3), some (.int x4), some (.int x5), some (.int x6), none, some (.int (c8 + (nI 1))), some (.int ((((nI 10) * c9) + v78) + (nI 1))), some (.int c10)]) dX12_rounds_259 (by decide) rfl rfl ?_
            refine q_iincW (pc := 261) (w := nI 1) (ls' := [some (.ref 25), some (.int x1), none, some (.int x3), some (.int x4), some (.int x5), some (.int x6), none, some (.int (c8 + (nI 1))), some (.int ((((nI 10) * c9) + v78) + (nI 1))), some (.int (c10 + nI 1))]) dX12_rounds_261 rfl (by decide) (by decide) rfl rfl ?_
            refine q_goto (pc := 264) (tgt := 138) dX12_rounds_264 (by decide) ?_
            exact l_X12_rounds_L138 x1 x3 x4 x5 x6 J n (c8 + (nI 1)) ((((nI 10) * c9) + v78) + (nI 1)) (c10 + nI 1) M77 res h hk
      · rw [if_neg k44] at h
        refine q_if_eq_t (pc := 163) (tgt := 170) dX12_rounds_163 (by decide) (qb_f k44) ?_
        refine q_iconst (pc := 170) (v := nI 0) dX12_rounds_170 (by decide) ?_
        refine q_iadd (pc := 171) dX12_rounds_171 ?_
        refine q_istore (pc := 172) (ls' := [some (.ref 25), some (.int x1), none, some (.int x3), some (.int x4), some (.int x5), some (.int x6), none, some (.int (c8 + (nI 0))), some (.int c9), some (.int c10)]) dX12_rounds_172 (by decide) rfl rfl ?_
        refine q_aload_n (pc := 174) dX12_rounds_174 rfl ?_
        refine q_getf (pc := 175) (f := 3) (v := .ref 29) dX12_rounds_175 sh_25 cl_11 inX12 rfl (by decide) lk_X12_19 rfl ?_
        refine q_bipush (pc := 178) (v := nI 7) dX12_rounds_178 (by decide) ?_
        refine q_aload_n (pc := 180) dX12_rounds_180 rfl ?_
        refine q_getf (pc := 181) (f := 23) (v := .ref 37) dX12_rounds_181 sh_25 cl_11 inX12 rfl (by decide) lk_X12_48 rfl ?_
        refine q_iload (pc := 184) dX12_rounds_184 rfl ?_
        obtain ⟨v80, h81, h⟩ := Option.bind_eq_some_iff.mp h
        refine q_iald (pc := 186) dX12_rounds_186 sh_37 h81 ?_
        refine q_iadd (pc := 187) dX12_rounds_187 ?_
        refine q_aload_n (pc := 188) dX12_rounds_188 rfl ?_
        refine q_aload_n (pc := 189) dX12_rounds_189 rfl ?_
        refine q_getf (pc := 190) (f := 3) (v := .ref 29) dX12_rounds_190 sh_25 cl_11 inX12 rfl (by decide) lk_X12_19 rfl ?_
        refine q_iload_n (pc := 193) dX12_rounds_193 rfl ?_
        refine q_aload_n (pc := 194) dX12_rounds_194 rfl ?_
        refine q_getf (pc := 195) (f := 23) (v := .ref 37) dX12_rounds_195 sh_25 cl_11 inX12 rfl (by decide) lk_X12_48 rfl ?_
        refine q_iload (pc := 198) dX12_rounds_198 rfl ?_
        obtain ⟨v82, h83, h⟩ := Option.bind_eq_some_iff.mp h
        refine q_iald (pc := 200) dX12_rounds_200 sh_37 h83 ?_
        obtain ⟨b86, h85, h⟩ := Option.bind_eq_some_iff.mp h
        refine q_callv (pc := 201) (st := [.int ((nI 7) + v80), .ref 29]) (a_X12_weds_at25_29 h85) okX12_weds rfl dX12_rounds_201 lk_X12_151 sh_25 cl_11 rfl (by decide) (by decide) (Nat.le_of_ble_eq_true rfl) ⟨Nat.le_of_ble_eq_true rfl, Nat.le_of_ble_eq_true rfl⟩ rfl ?_
        show QW G (qrm 5 0 0) YX12_rounds 0 0 204 [some (.ref 25), some (.int x1), none, some (.int x3), some (.int x4), some (.int x5), some (.int x6), none, some (.int (c8 + (nI 0))), some (.int c9), some (.int c10)] [.int (qb b86), .int ((nI 7) + v80), .ref 29] SH M J _
        by_cases k87 : b86 = true
        · rw [if_pos k87] at h
          refine q_if_eq_f (pc := 204) (tgt := 211) dX12_rounds_204 (by decide) (qb_t k87) ?_
          refine q_iconst (pc := 207) (v := nI 1) dX12_rounds_207 (by decide) ?_
          refine q_goto (pc := 208) (tgt := 235) dX12_rounds_208 (by decide) ?_
          obtain ⟨M88, h89, h⟩ := Option.bind_eq_some_iff.mp h
          refine q_iast (pc := 235) dX12_rounds_235 sh_29 h89 ?_
          refine q_aload_n (pc := 236) dX12_rounds_236 rfl ?_
          refine q_aload_n (pc := 237) dX12_rounds_237 rfl ?_
          refine q_getf (pc := 238) (f := 3) (v := .ref 29) dX12_rounds_238 sh_25 cl_11 inX12 rfl (by decide) lk_X12_19 rfl ?_
          obtain ⟨M92, h91, h⟩ := Option.bind_eq_some_iff.mp h
          refine q_callv (pc := 241) (st := []) (a_X12_yearGoes_at25_29 h91) okX12_yearGoes rfl dX12_rounds_241 lk_X12_208 sh_25 cl_11 rfl (by decide) (by decide) (Nat.le_of_ble_eq_true rfl) ⟨Nat.le_of_ble_eq_true rfl, Nat.le_of_ble_eq_true rfl⟩ rfl ?_
          show QW G (qrm 5 0 0) YX12_rounds 0 0 244 [some (.ref 25), some (.int x1), none, some (.int x3), some (.int x4), some (.int x5), some (.int x6), none, some (.int (c8 + (nI 0))), some (.int c9), some (.int c10)] [] SH M92 J _
          refine q_bipush (pc := 244) (v := nI 10) dX12_rounds_244 (by decide) ?_
          refine q_iload (pc := 246) dX12_rounds_246 rfl ?_
          refine q_imul (pc := 248) dX12_rounds_248 ?_
          refine q_aload_n (pc := 249) dX12_rounds_249 rfl ?_
          refine q_getf (pc := 250) (f := 23) (v := .ref 37) dX12_rounds_250 sh_25 cl_11 inX12 rfl (by decide) lk_X12_48 rfl ?_
          refine q_iload (pc := 253) dX12_rounds_253 rfl ?_
          obtain ⟨v93, h94, h⟩ := Option.bind_eq_some_iff.mp h
          refine q_iald (pc := 255) dX12_rounds_255 sh_37 h94 ?_
          refine q_iadd (pc := 256) dX12_rounds_256 ?_
          refine q_iconst (pc := 257) (v := nI 1) dX12_rounds_257 (by decide) ?_
          refine q_iadd (pc := 258) dX12_rounds_258 ?_
          refine q_istore (pc := 259) (ls' := [some (.ref 25), some (.int x1), none, some (.int x3), some (.int x4), some (.int x5), some (.int x6), none, some (.int (c8 + (nI 0))), some (.int ((((nI 10) * c9) + v93) + (nI 1))), some (.int c10)]) dX12_rounds_259 (by decide) rfl rfl ?_
          refine q_iincW (pc := 261) (w := nI 1) (ls' := [some (.ref 25), some (.int x1), none, some (.int x3), some (.int x4), some (.int x5), some (.int x6), none, some (.int (c8 + (nI 0))), some (.int ((((nI 10) * c9) + v93) + (nI 1))), some (.int (c10 + nI 1))]) dX12_rounds_261 rfl (by decide) (by decide) rfl rfl ?_
          refine q_goto (pc := 264) (tgt := 138) dX12_rounds_264 (by decide) ?_
          exact l_X12_rounds_L138 x1 x3 x4 x5 x6 J n (c8 + (nI 0)) ((((nI 10) * c9) + v93) + (nI 1)) (c10 + nI 1) M92 res h hk
        · rw [if_neg k87] at h
          refine q_if_eq_t (pc := 204) (tgt := 211) dX12_rounds_204 (by decide) (qb_f k87) ?_
          refine q_aload_n (pc := 211) dX12_rounds_211 rfl ?_
          refine q_aload_n (pc := 212) dX12_rounds_212 rfl ?_
          refine q_getf (pc := 213) (f := 3) (v := .ref 29) dX12_rounds_213 sh_25 cl_11 inX12 rfl (by decide) lk_X12_19 rfl ?_
          refine q_iload_n (pc := 216) dX12_rounds_216 rfl ?_
          refine q_aload_n (pc := 217) dX12_rounds_217 rfl ?_
          refine q_getf (pc := 218) (f := 23) (v := .ref 37) dX12_rounds_218 sh_25 cl_11 inX12 rfl (by decide) lk_X12_48 rfl ?_
          refine q_iload (pc := 221) dX12_rounds_221 rfl ?_
          obtain ⟨v95, h96, h⟩ := Option.bind_eq_some_iff.mp h
          refine q_iald (pc := 223) dX12_rounds_223 sh_37 h96 ?_
          obtain ⟨b99, h98, h⟩ := Option.bind_eq_some_iff.mp h
          refine q_callv (pc := 224) (st := [.int ((nI 7) + v80), .ref 29]) (a_X12_counts_at25_29 h98) okX12_counts rfl dX12_rounds_224 lk_X12_147 sh_25 cl_11 rfl (by decide) (by decide) (Nat.le_of_ble_eq_true rfl) ⟨Nat.le_of_ble_eq_true rfl, Nat.le_of_ble_eq_true rfl⟩ rfl ?_
          show QW G (qrm 5 0 0) YX12_rounds 0 0 227 [some (.ref 25), some (.int x1), none, some (.int x3), some (.int x4), some (.int x5), some (.int x6), none, some (.int (c8 + (nI 0))), some (.int c9), some (.int c10)] [.int (qb b99), .int ((nI 7) + v80), .ref 29] SH M J _
          by_cases k100 : b99 = true
          · rw [if_pos k100] at h
            refine q_if_eq_f (pc := 227) (tgt := 234) dX12_rounds_227 (by decide) (qb_t k100) ?_
            refine q_iconst (pc := 230) (v := nI 2) dX12_rounds_230 (by decide) ?_
            refine q_goto (pc := 231) (tgt := 235) dX12_rounds_231 (by decide) ?_
            obtain ⟨M101, h102, h⟩ := Option.bind_eq_some_iff.mp h
            refine q_iast (pc := 235) dX12_rounds_235 sh_29 h102 ?_
            refine q_aload_n (pc := 236) dX12_rounds_236 rfl ?_
            refine q_aload_n (pc := 237) dX12_rounds_237 rfl ?_
            refine q_getf (pc := 238) (f := 3) (v := .ref 29) dX12_rounds_238 sh_25 cl_11 inX12 rfl (by decide) lk_X12_19 rfl ?_
            obtain ⟨M105, h104, h⟩ := Option.bind_eq_some_iff.mp h
            refine q_callv (pc := 241) (st := []) (a_X12_yearGoes_at25_29 h104) okX12_yearGoes rfl dX12_rounds_241 lk_X12_208 sh_25 cl_11 rfl (by decide) (by decide) (Nat.le_of_ble_eq_true rfl) ⟨Nat.le_of_ble_eq_true rfl, Nat.le_of_ble_eq_true rfl⟩ rfl ?_
            show QW G (qrm 5 0 0) YX12_rounds 0 0 244 [some (.ref 25), some (.int x1), none, some (.int x3), some (.int x4), some (.int x5), some (.int x6), none, some (.int (c8 + (nI 0))), some (.int c9), some (.int c10)] [] SH M105 J _
            refine q_bipush (pc := 244) (v := nI 10) dX12_rounds_244 (by decide) ?_
            refine q_iload (pc := 246) dX12_rounds_246 rfl ?_
            refine q_imul (pc := 248) dX12_rounds_248 ?_
            refine q_aload_n (pc := 249) dX12_rounds_249 rfl ?_
            refine q_getf (pc := 250) (f := 23) (v := .ref 37) dX12_rounds_250 sh_25 cl_11 inX12 rfl (by decide) lk_X12_48 rfl ?_
            refine q_iload (pc := 253) dX12_rounds_253 rfl ?_
            obtain ⟨v106, h107, h⟩ := Option.bind_eq_some_iff.mp h
            refine q_iald (pc := 255) dX12_rounds_255 sh_37 h107 ?_
            refine q_iadd (pc := 256) dX12_rounds_256 ?_
            refine q_iconst (pc := 257) (v := nI 1) dX12_rounds_257 (by decide) ?_
            refine q_iadd (pc := 258) dX12_rounds_258 ?_
            refine q_istore (pc := 259) (ls' := [some (.ref 25), some (.int x1), none, some (.int x3), some (.int x4), some (.int x5), some (.int x6), none, some (.int (c8 + (nI 0))), some (.int ((((nI 10) * c9) + v106) + (nI 1))), some (.int c10)]) dX12_rounds_259 (by decide) rfl rfl ?_
            refine q_iincW (pc := 261) (w := nI 1) (ls' := [some (.ref 25), some (.int x1), none, some (.int x3), some (.int x4), some (.int x5), some (.int x6), none, some (.int (c8 + (nI 0))), some (.int ((((nI 10) * c9) + v106) + (nI 1))), some (.int (c10 + nI 1))]) dX12_rounds_261 rfl (by decide) (by decide) rfl rfl ?_
            refine q_goto (pc := 264) (tgt := 138) dX12_rounds_264 (by decide) ?_
            exact l_X12_rounds_L138 x1 x3 x4 x5 x6 J n (c8 + (nI 0)) ((((nI 10) * c9) + v106) + (nI 1)) (c10 + nI 1) M105 res h hk
          · rw [if_neg k100] at h
            refine q_if_eq_t (pc := 227) (tgt := 234) dX12_rounds_227 (by decide) (qb_f k100) ?_
            refine q_iconst (pc := 234) (v := nI 0) dX12_rounds_234 (by decide) ?_
            obtain ⟨M108, h109, h⟩ := Option.bind_eq_some_iff.mp h
            refine q_iast (pc := 235) dX12_rounds_235 sh_29 h109 ?_
            refine q_aload_n (pc := 236) dX12_rounds_236 rfl ?_
            refine q_aload_n (pc := 237) dX12_rounds_237 rfl ?_
            refine q_getf (pc := 238) (f := 3) (v := .ref 29) dX12_rounds_238 sh_25 cl_11 inX12 rfl (by decide) lk_X12_19 rfl ?_
            obtain ⟨M112, h111, h⟩ := Option.bind_eq_some_iff.mp h
            refine q_callv (pc := 241) (st := []) (a_X12_yearGoes_at25_29 h111) okX12_yearGoes rfl dX12_rounds_241 lk_X12_208 sh_25 cl_11 rfl (by decide) (by decide) (Nat.le_of_ble_eq_true rfl) ⟨Nat.le_of_ble_eq_true rfl, Nat.le_of_ble_eq_true rfl⟩ rfl ?_
            show QW G (qrm 5 0 0) YX12_rounds 0 0 244 [some (.ref 25), some (.int x1), none, some (.int x3), some (.int x4), some (.int x5), some (.int x6), none, some (.int (c8 + (nI 0))), some (.int c9), some (.int c10)] [] SH M112 J _
            refine q_bipush (pc := 244) (v := nI 10) dX12_rounds_244 (by decide) ?_
            refine q_iload (pc := 246) dX12_rounds_246 rfl ?_
            refine q_imul (pc := 248) dX12_rounds_248 ?_
            refine q_aload_n (pc := 249) dX12_rounds_249 rfl ?_
            refine q_getf (pc := 250) (f := 23) (v := .ref 37) dX12_rounds_250 sh_25 cl_11 inX12 rfl (by decide) lk_X12_48 rfl ?_
            refine q_iload (pc := 253) dX12_rounds_253 rfl ?_
            obtain ⟨v113, h114, h⟩ := Option.bind_eq_some_iff.mp h
            refine q_iald (pc := 255) dX12_rounds_255 sh_37 h114 ?_
            refine q_iadd (pc := 256) dX12_rounds_256 ?_
            refine q_iconst (pc := 257) (v := nI 1) dX12_rounds_257 (by decide) ?_
            refine q_iadd (pc := 258) dX12_rounds_258 ?_
            refine q_istore (pc := 259) (ls' := [some (.ref 25), some (.int x1), none, some (.int x3), some (.int x4), some (.int x5), some (.int x6), none, some (.int (c8 + (nI 0))), some (.int ((((nI 10) * c9) + v113) + (nI 1))), some (.int c10)]) dX12_rounds_259 (by decide) rfl rfl ?_
            refine q_iincW (pc := 261) (w := nI 1) (ls' := [some (.ref 25), some (.int x1), none, some (.int x3), some (.int x4), some (.int x5), some (.int x6), none, some (.int (c8 + (nI 0))), some (.int ((((nI 10) * c9) + v113) + (nI 1))), some (.int (c10 + nI 1))]) dX12_rounds_261 rfl (by decide) (by decide) rfl rfl ?_
            refine q_goto (pc := 264) (tgt := 138) dX12_rounds_264 (by decide) ?_
            exact l_X12_rounds_L138 x1 x3 x4 x5 x6 J n (c8 + (nI 0)) ((((nI 10) * c9) + v113) + (nI 1)) (c10 + nI 1) M112 res h hk
def f_X12_rounds_L120 (x1 : Int32) (x3 : Int32) (x4 : Int32) : Nat → Int32 → Int32 → Bool → qM → Option (Int32 × Int32 × Bool × qM)
  | 0, _, _, _, _ => none
  | n + 1, c5, c6, c7, M =>
  if c7 = true then (f_X12_layAside M).bind fun M37 => (f_X12_rounds_L138 x1 x3 x4 c5 c6 qF (nI 0) (nI 0) (nI 0) M37).bind fun e115 => if e115.1 ≤ c5 then (f_X12_greater c5 e115.1 e115.2.2.2).bind fun r120 => (f_X12_nextOrder x4 e115.2.2.2).bind fun p121 => f_X12_rounds_L120 x1 x3 x4 n r120 c6 p121.1 p121.2
    else (f_X12_greater c5 e115.1 e115.2.2.2).bind fun r127 => (f_X12_nextOrder x4 e115.2.2.2).bind fun p128 => f_X12_rounds_L120 x1 x3 x4 n r127 e115.2.1 p128.1 p128.2
    else some (c5, c6, c7, M)
set_option maxRecDepth 20000 in
set_option maxHeartbeats 4000000 in
theorem l_X12_rounds_L120 {G : qG} {ρ : qR} (x1 : Int32) (x3 : Int32) (x4 : Int32) (J : qJ) : ∀ (n : Nat) (c5 : Int32) (c6 : Int32) (c7 : Bool) (M : qM) (res : Int32 × Int32 × Bool × qM), f_X12_rounds_L120 x1 x3 x4 n c5 c6 c7 M = some res → (∀ x : Int32 × Int32 × Bool × qM, res = x → QW G (qrm 5 0 0) YX12_rounds 0 0 303 [none, none, none, some (.int x3), none, some (.int x.1), some (.int x.2.1), none, none, none, none] [] SH x.2.2.2 J ρ) → QW G (qrm 5 0 0) YX12_rounds 0 0 120 [some (.ref 25), some (.int x1), none, some (.int x3), some (.int x4), some (.int c5), some (.int c6), some (.int (qb c7)), none, none, none] [] SH M J ρ
  | 0, _, _, _, _, _, h, _ => by simp [f_X12_rounds_L120] at h
  | n + 1, c5, c6, c7, M, res, h, hk => by
    rw [f_X12_rounds_L120] at h
    refine q_iload (pc := 120) dX12_rounds_120 rfl ?_
    by_cases k34 : c7 = true
    · rw [if_pos k34] at h
      refine q_if_eq_f (pc := 122) (tgt := 303) dX12_rounds_122 (by decide) (qb_t k34) ?_
      refine q_iconst (pc := 125) (v := nI 0) dX12_rounds_125 (by decide) ?_
      refine q_istore (pc := 126) (ls' := [some (.ref 25), some (.int x1), none, some (.int x3), some (.int x4), some (.int c5), some (.int c6), some (.int (qb c7)), some (.int (nI 0)), none, none]) dX12_rounds_126 (by decide) rfl rfl ?_
      refine q_iconst (pc := 128) (v := nI 0) dX12_rounds_128 (by decide) ?_
      refine q_istore (pc := 129) (ls' := [some (.ref 25), some (.int x1), none, some (.int x3), some (.int x4), some (.int c5), some (.int c6), some (.int (qb c7)), some (.int (nI 0)), some (.int (nI 0)), none]) dX12_rounds_129 (by decide) rfl rfl ?_
      refine q_aload_n (pc := 131) dX12_rounds_131 rfl ?_
      obtain ⟨M37, h36, h⟩ := Option.bind_eq_some_iff.mp h
      refine q_callv (pc := 132) (st := []) (a_X12_layAside h36) okX12_layAside rfl dX12_rounds_132 lk_X12_236 sh_25 cl_11 rfl (by decide) (by decide) (Nat.le_of_ble_eq_true rfl) ⟨Nat.le_of_ble_eq_true rfl, Nat.le_of_ble_eq_true rfl⟩ rfl ?_
      show QW G (qrm 5 0 0) YX12_rounds 0 0 135 [some (.ref 25), some (.int x1), none, some (.int x3), some (.int x4), some (.int c5), some (.int c6), some (.int (qb c7)), some (.int (nI 0)), some (.int (nI 0)), none] [] SH M37 J _
      refine q_iconst (pc := 135) (v := nI 0) dX12_rounds_135 (by decide) ?_
      refine q_istore (pc := 136) (ls' := [some (.ref 25), some (.int x1), none, some (.int x3), some (.int x4), some (.int c5), some (.int c6), some (.int (qb c7)), some (.int (nI 0)), some (.int (nI 0)), some (.int (nI 0))]) dX12_rounds_136 (by decide) rfl rfl ?_
      refine q_weak (ls' := [some (.ref 25), some (.int x1), none, some (.int x3), some (.int x4), some (.int c5), some (.int c6), none, some (.int (nI 0)), some (.int (nI 0)), some (.int (nI 0))]) ⟨rfl, ⟨rfl, ⟨rfl, ⟨rfl, ⟨rfl, ⟨rfl, ⟨rfl, ⟨rfl, ⟨rfl, trivial⟩⟩⟩⟩⟩⟩⟩⟩⟩ ?_
      obtain ⟨⟨e115_8, e115_9, e115_10, M116⟩, h132, h⟩ := Option.bind_eq_some_iff.mp h
      try dsimp only at h
      refine l_X12_rounds_L138 x1 x3 x4 c5 c6 J qF (nI 0) (nI 0) (nI 0) M37 _ h132 (fun x hx => ?_)
      subst hx
      show QW G (qrm 5 0 0) YX12_rounds 0 0 267 [some (.ref 25), some (.int x1), none, some (.int x3), some (.int x4), some (.int c5), some (.int c6), none, some (.int e115_8), some (.int e115_9), none] [] SH M116 J _
      refine q_iload (pc := 267) dX12_rounds_267 rfl ?_
      refine q_iload (pc := 269) dX12_rounds_269 rfl ?_
      by_cases k117 : e115_8 ≤ c5
      · rw [if_pos k117] at h
        refine q_icmp_le_t (pc := 271) (tgt := 279) dX12_rounds_271 (by decide) k117 ?_
        refine q_iload (pc := 279) dX12_rounds_279 rfl ?_
        refine q_istore (pc := 281) (ls' := [some (.ref 25), some (.int x1), none, some (.int x3), some (.int x4), some (.int c5), some (.int c6), none, some (.int e115_8), some (.int e115_9), none]) dX12_rounds_281 (by decide) rfl rfl ?_
        refine q_iload (pc := 283) dX12_rounds_283 rfl ?_
        refine q_iload (pc := 285) dX12_rounds_285 rfl ?_
        obtain ⟨r120, h119, h⟩ := Option.bind_eq_some_iff.mp h
        refine q_calls (pc := 287) (st := []) (a_X12_greater h119) okX12_greater rfl dX12_rounds_287 lk_X12_239 rfl (by decide) (by decide) (Nat.le_of_ble_eq_true rfl) ⟨Nat.le_of_ble_eq_true rfl, Nat.le_of_ble_eq_true rfl⟩ rfl ?_
        show QW G (qrm 5 0 0) YX12_rounds 0 0 290 [some (.ref 25), some (.int x1), none, some (.int x3), some (.int x4), some (.int c5), some (.int c6), none, some (.int e115_8), some (.int e115_9), none] [.int r120] SH M116 J _
        refine q_istore (pc := 290) (ls' := [some (.ref 25), some (.int x1), none, some (.int x3), some (.int x4), some (.int r120), some (.int c6), none, some (.int e115_8), some (.int e115_9), none]) dX12_rounds_290 (by decide) rfl rfl ?_
        refine q_aload_n (pc := 292) dX12_rounds_292 rfl ?_
        refine q_iload (pc := 293) dX12_rounds_293 rfl ?_
        obtain ⟨⟨b123, M124⟩, h122, h⟩ := Option.bind_eq_some_iff.mp h
        try dsimp only at h
        refine q_callv (pc := 295) (st := []) (a_X12_nextOrder h122) okX12_nextOrder rfl dX12_rounds_295 lk_X12_250 sh_25 cl_11 rfl (by decide) (by decide) (Nat.le_of_ble_eq_true rfl) ⟨Nat.le_of_ble_eq_true rfl, Nat.le_of_ble_eq_true rfl⟩ rfl ?_
        show QW G (qrm 5 0 0) YX12_rounds 0 0 298 [some (.ref 25), some (.int x1), none, some (.int x3), some (.int x4), some (.int r120), some (.int c6), none, some (.int e115_8), some (.int e115_9), none] [.int (qb b123)] SH M124 J _
        refine q_istore (pc := 298) (ls' := [some (.ref 25), some (.int x1), none, some (.int x3), some (.int x4), some (.int r120), some (.int c6), some (.int (qb b123)), some (.int e115_8), some (.int e115_9), none]) dX12_rounds_298 (by decide) rfl rfl ?_
        refine q_goto (pc := 300) (tgt := 120) dX12_rounds_300 (by decide) ?_
        refine q_weak (ls' := [some (.ref 25), some (.int x1), none, some (.int x3), some (.int x4), some (.int r120), some (.int c6), some (.int (qb b123)), none, none, none]) ⟨rfl, ⟨rfl, ⟨rfl, ⟨rfl, ⟨rfl, ⟨rfl, ⟨rfl, trivial⟩⟩⟩⟩⟩⟩⟩ ?_
        exact l_X12_rounds_L120 x1 x3 x4 J n r120 c6 b123 M124 res h hk
      · rw [if_neg k117] at h
        refine q_icmp_le_f (pc := 271) (tgt := 279) dX12_rounds_271 (by decide) k117 ?_
        refine q_iload (pc := 274) dX12_rounds_274 rfl ?_
        refine q_goto (pc := 276) (tgt := 281) dX12_rounds_276 (by decide) ?_
        refine q_istore (pc := 281) (ls' := [some (.ref 25), some (.int x1), none, some (.int x3), some (.int x4), some (.int c5), some (.int e115_9), none, some (.int e115_8), some (.int e115_9), none]) dX12_rounds_281 (by decide) rfl rfl ?_
        refine q_iload (pc := 283) dX12_rounds_283 rfl ?_
        refine q_iload (pc := 285) dX12_rounds_285 rfl ?_
        obtain ⟨r127, h126, h⟩ := Option.bind_eq_some_iff.mp h
        refine q_calls (pc := 287) (st := []) (a_X12_greater h126) okX12_greater rfl dX12_rounds_287 lk_X12_239 rfl (by decide) (by decide) (Nat.le_of_ble_eq_true rfl) ⟨Nat.le_of_ble_eq_true rfl, Nat.le_of_ble_eq_true rfl⟩ rfl ?_
        show QW G (qrm 5 0 0) YX12_rounds 0 0 290 [some (.ref 25), some (.int x1), none, some (.int x3), some (.int x4), some (.int c5), some (.int e115_9), none, some (.int e115_8), some (.int e115_9), none] [.int r127] SH M116 J _
        refine q_istore (pc := 290) (ls' := [some (.ref 25), some (.int x1), none, some (.int x3), some (.int x4), some (.int r127), some (.int e115_9), none, some (.int e115_8), some (.int e115_9), none]) dX12_rounds_290 (by decide) rfl rfl ?_
        refine q_aload_n (pc := 292) dX12_rounds_292 rfl ?_
        refine q_iload (pc := 293) dX12_rounds_293 rfl ?_
        obtain ⟨⟨b130, M131⟩, h129, h⟩ := Option.bind_eq_some_iff.mp h
        try dsimp only at h
        refine q_callv (pc := 295) (st := []) (a_X12_nextOrder h129) okX12_nextOrder rfl dX12_rounds_295 lk_X12_250 sh_25 cl_11 rfl (by decide) (by decide) (Nat.le_of_ble_eq_true rfl) ⟨Nat.le_of_ble_eq_true rfl, Nat.le_of_ble_eq_true rfl⟩ rfl ?_
        show QW G (qrm 5 0 0) YX12_rounds 0 0 298 [some (.ref 25), some (.int x1), none, some (.int x3), some (.int x4), some (.int r127), some (.int e115_9), none, some (.int e115_8), some (.int e115_9), none] [.int (qb b130)] SH M131 J _
        refine q_istore (pc := 298) (ls' := [some (.ref 25), some (.int x1), none, some (.int x3), some (.int x4), some (.int r127), some (.int e115_9), some (.int (qb b130)), some (.int e115_8), some (.int e115_9), none]) dX12_rounds_298 (by decide) rfl rfl ?_
        refine q_goto (pc := 300) (tgt := 120) dX12_rounds_300 (by decide) ?_
        refine q_weak (ls' := [some (.ref 25), some (.int x1), none, some (.int x3), some (.int x4), some (.int r127), some (.int e115_9), some (.int (qb b130)), none, none, none]) ⟨rfl, ⟨rfl, ⟨rfl, ⟨rfl, ⟨rfl, ⟨rfl, ⟨rfl, trivial⟩⟩⟩⟩⟩⟩⟩ ?_
        exact l_X12_rounds_L120 x1 x3 x4 J n r127 e115_9 b130 M131 res h hk
    · rw [if_neg k34] at h
      refine q_if_eq_t (pc := 122) (tgt := 303) dX12_rounds_122 (by decide) (qb_f k34) ?_
      refine q_weak (ls' := [none, none, none, some (.int x3), none, some (.int c5), some (.int c6), none, none, none, none]) ⟨rfl, ⟨rfl, ⟨rfl, trivial⟩⟩⟩ ?_
      obtain rfl := Option.some.inj h
      exact hk (c5, c6, c7, M) rfl
def f_X12_rounds (a1 : Int32) (a2 : Int32) (a3 : Int32) (M : qM) : Option (Int32 × qM) :=
  (f_X12_isObjector a1 M).bind fun b3 => if b3 = true then (qrd M 26 57 (nI 1)).bind fun v5 => (f_X12_in a2.toInt64 (lN 0) ((((nI 1) <<< (v5 &&& 31)) - (nI 1)).toInt64) M).bind fun b9 => if b9 = true then (f_X12_in a3.toInt64 (lN 0) (lN 1) M).bind fun b13 => if b13 = true then (f_X12_those (nI 0) M).bind fun r17 => if (a2 &&& (r17 ^^^ (-1 : Int32))) = 0 then (f_X12_bits a2 M).bind fun r21 => if r21 ≤ (nI 5) then (f_X12_rounds_L73 a1 a2 a3 qF (nI 0) (nI 0) M).bind fun e32 => (f_X12_rounds_L120 a1 a3 e32.1 qF (-1 : Int32) (nI 0) true e32.2.2).bind fun e133 => if a3 = 0 then some (e133.1, e133.2.2.2)
    else some (e133.2.1, e133.2.2.2)
    else some ((-1000000003 : Int32), M)
    else some ((-1000000003 : Int32), M)
    else some ((-1000000002 : Int32), M)
    else some ((-1000000001 : Int32), M)
    else some ((-1000000001 : Int32), M)
set_option maxRecDepth 20000 in
set_option maxHeartbeats 4000000 in
theorem a_X12_rounds {G : qG} {a1 : Int32} {a2 : Int32} {a3 : Int32} {M : qM} {J : qJ} {r : Int32} {M' : qM} (h : f_X12_rounds a1 a2 a3 M = some (r, M')) : QM G 5 0 0 YX12_rounds [.ref 25, .int a1, .int a2, .int a3] SH M J (some (.int r), SH, M', J) := by
  refine ⟨Nat.le_of_ble_eq_true rfl, Or.inl rfl, ?_⟩
  show QW G (qrm 5 0 0) YX12_rounds 0 0 0 [some (.ref 25), some (.int a1), some (.int a2), some (.int a3), none, none, none, none, none, none, none] [] SH M J _
  unfold f_X12_rounds at h
  refine q_aload_n (pc := 0) dX12_rounds_0 rfl ?_
  refine q_iload_n (pc := 1) dX12_rounds_1 rfl ?_
  obtain ⟨b3, h2, h⟩ := Option.bind_eq_some_iff.mp h
  refine q_callv (pc := 2) (st := []) (a_X12_isObjector h2) okX12_isObjector rfl dX12_rounds_2 lk_X12_180 sh_25 cl_11 rfl (by decide) (by decide) (Nat.le_of_ble_eq_true rfl) ⟨Nat.le_of_ble_eq_true rfl, Nat.le_of_ble_eq_true rfl⟩ rfl ?_
  show QW G (qrm 5 0 0) YX12_rounds 0 0 5 [some (.ref 25), some (.int a1), some (.int a2), some (.int a3), none, none, none, none, none, none, none] [.int (qb b3)] SH M J _
  by_cases k4 : b3 = true
  · rw [if_pos k4] at h
    refine q_if_eq_f (pc := 5) (tgt := 28) dX12_rounds_5 (by decide) (qb_t k4) ?_
    refine q_iload_n (pc := 8) dX12_rounds_8 rfl ?_
    refine q_i2l (pc := 9) dX12_rounds_9 ?_
    refine q_lconst (pc := 10) (v := lN 0) dX12_rounds_10 rfl ?_
    refine q_iconst (pc := 11) (v := nI 1) dX12_rounds_11 (by decide) ?_
    refine q_aload_n (pc := 12) dX12_rounds_12 rfl ?_
    refine q_getf (pc := 13) (f := 0) (v := .ref 26) dX12_rounds_13 sh_25 cl_11 inX12 rfl (by decide) lk_X12_7 rfl ?_
    refine q_iconst (pc := 16) (v := nI 1) dX12_rounds_16 (by decide) ?_
    obtain ⟨v5, h6, h⟩ := Option.bind_eq_some_iff.mp h
    refine q_iald (pc := 17) dX12_rounds_17 sh_26 h6 ?_
    refine q_ishl (pc := 18) dX12_rounds_18 ?_
    refine q_iconst (pc := 19) (v := nI 1) dX12_rounds_19 (by decide) ?_
    refine q_isub (pc := 20) dX12_rounds_20 ?_
    refine q_i2l (pc := 21) dX12_rounds_21 ?_
    obtain ⟨b9, h8, h⟩ := Option.bind_eq_some_iff.mp h
    refine q_calls (pc := 22) (st := []) (a_X12_in h8) okX12_in rfl dX12_rounds_22 lk_X12_58 rfl (by decide) (by decide) (Nat.le_of_ble_eq_true rfl) ⟨Nat.le_of_ble_eq_true rfl, Nat.le_of_ble_eq_true rfl⟩ rfl ?_
    show QW G (qrm 5 0 0) YX12_rounds 0 0 25 [some (.ref 25), some (.int a1), some (.int a2), some (.int a3), none, none, none, none, none, none, none] [.int (qb b9)] SH M J _
    by_cases k10 : b9 = true
    · rw [if_pos k10] at h
      refine q_if_ne_t (pc := 25) (tgt := 31) dX12_rounds_25 (by decide) (qb_t k10) ?_
      refine q_iload_n (pc := 31) dX12_rounds_31 rfl ?_
      refine q_i2l (pc := 32) dX12_rounds_32 ?_
      refine q_lconst (pc := 33) (v := lN 0) dX12_rounds_33 rfl ?_
      refine q_lconst (pc := 34) (v := lN 1) dX12_rounds_34 rfl ?_
      obtain ⟨b13, h12, h⟩ := Option.bind_eq_some_iff.mp h
      refine q_calls (pc := 35) (st := []) (a_X12_in h12) okX12_in rfl dX12_rounds_35 lk_X12_58 rfl (by decide) (by decide) (Nat.le_of_ble_eq_true rfl) ⟨Nat.le_of_ble_eq_true rfl, Nat.le_of_ble_eq_true rfl⟩ rfl ?_
      show QW G (qrm 5 0 0) YX12_rounds 0 0 38 [some (.ref 25), some (.int a1), some (.int a2), some (.int a3), none, none, none, none, none, none, none] [.int (qb b13)] SH M J _
      by_cases k14 : b13 = true
      · rw [if_pos k14] at h
        refine q_if_ne_t (pc := 38) (tgt := 44) dX12_rounds_38 (by decide) (qb_t k14) ?_
        refine q_iload_n (pc := 44) dX12_rounds_44 rfl ?_
        refine q_aload_n (pc := 45) dX12_rounds_45 rfl ?_
        refine q_iconst (pc := 46) (v := nI 0) dX12_rounds_46 (by decide) ?_
        obtain ⟨r17, h16, h⟩ := Option.bind_eq_some_iff.mp h
        refine q_callv (pc := 47) (st := [.int a2]) (a_X12_those h16) okX12_those rfl dX12_rounds_47 lk_X12_154 sh_25 cl_11 rfl (by decide) (by decide) (Nat.le_of_ble_eq_true rfl) ⟨Nat.le_of_ble_eq_true rfl, Nat.le_of_ble_eq_true rfl⟩ rfl ?_
        show QW G (qrm 5 0 0) YX12_rounds 0 0 50 [some (.ref 25), some (.int a1), some (.int a2), some (.int a3), none, none, none, none, none, none, none] [.int r17, .int a2] SH M J _
        refine q_iconst (pc := 50) (v := (-1 : Int32)) dX12_rounds_50 (by decide) ?_
        refine q_ixor (pc := 51) dX12_rounds_51 ?_
        refine q_iand (pc := 52) dX12_rounds_52 ?_
        by_cases k18 : (a2 &&& (r17 ^^^ (-1 : Int32))) = 0
        · rw [if_pos k18] at h
          refine q_if_ne_f (pc := 53) (tgt := 64) dX12_rounds_53 (by decide) k18 ?_
          refine q_iload_n (pc := 56) dX12_rounds_56 rfl ?_
          obtain ⟨r21, h20, h⟩ := Option.bind_eq_some_iff.mp h
          refine q_calls (pc := 57) (st := []) (a_X12_bits h20) okX12_bits rfl dX12_rounds_57 lk_X12_161 rfl (by decide) (by decide) (Nat.le_of_ble_eq_true rfl) ⟨Nat.le_of_ble_eq_true rfl, Nat.le_of_ble_eq_true rfl⟩ rfl ?_
          show QW G (qrm 5 0 0) YX12_rounds 0 0 60 [some (.ref 25), some (.int a1), some (.int a2), some (.int a3), none, none, none, none, none, none, none] [.int r21] SH M J _
          refine q_iconst (pc := 60) (v := nI 5) dX12_rounds_60 (by decide) ?_
          by_cases k22 : r21 ≤ (nI 5)
          · rw [if_pos k22] at h
            refine q_icmp_le_t (pc := 61) (tgt := 67) dX12_rounds_61 (by decide) k22 ?_
            refine q_iconst (pc := 67) (v := nI 0) dX12_rounds_67 (by decide) ?_
            refine q_istore (pc := 68) (ls' := [some (.ref 25), some (.int a1), some (.int a2), some (.int a3), some (.int (nI 0)), none, none, none, none, none, none]) dX12_rounds_68 (by decide) rfl rfl ?_
            refine q_iconst (pc := 70) (v := nI 0) dX12_rounds_70 (by decide) ?_
            refine q_istore (pc := 71) (ls' := [some (.ref 25), some (.int a1), some (.int a2), some (.int a3), some (.int (nI 0)), some (.int (nI 0)), none, none, none, none, none]) dX12_rounds_71 (by decide) rfl rfl ?_
            obtain ⟨⟨e32_4, e32_5, M33⟩, h137, h⟩ := Option.bind_eq_some_iff.mp h
            try dsimp only at h
            refine l_X12_rounds_L73 a1 a2 a3 J qF (nI 0) (nI 0) M _ h137 (fun x hx => ?_)
            subst hx
            show QW G (qrm 5 0 0) YX12_rounds 0 0 111 [some (.ref 25), some (.int a1), none, some (.int a3), some (.int e32_4), none, none, none, none, none, none] [] SH M33 J _
            refine q_iconst (pc := 111) (v := (-1 : Int32)) dX12_rounds_111 (by decide) ?_
            refine q_istore (pc := 112) (ls' := [some (.ref 25), some (.int a1), none, some (.int a3), some (.int e32_4), some (.int (-1 : Int32)), none, none, none, none, none]) dX12_rounds_112 (by decide) rfl rfl ?_
            refine q_iconst (pc := 114) (v := nI 0) dX12_rounds_114 (by decide) ?_
            refine q_istore (pc := 115) (ls' := [some (.ref 25), some (.int a1), none, some (.int a3), some (.int e32_4), some (.int (-1 : Int32)), some (.int (nI 0)), none, none, none, none]) dX12_rounds_115 (by decide) rfl rfl ?_
            refine q_iconst (pc := 117) (v := nI 1) dX12_rounds_117 (by decide) ?_
            refine q_istore (pc := 118) (ls' := [some (.ref 25), some (.int a1), none, some (.int a3), some (.int e32_4), some (.int (-1 : Int32)), some (.int (nI 0)), some (.int (nI 1)), none, none, none]) dX12_rounds_118 (by decide) rfl rfl ?_
            obtain ⟨⟨e133_5, e133_6, e133_7, M134⟩, h136, h⟩ := Option.bind_eq_some_iff.mp h
            try dsimp only at h
            refine l_X12_rounds_L120 a1 a3 e32_4 J qF (-1 : Int32) (nI 0) true M33 _ h136 (fun x hx => ?_)
            subst hx
            show QW G (qrm 5 0 0) YX12_rounds 0 0 303 [none, none, none, some (.int a3), none, some (.int e133_5), some (.int e133_6), none, none, none, none] [] SH M134 J _
            refine q_iload_n (pc := 303) dX12_rounds_303 rfl ?_
            by_cases k135 : a3 = 0
            · rw [if_pos k135] at h
              refine q_if_ne_f (pc := 304) (tgt := 312) dX12_rounds_304 (by decide) k135 ?_
              refine q_iload (pc := 307) dX12_rounds_307 rfl ?_
              refine q_goto (pc := 309) (tgt := 314) dX12_rounds_309 (by decide) ?_
              have h := Option.some.inj h
              obtain ⟨rfl, rfl⟩ := Prod.mk.inj h
              exact q_iret (pc := 314) dX12_rounds_314 rfl rfl rfl
            · rw [if_neg k135] at h
              refine q_if_ne_t (pc := 304) (tgt := 312) dX12_rounds_304 (by decide) k135 ?_
              refine q_iload (pc := 312) dX12_rounds_312 rfl ?_
              have h := Option.some.inj h
              obtain ⟨rfl, rfl⟩ := Prod.mk.inj h
              exact q_iret (pc := 314) dX12_rounds_314 rfl rfl rfl
          · rw [if_neg k22] at h
            refine q_icmp_le_f (pc := 61) (tgt := 67) dX12_rounds_61 (by decide) k22 ?_
            refine q_ldc (pc := 64) (v := (-1000000003 : Int32)) dX12_rounds_64 lk_X12_192 ?_
            have h := Option.some.inj h
            obtain ⟨rfl, rfl⟩ := Prod.mk.inj h
            exact q_iret (pc := 66) dX12_rounds_66 rfl rfl rfl
        · rw [if_neg k18] at h
          refine q_if_ne_t (pc := 53) (tgt := 64) dX12_rounds_53 (by decide) k18 ?_
          refine q_ldc (pc := 64) (v := (-1000000003 : Int32)) dX12_rounds_64 lk_X12_192 ?_
          have h := Option.some.inj h
          obtain ⟨rfl, rfl⟩ := Prod.mk.inj h
          exact q_iret (pc := 66) dX12_rounds_66 rfl rfl rfl
      · rw [if_neg k14] at h
        refine q_if_ne_f (pc := 38) (tgt := 44) dX12_rounds_38 (by decide) (qb_f k14) ?_
        refine q_ldc (pc := 41) (v := (-1000000002 : Int32)) dX12_rounds_41 lk_X12_77 ?_
        have h := Option.some.inj h
        obtain ⟨rfl, rfl⟩ := Prod.mk.inj h
        exact q_iret (pc := 43) dX12_rounds_43 rfl rfl rfl
    · rw [if_neg k10] at h
      refine q_if_ne_f (pc := 25) (tgt := 31) dX12_rounds_25 (by decide) (qb_f k10) ?_
      refine q_ldc (pc := 28) (v := (-1000000001 : Int32)) dX12_rounds_28 lk_X12_176 ?_
      have h := Option.some.inj h
      obtain ⟨rfl, rfl⟩ := Prod.mk.inj h
      exact q_iret (pc := 30) dX12_rounds_30 rfl rfl rfl
  · rw [if_neg k4] at h
    refine q_if_eq_t (pc := 5) (tgt := 28) dX12_rounds_5 (by decide) (qb_f k4) ?_
    refine q_ldc (pc := 28) (v := (-1000000001 : Int32)) dX12_rounds_28 lk_X12_176 ?_
    have h := Option.some.inj h
    obtain ⟨rfl, rfl⟩ := Prod.mk.inj h
    exact q_iret (pc := 30) dX12_rounds_30 rfl rfl rfl
def f_X12_holds_L36 (x1 : Int32) (x2 : Int32) (M : qM) : Nat → Int32 → Int32 → Option (Int32 × Int32)
  | 0, _, _ => none
  | n + 1, c3, c4 =>
  (qrd M 26 57 (nI 2)).bind fun v11 => if v11 ≤ c4 then some (c3, c4)
    else (f_X12_has x2 c4 M).bind fun b16 => if b16 = true then (f_X12_counts_at25_28 c4 x1 M).bind fun b20 => if b20 = true then (f_X12_strengthOn_at25_28 c4 x1 M).bind fun r24 => (f_X12_greater c3 r24 M).bind fun r27 => f_X12_holds_L36 x1 x2 M n r27 (c4 + nI 1)
    else f_X12_holds_L36 x1 x2 M n c3 (c4 + nI 1)
    else f_X12_holds_L36 x1 x2 M n c3 (c4 + nI 1)
set_option maxRecDepth 20000 in
set_option maxHeartbeats 4000000 in
theorem l_X12_holds_L36 {G : qG} {ρ : qR} (x1 : Int32) (x2 : Int32) (M : qM) (J : qJ) : ∀ (n : Nat) (c3 : Int32) (c4 : Int32) (res : Int32 × Int32), f_X12_holds_L36 x1 x2 M n c3 c4 = some res → (∀ x : Int32 × Int32, res = x → QW G (qrm 4 0 0) YX12_holds 0 0 96 [none, none, none, some (.int x.1), none] [] SH M J ρ) → QW G (qrm 4 0 0) YX12_holds 0 0 36 [some (.ref 25), some (.int x1), some (.int x2), some (.int c3), some (.int c4)] [] SH M J ρ
  | 0, _, _, _, h, _ => by simp [f_X12_holds_L36] at h
  | n + 1, c3, c4, res, h, hk => by
    rw [f_X12_holds_L36] at h
    refine q_iload (pc := 36) dX12_holds_36 rfl ?_
    refine q_aload_n (pc := 38) dX12_holds_38 rfl ?_
    refine q_getf (pc := 39) (f := 0) (v := .ref 26) dX12_holds_39 sh_25 cl_11 inX12 rfl (by decide) lk_X12_7 rfl ?_
    refine q_iconst (pc := 42) (v := nI 2) dX12_holds_42 (by decide) ?_
    obtain ⟨v11, h12, h⟩ := Option.bind_eq_some_iff.mp h
    refine q_iald (pc := 43) dX12_holds_43 sh_26 h12 ?_
    by_cases k13 : v11 ≤ c4
    · rw [if_pos k13] at h
      refine q_icmp_ge_t (pc := 44) (tgt := 96) dX12_holds_44 (by decide) k13 ?_
      refine q_weak (ls' := [none, none, none, some (.int c3), none]) ⟨rfl, trivial⟩ ?_
      obtain rfl := Option.some.inj h
      exact hk (c3, c4) rfl
    · rw [if_neg k13] at h
      refine q_icmp_ge_f (pc := 44) (tgt := 96) dX12_holds_44 (by decide) k13 ?_
      refine q_iload_n (pc := 47) dX12_holds_47 rfl ?_
      refine q_iload (pc := 48) dX12_holds_48 rfl ?_
      obtain ⟨b16, h15, h⟩ := Option.bind_eq_some_iff.mp h
      refine q_calls (pc := 50) (st := []) (a_X12_has h15) okX12_has rfl dX12_holds_50 lk_X12_132 rfl (by decide) (by decide) (Nat.le_of_ble_eq_true rfl) ⟨Nat.le_of_ble_eq_true rfl, Nat.le_of_ble_eq_true rfl⟩ rfl ?_
      show QW G (qrm 4 0 0) YX12_holds 0 0 53 [some (.ref 25), some (.int x1), some (.int x2), some (.int c3), some (.int c4)] [.int (qb b16)] SH M J _
      by_cases k17 : b16 = true
      · rw [if_pos k17] at h
        refine q_if_eq_f (pc := 53) (tgt := 88) dX12_holds_53 (by decide) (qb_t k17) ?_
        refine q_aload_n (pc := 56) dX12_holds_56 rfl ?_
        refine q_aload_n (pc := 57) dX12_holds_57 rfl ?_
        refine q_getf (pc := 58) (f := 2) (v := .ref 28) dX12_holds_58 sh_25 cl_11 inX12 rfl (by decide) lk_X12_16 rfl ?_
        refine q_iload (pc := 61) dX12_holds_61 rfl ?_
        refine q_iload_n (pc := 63) dX12_holds_63 rfl ?_
        obtain ⟨b20, h19, h⟩ := Option.bind_eq_some_iff.mp h
        refine q_callv (pc := 64) (st := []) (a_X12_counts_at25_28 h19) okX12_counts rfl dX12_holds_64 lk_X12_147 sh_25 cl_11 rfl (by decide) (by decide) (Nat.le_of_ble_eq_true rfl) ⟨Nat.le_of_ble_eq_true rfl, Nat.le_of_ble_eq_true rfl⟩ rfl ?_
        show QW G (qrm 4 0 0) YX12_holds 0 0 67 [some (.ref 25), some (.int x1), some (.int x2), some (.int c3), some (.int c4)] [.int (qb b20)] SH M J _
        by_cases k21 : b20 = true
        · rw [if_pos k21] at h
          refine q_if_eq_f (pc := 67) (tgt := 88) dX12_holds_67 (by decide) (qb_t k21) ?_
          refine q_iload_n (pc := 70) dX12_holds_70 rfl ?_
          refine q_aload_n (pc := 71) dX12_holds_71 rfl ?_
          refine q_aload_n (pc := 72) dX12_holds_72 rfl ?_
          refine q_getf (pc := 73) (f := 2) (v := .ref 28) dX12_holds_73 sh_25 cl_11 inX12 rfl (by decide) lk_X12_16 rfl ?_
          refine q_iload (pc := 76) dX12_holds_76 rfl ?_
          refine q_iload_n (pc := 78) dX12_holds_78 rfl ?_
          obtain ⟨r24, h23, h⟩ := Option.bind_eq_some_iff.mp h
          refine q_callv (pc := 79) (st := [.int c3]) (a_X12_strengthOn_at25_28 h23) okX12_strengthOn rfl dX12_holds_79 lk_X12_144 sh_25 cl_11 rfl (by decide) (by decide) (Nat.le_of_ble_eq_true rfl) ⟨Nat.le_of_ble_eq_true rfl, Nat.le_of_ble_eq_true rfl⟩ rfl ?_
          show QW G (qrm 4 0 0) YX12_holds 0 0 82 [some (.ref 25), some (.int x1), some (.int x2), some (.int c3), some (.int c4)] [.int r24, .int c3] SH M J _
          obtain ⟨r27, h26, h⟩ := Option.bind_eq_some_iff.mp h
          refine q_calls (pc := 82) (st := []) (a_X12_greater h26) okX12_greater rfl dX12_holds_82 lk_X12_239 rfl (by decide) (by decide) (Nat.le_of_ble_eq_true rfl) ⟨Nat.le_of_ble_eq_true rfl, Nat.le_of_ble_eq_true rfl⟩ rfl ?_
          show QW G (qrm 4 0 0) YX12_holds 0 0 85 [some (.ref 25), some (.int x1), some (.int x2), some (.int c3), some (.int c4)] [.int r27] SH M J _
          refine q_goto (pc := 85) (tgt := 89) dX12_holds_85 (by decide) ?_
          refine q_istore_n (pc := 89) (ls' := [some (.ref 25), some (.int x1), some (.int x2), some (.int r27), some (.int c4)]) dX12_holds_89 (by decide) rfl rfl ?_
          refine q_iincW (pc := 90) (w := nI 1) (ls' := [some (.ref 25), some (.int x1), some (.int x2), some (.int r27), some (.int (c4 + nI 1))]) dX12_holds_90 rfl (by decide) (by decide) rfl rfl ?_
          refine q_goto (pc := 93) (tgt := 36) dX12_holds_93 (by decide) ?_
          exact l_X12_holds_L36 x1 x2 M J n r27 (c4 + nI 1) res h hk
        · rw [if_neg k21] at h
          refine q_if_eq_t (pc := 67) (tgt := 88) dX12_holds_67 (by decide) (qb_f k21) ?_
          refine q_iload_n (pc := 88) dX12_holds_88 rfl ?_
          refine q_istore_n (pc := 89) (ls' := [some (.ref 25), some (.int x1), some (.int x2), some (.int c3), some (.int c4)]) dX12_holds_89 (by decide) rfl rfl ?_
          refine q_iincW (pc := 90) (w := nI 1) (ls' := [some (.ref 25), some (.int x1), some (.int x2), some (.int c3), some (.int (c4 + nI 1))]) dX12_holds_90 rfl (by decide) (by decide) rfl rfl ?_
          refine q_goto (pc := 93) (tgt := 36) dX12_holds_93 (by decide) ?_
          exact l_X12_holds_L36 x1 x2 M J n c3 (c4 + nI 1) res h hk
      · rw [if_neg k17] at h
        refine q_if_eq_t (pc := 53) (tgt := 88) dX12_holds_53 (by decide) (qb_f k17) ?_
        refine q_iload_n (pc := 88) dX12_holds_88 rfl ?_
        refine q_istore_n (pc := 89) (ls' := [some (.ref 25), some (.int x1), some (.int x2), some (.int c3), some (.int c4)]) dX12_holds_89 (by decide) rfl rfl ?_
        refine q_iincW (pc := 90) (w := nI 1) (ls' := [some (.ref 25), some (.int x1), some (.int x2), some (.int c3), some (.int (c4 + nI 1))]) dX12_holds_90 rfl (by decide) (by decide) rfl rfl ?_
        refine q_goto (pc := 93) (tgt := 36) dX12_holds_93 (by decide) ?_
        exact l_X12_holds_L36 x1 x2 M J n c3 (c4 + nI 1) res h hk
def f_X12_holds (a1 : Int32) (a2 : Int32) (M : qM) : Option Int32 :=
  (f_X12_isCouple a1 M).bind fun b3 => if b3 = true then (qrd M 26 57 (nI 2)).bind fun v5 => (f_X12_in a2.toInt64 (lN 0) ((((nI 1) <<< (v5 &&& 31)) - (nI 1)).toInt64) M).bind fun b9 => if b9 = true then (f_X12_holds_L36 a1 a2 M qF (nI 0) (nI 0)).bind fun e28 => some (e28.1)
    else some ((-1000000001 : Int32))
    else some ((-1000000001 : Int32))
set_option maxRecDepth 20000 in
set_option maxHeartbeats 4000000 in
theorem a_X12_holds {G : qG} {a1 : Int32} {a2 : Int32} {M : qM} {J : qJ} {r : Int32} (h : f_X12_holds a1 a2 M = some (r)) : QM G 4 0 0 YX12_holds [.ref 25, .int a1, .int a2] SH M J (some (.int r), SH, M, J) := by
  refine ⟨Nat.le_of_ble_eq_true rfl, Or.inl rfl, ?_⟩
  show QW G (qrm 4 0 0) YX12_holds 0 0 0 [some (.ref 25), some (.int a1), some (.int a2), none, none] [] SH M J _
  unfold f_X12_holds at h
  refine q_aload_n (pc := 0) dX12_holds_0 rfl ?_
  refine q_iload_n (pc := 1) dX12_holds_1 rfl ?_
  obtain ⟨b3, h2, h⟩ := Option.bind_eq_some_iff.mp h
  refine q_callv (pc := 2) (st := []) (a_X12_isCouple h2) okX12_isCouple rfl dX12_holds_2 lk_X12_173 sh_25 cl_11 rfl (by decide) (by decide) (Nat.le_of_ble_eq_true rfl) ⟨Nat.le_of_ble_eq_true rfl, Nat.le_of_ble_eq_true rfl⟩ rfl ?_
  show QW G (qrm 4 0 0) YX12_holds 0 0 5 [some (.ref 25), some (.int a1), some (.int a2), none, none] [.int (qb b3)] SH M J _
  by_cases k4 : b3 = true
  · rw [if_pos k4] at h
    refine q_if_eq_f (pc := 5) (tgt := 28) dX12_holds_5 (by decide) (qb_t k4) ?_
    refine q_iload_n (pc := 8) dX12_holds_8 rfl ?_
    refine q_i2l (pc := 9) dX12_holds_9 ?_
    refine q_lconst (pc := 10) (v := lN 0) dX12_holds_10 rfl ?_
    refine q_iconst (pc := 11) (v := nI 1) dX12_holds_11 (by decide) ?_
    refine q_aload_n (pc := 12) dX12_holds_12 rfl ?_
    refine q_getf (pc := 13) (f := 0) (v := .ref 26) dX12_holds_13 sh_25 cl_11 inX12 rfl (by decide) lk_X12_7 rfl ?_
    refine q_iconst (pc := 16) (v := nI 2) dX12_holds_16 (by decide) ?_
    obtain ⟨v5, h6, h⟩ := Option.bind_eq_some_iff.mp h
    refine q_iald (pc := 17) dX12_holds_17 sh_26 h6 ?_
    refine q_ishl (pc := 18) dX12_holds_18 ?_
    refine q_iconst (pc := 19) (v := nI 1) dX12_holds_19 (by decide) ?_
    refine q_isub (pc := 20) dX12_holds_20 ?_
    refine q_i2l (pc := 21) dX12_holds_21 ?_
    obtain ⟨b9, h8, h⟩ := Option.bind_eq_some_iff.mp h
    refine q_calls (pc := 22) (st := []) (a_X12_in h8) okX12_in rfl dX12_holds_22 lk_X12_58 rfl (by decide) (by decide) (Nat.le_of_ble_eq_true rfl) ⟨Nat.le_of_ble_eq_true rfl, Nat.le_of_ble_eq_true rfl⟩ rfl ?_
    show QW G (qrm 4 0 0) YX12_holds 0 0 25 [some (.ref 25), some (.int a1), some (.int a2), none, none] [.int (qb b9)] SH M J _
    by_cases k10 : b9 = true
    · rw [if_pos k10] at h
      refine q_if_ne_t (pc := 25) (tgt := 31) dX12_holds_25 (by decide) (qb_t k10) ?_
      refine q_iconst (pc := 31) (v := nI 0) dX12_holds_31 (by decide) ?_
      refine q_istore_n (pc := 32) (ls' := [some (.ref 25), some (.int a1), some (.int a2), some (.int (nI 0)), none]) dX12_holds_32 (by decide) rfl rfl ?_
      refine q_iconst (pc := 33) (v := nI 0) dX12_holds_33 (by decide) ?_
      refine q_istore (pc := 34) (ls' := [some (.ref 25), some (.int a1), some (.int a2), some (.int (nI 0)), some (.int (nI 0))]) dX12_holds_34 (by decide) rfl rfl ?_
      obtain ⟨⟨e28_3, e28_4⟩, h29, h⟩ := Option.bind_eq_some_iff.mp h
      try dsimp only at h
      refine l_X12_holds_L36 a1 a2 M J qF (nI 0) (nI 0) _ h29 (fun x hx => ?_)
      subst hx
      show QW G (qrm 4 0 0) YX12_holds 0 0 96 [none, none, none, some (.int e28_3), none] [] SH M J _
      refine q_iload_n (pc := 96) dX12_holds_96 rfl ?_
      obtain rfl := Option.some.inj h
      exact q_iret (pc := 97) dX12_holds_97 rfl rfl rfl
    · rw [if_neg k10] at h
      refine q_if_ne_f (pc := 25) (tgt := 31) dX12_holds_25 (by decide) (qb_f k10) ?_
      refine q_ldc (pc := 28) (v := (-1000000001 : Int32)) dX12_holds_28 lk_X12_176 ?_
      obtain rfl := Option.some.inj h
      exact q_iret (pc := 30) dX12_holds_30 rfl rfl rfl
  · rw [if_neg k4] at h
    refine q_if_eq_t (pc := 5) (tgt := 28) dX12_holds_5 (by decide) (qb_f k4) ?_
    refine q_ldc (pc := 28) (v := (-1000000001 : Int32)) dX12_holds_28 lk_X12_176 ?_
    obtain rfl := Option.some.inj h
    exact q_iret (pc := 30) dX12_holds_30 rfl rfl rfl
def f_X12_dry_L34 (x1 : Int32) (x2 : Int32) (M : qM) : Nat → Int64 → Int32 → Option (Int64 × Int32)
  | 0, _, _ => none
  | n + 1, c3, c5 =>
  if x1 ≤ c5 then some (c3, c5)
    else (qldiv (c3 * x2.toInt64) (lN 100)).bind fun v10 => f_X12_dry_L34 x1 x2 M n v10 (c5 + nI 1)
set_option maxRecDepth 20000 in
set_option maxHeartbeats 4000000 in
theorem l_X12_dry_L34 {G : qG} {ρ : qR} (x1 : Int32) (x2 : Int32) (M : qM) (J : qJ) : ∀ (n : Nat) (c3 : Int64) (c5 : Int32) (res : Int64 × Int32), f_X12_dry_L34 x1 x2 M n c3 c5 = some res → (∀ x : Int64 × Int32, res = x → QW G (qrm 1 0 0) YX12_dry 0 0 55 [none, none, none, some (.long x.1), none, none] [] SH M J ρ) → QW G (qrm 1 0 0) YX12_dry 0 0 34 [none, some (.int x1), some (.int x2), some (.long c3), none, some (.int c5)] [] SH M J ρ
  | 0, _, _, _, h, _ => by simp [f_X12_dry_L34] at h
  | n + 1, c3, c5, res, h, hk => by
    rw [f_X12_dry_L34] at h
    refine q_iload (pc := 34) dX12_dry_34 rfl ?_
    refine q_iload_n (pc := 36) dX12_dry_36 rfl ?_
    by_cases k9 : x1 ≤ c5
    · rw [if_pos k9] at h
      refine q_icmp_ge_t (pc := 37) (tgt := 55) dX12_dry_37 (by decide) k9 ?_
      refine q_weak (ls' := [none, none, none, some (.long c3), none, none]) ⟨rfl, trivial⟩ ?_
      obtain rfl := Option.some.inj h
      exact hk (c3, c5) rfl
    · rw [if_neg k9] at h
      refine q_icmp_ge_f (pc := 37) (tgt := 55) dX12_dry_37 (by decide) k9 ?_
      refine q_lload_n (pc := 40) dX12_dry_40 rfl ?_
      refine q_iload_n (pc := 41) dX12_dry_41 rfl ?_
      refine q_i2l (pc := 42) dX12_dry_42 ?_
      refine q_lmul (pc := 43) dX12_dry_43 ?_
      refine q_ldc2 (pc := 44) (v := lN 100) dX12_dry_44 lk_X12_253 ?_
      obtain ⟨v10, h11, h⟩ := Option.bind_eq_some_iff.mp h
      refine q_ldiv (pc := 47) dX12_dry_47 h11 ?_
      refine q_lstore_n (pc := 48) (ls' := [none, some (.int x1), some (.int x2), some (.long v10), none, some (.int c5)]) dX12_dry_48 (by decide) rfl rfl ?_
      refine q_iincW (pc := 49) (w := nI 1) (ls' := [none, some (.int x1), some (.int x2), some (.long v10), none, some (.int (c5 + nI 1))]) dX12_dry_49 rfl (by decide) (by decide) rfl rfl ?_
      refine q_goto (pc := 52) (tgt := 34) dX12_dry_52 (by decide) ?_
      exact l_X12_dry_L34 x1 x2 M J n v10 (c5 + nI 1) res h hk
def f_X12_dry (a1 : Int32) (a2 : Int32) (M : qM) : Option Int32 :=
  (f_X12_in a1.toInt64 (lN 0) (lN 60) M).bind fun b3 => if b3 = true then (f_X12_in a2.toInt64 (lN 0) (lN 100) M).bind fun b7 => if b7 = true then (f_X12_dry_L34 a1 a2 M qF (lN 1000000000) (nI 0)).bind fun e12 => some (e12.1.toInt32)
    else some ((-1000000002 : Int32))
    else some ((-1000000002 : Int32))
set_option maxRecDepth 20000 in
set_option maxHeartbeats 4000000 in
theorem a_X12_dry {G : qG} {a1 : Int32} {a2 : Int32} {M : qM} {J : qJ} {r : Int32} (h : f_X12_dry a1 a2 M = some (r)) : QM G 1 0 0 YX12_dry [.ref 25, .int a1, .int a2] SH M J (some (.int r), SH, M, J) := by
  refine ⟨Nat.le_of_ble_eq_true rfl, Or.inl rfl, ?_⟩
  show QW G (qrm 1 0 0) YX12_dry 0 0 0 [some (.ref 25), some (.int a1), some (.int a2), none, none, none] [] SH M J _
  unfold f_X12_dry at h
  refine q_iload_n (pc := 0) dX12_dry_0 rfl ?_
  refine q_i2l (pc := 1) dX12_dry_1 ?_
  refine q_lconst (pc := 2) (v := lN 0) dX12_dry_2 rfl ?_
  refine q_ldc2 (pc := 3) (v := lN 60) dX12_dry_3 lk_X12_203 ?_
  obtain ⟨b3, h2, h⟩ := Option.bind_eq_some_iff.mp h
  refine q_calls (pc := 6) (st := []) (a_X12_in h2) okX12_in rfl dX12_dry_6 lk_X12_58 rfl (by decide) (by decide) (Nat.le_of_ble_eq_true rfl) ⟨Nat.le_of_ble_eq_true rfl, Nat.le_of_ble_eq_true rfl⟩ rfl ?_
  show QW G (qrm 1 0 0) YX12_dry 0 0 9 [some (.ref 25), some (.int a1), some (.int a2), none, none, none] [.int (qb b3)] SH M J _
  by_cases k4 : b3 = true
  · rw [if_pos k4] at h
    refine q_if_eq_f (pc := 9) (tgt := 24) dX12_dry_9 (by decide) (qb_t k4) ?_
    refine q_iload_n (pc := 12) dX12_dry_12 rfl ?_
    refine q_i2l (pc := 13) dX12_dry_13 ?_
    refine q_lconst (pc := 14) (v := lN 0) dX12_dry_14 rfl ?_
    refine q_ldc2 (pc := 15) (v := lN 100) dX12_dry_15 lk_X12_253 ?_
    obtain ⟨b7, h6, h⟩ := Option.bind_eq_some_iff.mp h
    refine q_calls (pc := 18) (st := []) (a_X12_in h6) okX12_in rfl dX12_dry_18 lk_X12_58 rfl (by decide) (by decide) (Nat.le_of_ble_eq_true rfl) ⟨Nat.le_of_ble_eq_true rfl, Nat.le_of_ble_eq_true rfl⟩ rfl ?_
    show QW G (qrm 1 0 0) YX12_dry 0 0 21 [some (.ref 25), some (.int a1), some (.int a2), none, none, none] [.int (qb b7)] SH M J _
    by_cases k8 : b7 = true
    · rw [if_pos k8] at h
      refine q_if_ne_t (pc := 21) (tgt := 27) dX12_dry_21 (by decide) (qb_t k8) ?_
      refine q_ldc2 (pc := 27) (v := lN 1000000000) dX12_dry_27 lk_X12_255 ?_
      refine q_lstore_n (pc := 30) (ls' := [some (.ref 25), some (.int a1), some (.int a2), some (.long (lN 1000000000)), none, none]) dX12_dry_30 (by decide) rfl rfl ?_
      refine q_iconst (pc := 31) (v := nI 0) dX12_dry_31 (by decide) ?_
      refine q_istore (pc := 32) (ls' := [some (.ref 25), some (.int a1), some (.int a2), some (.long (lN 1000000000)), none, some (.int (nI 0))]) dX12_dry_32 (by decide) rfl rfl ?_
      refine q_weak (ls' := [none, some (.int a1), some (.int a2), some (.long (lN 1000000000)), none, some (.int (nI 0))]) ⟨rfl, ⟨rfl, ⟨rfl, ⟨rfl, trivial⟩⟩⟩⟩ ?_
      obtain ⟨⟨e12_3, e12_5⟩, h13, h⟩ := Option.bind_eq_some_iff.mp h
      try dsimp only at h
      refine l_X12_dry_L34 a1 a2 M J qF (lN 1000000000) (nI 0) _ h13 (fun x hx => ?_)
      subst hx
      show QW G (qrm 1 0 0) YX12_dry 0 0 55 [none, none, none, some (.long e12_3), none, none] [] SH M J _
      refine q_lload_n (pc := 55) dX12_dry_55 rfl ?_
      refine q_l2i (pc := 56) dX12_dry_56 ?_
      obtain rfl := Option.some.inj h
      exact q_iret (pc := 57) dX12_dry_57 rfl rfl rfl
    · rw [if_neg k8] at h
      refine q_if_ne_f (pc := 21) (tgt := 27) dX12_dry_21 (by decide) (qb_f k8) ?_
      refine q_ldc (pc := 24) (v := (-1000000002 : Int32)) dX12_dry_24 lk_X12_77 ?_
      obtain rfl := Option.some.inj h
      exact q_iret (pc := 26) dX12_dry_26 rfl rfl rfl
  · rw [if_neg k4] at h
    refine q_if_eq_t (pc := 9) (tgt := 24) dX12_dry_9 (by decide) (qb_f k4) ?_
    refine q_ldc (pc := 24) (v := (-1000000002 : Int32)) dX12_dry_24 lk_X12_77 ?_
    obtain rfl := Option.some.inj h
    exact q_iret (pc := 26) dX12_dry_26 rfl rfl rfl
def f_X12_say (a1 : Int32) (a2 : Int32) (a3 : Int32) (M : qM) : Option (Int32 × qM) :=
  (f_X12_in a1.toInt64 (lN 0) (lN 2) M).bind fun b3 => if b3 = true then (f_X12_in a2.toInt64 (lN 0) (lN 40) M).bind fun b7 => if b7 = true then (f_X12_in a3.toInt64 (lN 0) (lN 99) M).bind fun b11 => if b11 = true then if (M 25 13) = (nI 6) then some ((-1000000004 : Int32), M)
    else (qwr M 34 18 ((nI 3) * (M 25 13)) a1).bind fun M14 => (qwr M14 34 18 (((nI 3) * (M14 25 13)) + (nI 1)) a2).bind fun M16 => (qwr M16 34 18 (((nI 3) * (M16 25 13)) + (nI 2)) a3).bind fun M18 => (qpu M18 25 13 ((M18 25 13) + (nI 1))).bind fun M20 => some (M20 25 13, M20)
    else some ((-1000000002 : Int32), M)
    else some ((-1000000002 : Int32), M)
    else some ((-1000000002 : Int32), M)
set_option maxRecDepth 20000 in
set_option maxHeartbeats 4000000 in
theorem a_X12_say {G : qG} {a1 : Int32} {a2 : Int32} {a3 : Int32} {M : qM} {J : qJ} {r : Int32} {M' : qM} (h : f_X12_say a1 a2 a3 M = some (r, M')) : QM G 1 0 0 YX12_say [.ref 25, .int a1, .int a2, .int a3] SH M J (some (.int r), SH, M', J) := by
  refine ⟨Nat.le_of_ble_eq_true rfl, Or.inl rfl, ?_⟩
  show QW G (qrm 1 0 0) YX12_say 0 0 0 [some (.ref 25), some (.int a1), some (.int a2), some (.int a3)] [] SH M J _
  unfold f_X12_say at h
  refine q_iload_n (pc := 0) dX12_say_0 rfl ?_
  refine q_i2l (pc := 1) dX12_say_1 ?_
  refine q_lconst (pc := 2) (v := lN 0) dX12_say_2 rfl ?_
  refine q_ldc2 (pc := 3) (v := lN 2) dX12_say_3 lk_X12_257 ?_
  obtain ⟨b3, h2, h⟩ := Option.bind_eq_some_iff.mp h
  refine q_calls (pc := 6) (st := []) (a_X12_in h2) okX12_in rfl dX12_say_6 lk_X12_58 rfl (by decide) (by decide) (Nat.le_of_ble_eq_true rfl) ⟨Nat.le_of_ble_eq_true rfl, Nat.le_of_ble_eq_true rfl⟩ rfl ?_
  show QW G (qrm 1 0 0) YX12_say 0 0 9 [some (.ref 25), some (.int a1), some (.int a2), some (.int a3)] [.int (qb b3)] SH M J _
  by_cases k4 : b3 = true
  · rw [if_pos k4] at h
    refine q_if_eq_f (pc := 9) (tgt := 36) dX12_say_9 (by decide) (qb_t k4) ?_
    refine q_iload_n (pc := 12) dX12_say_12 rfl ?_
    refine q_i2l (pc := 13) dX12_say_13 ?_
    refine q_lconst (pc := 14) (v := lN 0) dX12_say_14 rfl ?_
    refine q_ldc2 (pc := 15) (v := lN 40) dX12_say_15 lk_X12_216 ?_
    obtain ⟨b7, h6, h⟩ := Option.bind_eq_some_iff.mp h
    refine q_calls (pc := 18) (st := []) (a_X12_in h6) okX12_in rfl dX12_say_18 lk_X12_58 rfl (by decide) (by decide) (Nat.le_of_ble_eq_true rfl) ⟨Nat.le_of_ble_eq_true rfl, Nat.le_of_ble_eq_true rfl⟩ rfl ?_
    show QW G (qrm 1 0 0) YX12_say 0 0 21 [some (.ref 25), some (.int a1), some (.int a2), some (.int a3)] [.int (qb b7)] SH M J _
    by_cases k8 : b7 = true
    · rw [if_pos k8] at h
      refine q_if_eq_f (pc := 21) (tgt := 36) dX12_say_21 (by decide) (qb_t k8) ?_
      refine q_iload_n (pc := 24) dX12_say_24 rfl ?_
      refine q_i2l (pc := 25) dX12_say_25 ?_
      refine q_lconst (pc := 26) (v := lN 0) dX12_say_26 rfl ?_
      refine q_ldc2 (pc := 27) (v := lN 99) dX12_say_27 lk_X12_214 ?_
      obtain ⟨b11, h10, h⟩ := Option.bind_eq_some_iff.mp h
      refine q_calls (pc := 30) (st := []) (a_X12_in h10) okX12_in rfl dX12_say_30 lk_X12_58 rfl (by decide) (by decide) (Nat.le_of_ble_eq_true rfl) ⟨Nat.le_of_ble_eq_true rfl, Nat.le_of_ble_eq_true rfl⟩ rfl ?_
      show QW G (qrm 1 0 0) YX12_say 0 0 33 [some (.ref 25), some (.int a1), some (.int a2), some (.int a3)] [.int (qb b11)] SH M J _
      by_cases k12 : b11 = true
      · rw [if_pos k12] at h
        refine q_if_ne_t (pc := 33) (tgt := 39) dX12_say_33 (by decide) (qb_t k12) ?_
        refine q_aload_n (pc := 39) dX12_say_39 rfl ?_
        refine q_getf (pc := 40) (f := 13) (v := .int (M 25 13)) dX12_say_40 sh_25 cl_11 inX12 rfl (by decide) lk_X12_69 rfl ?_
        refine q_bipush (pc := 43) (v := nI 6) dX12_say_43 (by decide) ?_
        by_cases k13 : (M 25 13) = (nI 6)
        · rw [if_pos k13] at h
          refine q_icmp_ne_f (pc := 45) (tgt := 51) dX12_say_45 (by decide) k13 ?_
          refine q_ldc (pc := 48) (v := (-1000000004 : Int32)) dX12_say_48 lk_X12_81 ?_
          have h := Option.some.inj h
          obtain ⟨rfl, rfl⟩ := Prod.mk.inj h
          exact q_iret (pc := 50) dX12_say_50 rfl rfl rfl
        · rw [if_neg k13] at h
          refine q_icmp_ne_t (pc := 45) (tgt := 51) dX12_say_45 (by decide) k13 ?_
          refine q_aload_n (pc := 51) dX12_say_51 rfl ?_
          refine q_getf (pc := 52) (f := 12) (v := .ref 34) dX12_say_52 sh_25 cl_11 inX12 rfl (by decide) lk_X12_39 rfl ?_
          refine q_iconst (pc := 55) (v := nI 3) dX12_say_55 (by decide) ?_
          refine q_aload_n (pc := 56) dX12_say_56 rfl ?_
          refine q_getf (pc := 57) (f := 13) (v := .int (M 25 13)) dX12_say_57 sh_25 cl_11 inX12 rfl (by decide) lk_X12_69 rfl ?_
          refine q_imul (pc := 60) dX12_say_60 ?_
          refine q_iload_n (pc := 61) dX12_say_61 rfl ?_
          obtain ⟨M14, h15, h⟩ := Option.bind_eq_some_iff.mp h
          refine q_iast (pc := 62) dX12_say_62 sh_34 h15 ?_
          refine q_aload_n (pc := 63) dX12_say_63 rfl ?_
          refine q_getf (pc := 64) (f := 12) (v := .ref 34) dX12_say_64 sh_25 cl_11 inX12 rfl (by decide) lk_X12_39 rfl ?_
          refine q_iconst (pc := 67) (v := nI 3) dX12_say_67 (by decide) ?_
          refine q_aload_n (pc := 68) dX12_say_68 rfl ?_
          refine q_getf (pc := 69) (f := 13) (v := .int (M14 25 13)) dX12_say_69 sh_25 cl_11 inX12 rfl (by decide) lk_X12_69 rfl ?_
          refine q_imul (pc := 72) dX12_say_72 ?_
          refine q_iconst (pc := 73) (v := nI 1) dX12_say_73 (by decide) ?_
          refine q_iadd (pc := 74) dX12_say_74 ?_
          refine q_iload_n (pc := 75) dX12_say_75 rfl ?_
          obtain ⟨M16, h17, h⟩ := Option.bind_eq_some_iff.mp h
          refine q_iast (pc := 76) dX12_say_76 sh_34 h17 ?_
          refine q_aload_n (pc := 77) dX12_say_77 rfl ?_
          refine q_getf (pc := 78) (f := 12) (v := .ref 34) dX12_say_78 sh_25 cl_11 inX12 rfl (by decide) lk_X12_39 rfl ?_
          refine q_iconst (pc := 81) (v := nI 3) dX12_say_81 (by decide) ?_
          refine q_aload_n (pc := 82) dX12_say_82 rfl ?_
          refine q_getf (pc := 83) (f := 13) (v := .int (M16 25 13)) dX12_say_83 sh_25 cl_11 inX12 rfl (by decide) lk_X12_69 rfl ?_
          refine q_imul (pc := 86) dX12_say_86 ?_
          refine q_iconst (pc := 87) (v := nI 2) dX12_say_87 (by decide) ?_
          refine q_iadd (pc := 88) dX12_say_88 ?_
          refine q_iload_n (pc := 89) dX12_say_89 rfl ?_
          obtain ⟨M18, h19, h⟩ := Option.bind_eq_some_iff.mp h
          refine q_iast (pc := 90) dX12_say_90 sh_34 h19 ?_
          refine q_aload_n (pc := 91) dX12_say_91 rfl ?_
          refine q_dup (pc := 92) dX12_say_92 rfl ?_
          refine q_getf (pc := 93) (f := 13) (v := .int (M18 25 13)) dX12_say_93 sh_25 cl_11 inX12 rfl (by decide) lk_X12_69 rfl ?_
          refine q_iconst (pc := 96) (v := nI 1) dX12_say_96 (by decide) ?_
          refine q_iadd (pc := 97) dX12_say_97 ?_
          obtain ⟨M20, h21, h⟩ := Option.bind_eq_some_iff.mp h
          refine q_putI (pc := 98) (f := 13) tyX12 dX12_say_98 sh_25 cl_11 inX12 tyX12_ok nmX12 rfl (by decide) lk_X12_69 rfl rfl rfl h21 ?_
          refine q_aload_n (pc := 101) dX12_say_101 rfl ?_
          refine q_getf (pc := 102) (f := 13) (v := .int (M20 25 13)) dX12_say_102 sh_25 cl_11 inX12 rfl (by decide) lk_X12_69 rfl ?_
          have h := Option.some.inj h
          obtain ⟨rfl, rfl⟩ := Prod.mk.inj h
          exact q_iret (pc := 105) dX12_say_105 rfl rfl rfl
      · rw [if_neg k12] at h
        refine q_if_ne_f (pc := 33) (tgt := 39) dX12_say_33 (by decide) (qb_f k12) ?_
        refine q_ldc (pc := 36) (v := (-1000000002 : Int32)) dX12_say_36 lk_X12_77 ?_
        have h := Option.some.inj h
        obtain ⟨rfl, rfl⟩ := Prod.mk.inj h
        exact q_iret (pc := 38) dX12_say_38 rfl rfl rfl
    · rw [if_neg k8] at h
      refine q_if_eq_t (pc := 21) (tgt := 36) dX12_say_21 (by decide) (qb_f k8) ?_
      refine q_ldc (pc := 36) (v := (-1000000002 : Int32)) dX12_say_36 lk_X12_77 ?_
      have h := Option.some.inj h
      obtain ⟨rfl, rfl⟩ := Prod.mk.inj h
      exact q_iret (pc := 38) dX12_say_38 rfl rfl rfl
  · rw [if_neg k4] at h
    refine q_if_eq_t (pc := 9) (tgt := 36) dX12_say_9 (by decide) (qb_f k4) ?_
    refine q_ldc (pc := 36) (v := (-1000000002 : Int32)) dX12_say_36 lk_X12_77 ?_
    have h := Option.some.inj h
    obtain ⟨rfl, rfl⟩ := Prod.mk.inj h
    exact q_iret (pc := 38) dX12_say_38 rfl rfl rfl
def f_X12_isSo_L4 (x1 : Int32) (M : qM) : Nat → Bool → Int32 → Option (Bool × Int32)
  | 0, _, _ => none
  | n + 1, c2, c3 =>
  if ((nI 3) * (M 25 13)) ≤ c3 then some (c2, c3)
    else if c2 = true then (qrd M 34 18 c3).bind fun v3 => (qrd M 34 18 (c3 + (nI 1))).bind fun v5 => (f_X12_strengthBy v3 v5 x1 M).bind fun r9 => (qrd M 34 18 (c3 + (nI 2))).bind fun v10 => if r9 = v10 then f_X12_isSo_L4 x1 M n true (c3 + nI 3)
    else f_X12_isSo_L4 x1 M n false (c3 + nI 3)
    else f_X12_isSo_L4 x1 M n false (c3 + nI 3)
set_option maxRecDepth 20000 in
set_option maxHeartbeats 4000000 in
theorem l_X12_isSo_L4 {G : qG} {ρ : qR} (x1 : Int32) (M : qM) (J : qJ) : ∀ (n : Nat) (c2 : Bool) (c3 : Int32) (res : Bool × Int32), f_X12_isSo_L4 x1 M n c2 c3 = some res → (∀ x : Bool × Int32, res = x → QW G (qrm 1 0 0) YX12_isSo 0 0 59 [none, none, some (.int (qb x.1)), none] [] SH M J ρ) → QW G (qrm 1 0 0) YX12_isSo 0 0 4 [some (.ref 25), some (.int x1), some (.int (qb c2)), some (.int c3)] [] SH M J ρ
  | 0, _, _, _, h, _ => by simp [f_X12_isSo_L4] at h
  | n + 1, c2, c3, res, h, hk => by
    rw [f_X12_isSo_L4] at h
    refine q_iload_n (pc := 4) dX12_isSo_4 rfl ?_
    refine q_iconst (pc := 5) (v := nI 3) dX12_isSo_5 (by decide) ?_
    refine q_aload_n (pc := 6) dX12_isSo_6 rfl ?_
    refine q_getf (pc := 7) (f := 13) (v := .int (M 25 13)) dX12_isSo_7 sh_25 cl_11 inX12 rfl (by decide) lk_X12_69 rfl ?_
    refine q_imul (pc := 10) dX12_isSo_10 ?_
    by_cases k1 : ((nI 3) * (M 25 13)) ≤ c3
    · rw [if_pos k1] at h
      refine q_icmp_ge_t (pc := 11) (tgt := 59) dX12_isSo_11 (by decide) k1 ?_
      refine q_weak (ls' := [none, none, some (.int (qb c2)), none]) ⟨rfl, trivial⟩ ?_
      obtain rfl := Option.some.inj h
      exact hk (c2, c3) rfl
    · rw [if_neg k1] at h
      refine q_icmp_ge_f (pc := 11) (tgt := 59) dX12_isSo_11 (by decide) k1 ?_
      refine q_iload_n (pc := 14) dX12_isSo_14 rfl ?_
      by_cases k2 : c2 = true
      · rw [if_pos k2] at h
        refine q_if_eq_f (pc := 15) (tgt := 51) dX12_isSo_15 (by decide) (qb_t k2) ?_
        refine q_aload_n (pc := 18) dX12_isSo_18 rfl ?_
        refine q_getf (pc := 19) (f := 12) (v := .ref 34) dX12_isSo_19 sh_25 cl_11 inX12 rfl (by decide) lk_X12_39 rfl ?_
        refine q_iload_n (pc := 22) dX12_isSo_22 rfl ?_
        obtain ⟨v3, h4, h⟩ := Option.bind_eq_some_iff.mp h
        refine q_iald (pc := 23) dX12_isSo_23 sh_34 h4 ?_
        refine q_aload_n (pc := 24) dX12_isSo_24 rfl ?_
        refine q_getf (pc := 25) (f := 12) (v := .ref 34) dX12_isSo_25 sh_25 cl_11 inX12 rfl (by decide) lk_X12_39 rfl ?_
        refine q_iload_n (pc := 28) dX12_isSo_28 rfl ?_
        refine q_iconst (pc := 29) (v := nI 1) dX12_isSo_29 (by decide) ?_
        refine q_iadd (pc := 30) dX12_isSo_30 ?_
        obtain ⟨v5, h6, h⟩ := Option.bind_eq_some_iff.mp h
        refine q_iald (pc := 31) dX12_isSo_31 sh_34 h6 ?_
        refine q_iload_n (pc := 32) dX12_isSo_32 rfl ?_
        obtain ⟨r9, h8, h⟩ := Option.bind_eq_some_iff.mp h
        refine q_calls (pc := 33) (st := []) (a_X12_strengthBy h8) okX12_strengthBy rfl dX12_isSo_33 lk_X12_140 rfl (by decide) (by decide) (Nat.le_of_ble_eq_true rfl) ⟨Nat.le_of_ble_eq_true rfl, Nat.le_of_ble_eq_true rfl⟩ rfl ?_
        show QW G (qrm 1 0 0) YX12_isSo 0 0 36 [some (.ref 25), some (.int x1), some (.int (qb c2)), some (.int c3)] [.int r9] SH M J _
        refine q_aload_n (pc := 36) dX12_isSo_36 rfl ?_
        refine q_getf (pc := 37) (f := 12) (v := .ref 34) dX12_isSo_37 sh_25 cl_11 inX12 rfl (by decide) lk_X12_39 rfl ?_
        refine q_iload_n (pc := 40) dX12_isSo_40 rfl ?_
        refine q_iconst (pc := 41) (v := nI 2) dX12_isSo_41 (by decide) ?_
        refine q_iadd (pc := 42) dX12_isSo_42 ?_
        obtain ⟨v10, h11, h⟩ := Option.bind_eq_some_iff.mp h
        refine q_iald (pc := 43) dX12_isSo_43 sh_34 h11 ?_
        by_cases k12 : r9 = v10
        · rw [if_pos k12] at h
          refine q_icmp_ne_f (pc := 44) (tgt := 51) dX12_isSo_44 (by decide) k12 ?_
          refine q_iconst (pc := 47) (v := nI 1) dX12_isSo_47 (by decide) ?_
          refine q_goto (pc := 48) (tgt := 52) dX12_isSo_48 (by decide) ?_
          refine q_istore_n (pc := 52) (ls' := [some (.ref 25), some (.int x1), some (.int (nI 1)), some (.int c3)]) dX12_isSo_52 (by decide) rfl rfl ?_
          refine q_iincW (pc := 53) (w := nI 3) (ls' := [some (.ref 25), some (.int x1), some (.int (nI 1)), some (.int (c3 + nI 3))]) dX12_isSo_53 rfl (by decide) (by decide) rfl rfl ?_
          refine q_goto (pc := 56) (tgt := 4) dX12_isSo_56 (by decide) ?_
          exact l_X12_isSo_L4 x1 M J n true (c3 + nI 3) res h hk
        · rw [if_neg k12] at h
          refine q_icmp_ne_t (pc := 44) (tgt := 51) dX12_isSo_44 (by decide) k12 ?_
          refine q_iconst (pc := 51) (v := nI 0) dX12_isSo_51 (by decide) ?_
          refine q_istore_n (pc := 52) (ls' := [some (.ref 25), some (.int x1), some (.int (nI 0)), some (.int c3)]) dX12_isSo_52 (by decide) rfl rfl ?_
          refine q_iincW (pc := 53) (w := nI 3) (ls' := [some (.ref 25), some (.int x1), some (.int (nI 0)), some (.int (c3 + nI 3))]) dX12_isSo_53 rfl (by decide) (by decide) rfl rfl ?_
          refine q_goto (pc := 56) (tgt := 4) dX12_isSo_56 (by decide) ?_
          exact l_X12_isSo_L4 x1 M J n false (c3 + nI 3) res h hk
      · rw [if_neg k2] at h
        refine q_if_eq_t (pc := 15) (tgt := 51) dX12_isSo_15 (by decide) (qb_f k2) ?_
        refine q_iconst (pc := 51) (v := nI 0) dX12_isSo_51 (by decide) ?_
        refine q_istore_n (pc := 52) (ls' := [some (.ref 25), some (.int x1), some (.int (nI 0)), some (.int c3)]) dX12_isSo_52 (by decide) rfl rfl ?_
        refine q_iincW (pc := 53) (w := nI 3) (ls' := [some (.ref 25), some (.int x1), some (.int (nI 0)), some (.int (c3 + nI 3))]) dX12_isSo_53 rfl (by decide) (by decide) rfl rfl ?_
        refine q_goto (pc := 56) (tgt := 4) dX12_isSo_56 (by decide) ?_
        exact l_X12_isSo_L4 x1 M J n false (c3 + nI 3) res h hk
def f_X12_isSo (a1 : Int32) (M : qM) : Option Bool :=
  (f_X12_isSo_L4 a1 M qF true (nI 0)).bind fun e13 => some (e13.1)
set_option maxRecDepth 20000 in
set_option maxHeartbeats 4000000 in
theorem a_X12_isSo {G : qG} {a1 : Int32} {M : qM} {J : qJ} {r : Bool} (h : f_X12_isSo a1 M = some (r)) : QM G 1 0 0 YX12_isSo [.ref 25, .int a1] SH M J (some (.int (qb r)), SH, M, J) := by
  refine ⟨Nat.le_of_ble_eq_true rfl, Or.inr ⟨rfl, _, rfl⟩, ?_⟩
  show QW G (qrm 1 0 0) YX12_isSo 0 0 0 [some (.ref 25), some (.int a1), none, none] [] SH M J _
  unfold f_X12_isSo at h
  refine q_iconst (pc := 0) (v := nI 1) dX12_isSo_0 (by decide) ?_
  refine q_istore_n (pc := 1) (ls' := [some (.ref 25), some (.int a1), some (.int (nI 1)), none]) dX12_isSo_1 (by decide) rfl rfl ?_
  refine q_iconst (pc := 2) (v := nI 0) dX12_isSo_2 (by decide) ?_
  refine q_istore_n (pc := 3) (ls' := [some (.ref 25), some (.int a1), some (.int (nI 1)), some (.int (nI 0))]) dX12_isSo_3 (by decide) rfl rfl ?_
  obtain ⟨⟨e13_2, e13_3⟩, h14, h⟩ := Option.bind_eq_some_iff.mp h
  try dsimp only at h
  refine l_X12_isSo_L4 a1 M J qF true (nI 0) _ h14 (fun x hx => ?_)
  subst hx
  show QW G (qrm 1 0 0) YX12_isSo 0 0 59 [none, none, some (.int (qb e13_2)), none] [] SH M J _
  refine q_iload_n (pc := 59) dX12_isSo_59 rfl ?_
  obtain rfl := Option.some.inj h
  exact q_iret (pc := 60) dX12_isSo_60 rfl rfl rfl
def f_X12_weights_L25 (x1 : Int32) (M : qM) : Nat → Int32 → Int32 → Int32 → Int32 → Option (Int32 × Int32 × Int32 × Int32)
  | 0, _, _, _, _ => none
  | n + 1, c2, c3, c4, c5 =>
  if (nI 21) ≤ c5 then some (c2, c3, c4, c5)
    else (f_X12_isSo c5 M).bind fun b8 => if b8 = true then if c3 = (-1 : Int32) then f_X12_weights_L25 x1 M n (c2 + nI 1) c5 c5 (c5 + nI 1)
    else f_X12_weights_L25 x1 M n (c2 + nI 1) c3 c5 (c5 + nI 1)
    else f_X12_weights_L25 x1 M n c2 c3 c4 (c5 + nI 1)
set_option maxRecDepth 20000 in
set_option maxHeartbeats 4000000 in
theorem l_X12_weights_L25 {G : qG} {ρ : qR} (x1 : Int32) (M : qM) (J : qJ) : ∀ (n : Nat) (c2 : Int32) (c3 : Int32) (c4 : Int32) (c5 : Int32) (res : Int32 × Int32 × Int32 × Int32), f_X12_weights_L25 x1 M n c2 c3 c4 c5 = some res → (∀ x : Int32 × Int32 × Int32 × Int32, res = x → QW G (qrm 2 0 0) YX12_weights 0 0 66 [none, some (.int x1), some (.int x.1), some (.int x.2.1), some (.int x.2.2.1), none] [] SH M J ρ) → QW G (qrm 2 0 0) YX12_weights 0 0 25 [some (.ref 25), some (.int x1), some (.int c2), some (.int c3), some (.int c4), some (.int c5)] [] SH M J ρ
  | 0, _, _, _, _, _, h, _ => by simp [f_X12_weights_L25] at h
  | n + 1, c2, c3, c4, c5, res, h, hk => by
    rw [f_X12_weights_L25] at h
    refine q_iload (pc := 25) dX12_weights_25 rfl ?_
    refine q_bipush (pc := 27) (v := nI 21) dX12_weights_27 (by decide) ?_
    by_cases k5 : (nI 21) ≤ c5
    · rw [if_pos k5] at h
      refine q_icmp_ge_t (pc := 29) (tgt := 66) dX12_weights_29 (by decide) k5 ?_
      refine q_weak (ls' := [none, some (.int x1), some (.int c2), some (.int c3), some (.int c4), none]) ⟨rfl, ⟨rfl, ⟨rfl, ⟨rfl, trivial⟩⟩⟩⟩ ?_
      obtain rfl := Option.some.inj h
      exact hk (c2, c3, c4, c5) rfl
    · rw [if_neg k5] at h
      refine q_icmp_ge_f (pc := 29) (tgt := 66) dX12_weights_29 (by decide) k5 ?_
      refine q_aload_n (pc := 32) dX12_weights_32 rfl ?_
      refine q_iload (pc := 33) dX12_weights_33 rfl ?_
      obtain ⟨b8, h7, h⟩ := Option.bind_eq_some_iff.mp h
      refine q_callv (pc := 35) (st := []) (a_X12_isSo h7) okX12_isSo rfl dX12_weights_35 lk_X12_259 sh_25 cl_11 rfl (by decide) (by decide) (Nat.le_of_ble_eq_true rfl) ⟨Nat.le_of_ble_eq_true rfl, Nat.le_of_ble_eq_true rfl⟩ rfl ?_
      show QW G (qrm 2 0 0) YX12_weights 0 0 38 [some (.ref 25), some (.int x1), some (.int c2), some (.int c3), some (.int c4), some (.int c5)] [.int (qb b8)] SH M J _
      by_cases k9 : b8 = true
      · rw [if_pos k9] at h
        refine q_if_eq_f (pc := 38) (tgt := 60) dX12_weights_38 (by decide) (qb_t k9) ?_
        refine q_iincW (pc := 41) (w := nI 1) (ls' := [some (.ref 25), some (.int x1), some (.int (c2 + nI 1)), some (.int c3), some (.int c4), some (.int c5)]) dX12_weights_41 rfl (by decide) (by decide) rfl rfl ?_
        refine q_iload_n (pc := 44) dX12_weights_44 rfl ?_
        refine q_iconst (pc := 45) (v := (-1 : Int32)) dX12_weights_45 (by decide) ?_
        by_cases k10 : c3 = (-1 : Int32)
        · rw [if_pos k10] at h
          refine q_icmp_ne_f (pc := 46) (tgt := 54) dX12_weights_46 (by decide) k10 ?_
          refine q_iload (pc := 49) dX12_weights_49 rfl ?_
          refine q_goto (pc := 51) (tgt := 55) dX12_weights_51 (by decide) ?_
          refine q_istore_n (pc := 55) (ls' := [some (.ref 25), some (.int x1), some (.int (c2 + nI 1)), some (.int c5), some (.int c4), some (.int c5)]) dX12_weights_55 (by decide) rfl rfl ?_
          refine q_iload (pc := 56) dX12_weights_56 rfl ?_
          refine q_istore (pc := 58) (ls' := [some (.ref 25), some (.int x1), some (.int (c2 + nI 1)), some (.int c5), some (.int c5), some (.int c5)]) dX12_weights_58 (by decide) rfl rfl ?_
          refine q_iincW (pc := 60) (w := nI 1) (ls' := [some (.ref 25), some (.int x1), some (.int (c2 + nI 1)), some (.int c5), some (.int c5), some (.int (c5 + nI 1))]) dX12_weights_60 rfl (by decide) (by decide) rfl rfl ?_
          refine q_goto (pc := 63) (tgt := 25) dX12_weights_63 (by decide) ?_
          exact l_X12_weights_L25 x1 M J n (c2 + nI 1) c5 c5 (c5 + nI 1) res h hk
        · rw [if_neg k10] at h
          refine q_icmp_ne_t (pc := 46) (tgt := 54) dX12_weights_46 (by decide) k10 ?_
          refine q_iload_n (pc := 54) dX12_weights_54 rfl ?_
          refine q_istore_n (pc := 55) (ls' := [some (.ref 25), some (.int x1), some (.int (c2 + nI 1)), some (.int c3), some (.int c4), some (.int c5)]) dX12_weights_55 (by decide) rfl rfl ?_
          refine q_iload (pc := 56) dX12_weights_56 rfl ?_
          refine q_istore (pc := 58) (ls' := [some (.ref 25), some (.int x1), some (.int (c2 + nI 1)), some (.int c3), some (.int c5), some (.int c5)]) dX12_weights_58 (by decide) rfl rfl ?_
          refine q_iincW (pc := 60) (w := nI 1) (ls' := [some (.ref 25), some (.int x1), some (.int (c2 + nI 1)), some (.int c3), some (.int c5), some (.int (c5 + nI 1))]) dX12_weights_60 rfl (by decide) (by decide) rfl rfl ?_
          refine q_goto (pc := 63) (tgt := 25) dX12_weights_63 (by decide) ?_
          exact l_X12_weights_L25 x1 M J n (c2 + nI 1) c3 c5 (c5 + nI 1) res h hk
      · rw [if_neg k9] at h
        refine q_if_eq_t (pc := 38) (tgt := 60) dX12_weights_38 (by decide) (qb_f k9) ?_
        refine q_iincW (pc := 60) (w := nI 1) (ls' := [some (.ref 25), some (.int x1), some (.int c2), some (.int c3), some (.int c4), some (.int (c5 + nI 1))]) dX12_weights_60 rfl (by decide) (by decide) rfl rfl ?_
        refine q_goto (pc := 63) (tgt := 25) dX12_weights_63 (by decide) ?_
        exact l_X12_weights_L25 x1 M J n c2 c3 c4 (c5 + nI 1) res h hk
def f_X12_weights (a1 : Int32) (M : qM) : Option Int32 :=
  (f_X12_in a1.toInt64 (lN 0) (lN 2) M).bind fun b3 => if b3 = true then (f_X12_weights_L25 a1 M qF (nI 0) (-1 : Int32) (-1 : Int32) (nI 0)).bind fun e11 => if a1 = 0 then some (e11.1)
    else if a1 = (nI 1) then some (e11.2.1)
    else some (e11.2.2.1)
    else some ((-1000000002 : Int32))
set_option maxRecDepth 20000 in
set_option maxHeartbeats 4000000 in
theorem a_X12_weights {G : qG} {a1 : Int32} {M : qM} {J : qJ} {r : Int32} (h : f_X12_weights a1 M = some (r)) : QM G 2 0 0 YX12_weights [.ref 25, .int a1] SH M J (some (.int r), SH, M, J) := by
  refine ⟨Nat.le_of_ble_eq_true rfl, Or.inl rfl, ?_⟩
  show QW G (qrm 2 0 0) YX12_weights 0 0 0 [some (.ref 25), some (.int a1), none, none, none, none] [] SH M J _
  unfold f_X12_weights at h
  refine q_iload_n (pc := 0) dX12_weights_0 rfl ?_
  refine q_i2l (pc := 1) dX12_weights_1 ?_
  refine q_lconst (pc := 2) (v := lN 0) dX12_weights_2 rfl ?_
  refine q_ldc2 (pc := 3) (v := lN 2) dX12_weights_3 lk_X12_257 ?_
  obtain ⟨b3, h2, h⟩ := Option.bind_eq_some_iff.mp h
  refine q_calls (pc := 6) (st := []) (a_X12_in h2) okX12_in rfl dX12_weights_6 lk_X12_58 rfl (by decide) (by decide) (Nat.le_of_ble_eq_true rfl) ⟨Nat.le_of_ble_eq_true rfl, Nat.le_of_ble_eq_true rfl⟩ rfl ?_
  show QW G (qrm 2 0 0) YX12_weights 0 0 9 [some (.ref 25), some (.int a1), none, none, none, none] [.int (qb b3)] SH M J _
  by_cases k4 : b3 = true
  · rw [if_pos k4] at h
    refine q_if_ne_t (pc := 9) (tgt := 15) dX12_weights_9 (by decide) (qb_t k4) ?_
    refine q_iconst (pc := 15) (v := nI 0) dX12_weights_15 (by decide) ?_
    refine q_istore_n (pc := 16) (ls' := [some (.ref 25), some (.int a1), some (.int (nI 0)), none, none, none]) dX12_weights_16 (by decide) rfl rfl ?_
    refine q_iconst (pc := 17) (v := (-1 : Int32)) dX12_weights_17 (by decide) ?_
    refine q_istore_n (pc := 18) (ls' := [some (.ref 25), some (.int a1), some (.int (nI 0)), some (.int (-1 : Int32)), none, none]) dX12_weights_18 (by decide) rfl rfl ?_
    refine q_iconst (pc := 19) (v := (-1 : Int32)) dX12_weights_19 (by decide) ?_
    refine q_istore (pc := 20) (ls' := [some (.ref 25), some (.int a1), some (.int (nI 0)), some (.int (-1 : Int32)), some (.int (-1 : Int32)), none]) dX12_weights_20 (by decide) rfl rfl ?_
    refine q_iconst (pc := 22) (v := nI 0) dX12_weights_22 (by decide) ?_
    refine q_istore (pc := 23) (ls' := [some (.ref 25), some (.int a1), some (.int (nI 0)), some (.int (-1 : Int32)), some (.int (-1 : Int32)), some (.int (nI 0))]) dX12_weights_23 (by decide) rfl rfl ?_
    obtain ⟨⟨e11_2, e11_3, e11_4, e11_5⟩, h14, h⟩ := Option.bind_eq_some_iff.mp h
    try dsimp only at h
    refine l_X12_weights_L25 a1 M J qF (nI 0) (-1 : Int32) (-1 : Int32) (nI 0) _ h14 (fun x hx => ?_)
    subst hx
    show QW G (qrm 2 0 0) YX12_weights 0 0 66 [none, some (.int a1), some (.int e11_2), some (.int e11_3), some (.int e11_4), none] [] SH M J _
    refine q_iload_n (pc := 66) dX12_weights_66 rfl ?_
    by_cases k12 : a1 = 0
    · rw [if_pos k12] at h
      refine q_if_ne_f (pc := 67) (tgt := 74) dX12_weights_67 (by decide) k12 ?_
      refine q_iload_n (pc := 70) dX12_weights_70 rfl ?_
      refine q_goto (pc := 71) (tgt := 85) dX12_weights_71 (by decide) ?_
      obtain rfl := Option.some.inj h
      exact q_iret (pc := 85) dX12_weights_85 rfl rfl rfl
    · rw [if_neg k12] at h
      refine q_if_ne_t (pc := 67) (tgt := 74) dX12_weights_67 (by decide) k12 ?_
      refine q_iload_n (pc := 74) dX12_weights_74 rfl ?_
      refine q_iconst (pc := 75) (v := nI 1) dX12_weights_75 (by decide) ?_
      by_cases k13 : a1 = (nI 1)
      · rw [if_pos k13] at h
        refine q_icmp_ne_f (pc := 76) (tgt := 83) dX12_weights_76 (by decide) k13 ?_
        refine q_iload_n (pc := 79) dX12_weights_79 rfl ?_
        refine q_goto (pc := 80) (tgt := 85) dX12_weights_80 (by decide) ?_
        obtain rfl := Option.some.inj h
        exact q_iret (pc := 85) dX12_weights_85 rfl rfl rfl
      · rw [if_neg k13] at h
        refine q_icmp_ne_t (pc := 76) (tgt := 83) dX12_weights_76 (by decide) k13 ?_
        refine q_iload (pc := 83) dX12_weights_83 rfl ?_
        obtain rfl := Option.some.inj h
        exact q_iret (pc := 85) dX12_weights_85 rfl rfl rfl
  · rw [if_neg k4] at h
    refine q_if_ne_f (pc := 9) (tgt := 15) dX12_weights_9 (by decide) (qb_f k4) ?_
    refine q_ldc (pc := 12) (v := (-1000000002 : Int32)) dX12_weights_12 lk_X12_77 ?_
    obtain rfl := Option.some.inj h
    exact q_iret (pc := 14) dX12_weights_14 rfl rfl rfl
def f_X12_ask_L34 (x1 : Int32) (x2 : Int32) (x3 : Int32) (x4 : Int32) (x5 : Int32) (M : qM) : Nat → Int32 → Int32 → Option (Int32 × Int32)
  | 0, _, _ => none
  | n + 1, c6, c7 =>
  if (nI 21) ≤ c7 then some (c6, c7)
    else (f_X12_isSo x5 M).bind fun b9 => if b9 = true then (f_X12_isSo c7 M).bind fun b13 => if b13 = true then (f_X12_strengthBy x3 (nI 10) x5 M).bind fun r17 => (f_X12_strengthBy x3 (nI 10) c7 M).bind fun r20 => if r17 = r20 then f_X12_ask_L34 x1 x2 x3 x4 x5 M n (c6 + (nI 1)) (c7 + nI 1)
    else f_X12_ask_L34 x1 x2 x3 x4 x5 M n (c6 + (nI 0)) (c7 + nI 1)
    else f_X12_ask_L34 x1 x2 x3 x4 x5 M n (c6 + (nI 0)) (c7 + nI 1)
    else f_X12_ask_L34 x1 x2 x3 x4 x5 M n (c6 + (nI 0)) (c7 + nI 1)
set_option maxRecDepth 20000 in
set_option maxHeartbeats 4000000 in
theorem l_X12_ask_L34 {G : qG} {ρ : qR} (x1 : Int32) (x2 : Int32) (x3 : Int32) (x4 : Int32) (x5 : Int32) (M : qM) (J : qJ) : ∀ (n : Nat) (c6 : Int32) (c7 : Int32) (res : Int32 × Int32), f_X12_ask_L34 x1 x2 x3 x4 x5 M n c6 c7 = some res → (∀ x : Int32 × Int32, res = x → QW G (qrm 3 0 0) YX12_ask 0 0 94 [some (.ref 25), some (.int x1), some (.int x2), some (.int x3), some (.int x4), some (.int x5), some (.int x.1), none] [] SH M J ρ) → QW G (qrm 3 0 0) YX12_ask 0 0 34 [some (.ref 25), some (.int x1), some (.int x2), some (.int x3), some (.int x4), some (.int x5), some (.int c6), some (.int c7)] [] SH M J ρ
  | 0, _, _, _, h, _ => by simp [f_X12_ask_L34] at h
  | n + 1, c6, c7, res, h, hk => by
    rw [f_X12_ask_L34] at h
    refine q_iload (pc := 34) dX12_ask_34 rfl ?_
    refine q_bipush (pc := 36) (v := nI 21) dX12_ask_36 (by decide) ?_
    by_cases k6 : (nI 21) ≤ c7
    · rw [if_pos k6] at h
      refine q_icmp_ge_t (pc := 38) (tgt := 94) dX12_ask_38 (by decide) k6 ?_
      refine q_weak (ls' := [some (.ref 25), some (.int x1), some (.int x2), some (.int x3), some (.int x4), some (.int x5), some (.int c6), none]) ⟨rfl, ⟨rfl, ⟨rfl, ⟨rfl, ⟨rfl, ⟨rfl, ⟨rfl, trivial⟩⟩⟩⟩⟩⟩⟩ ?_
      obtain rfl := Option.some.inj h
      exact hk (c6, c7) rfl
    · rw [if_neg k6] at h
      refine q_icmp_ge_f (pc := 38) (tgt := 94) dX12_ask_38 (by decide) k6 ?_
      refine q_iload (pc := 41) dX12_ask_41 rfl ?_
      refine q_aload_n (pc := 43) dX12_ask_43 rfl ?_
      refine q_iload (pc := 44) dX12_ask_44 rfl ?_
      obtain ⟨b9, h8, h⟩ := Option.bind_eq_some_iff.mp h
      refine q_callv (pc := 46) (st := [.int c6]) (a_X12_isSo h8) okX12_isSo rfl dX12_ask_46 lk_X12_259 sh_25 cl_11 rfl (by decide) (by decide) (Nat.le_of_ble_eq_true rfl) ⟨Nat.le_of_ble_eq_true rfl, Nat.le_of_ble_eq_true rfl⟩ rfl ?_
      show QW G (qrm 3 0 0) YX12_ask 0 0 49 [some (.ref 25), some (.int x1), some (.int x2), some (.int x3), some (.int x4), some (.int x5), some (.int c6), some (.int c7)] [.int (qb b9), .int c6] SH M J _
      by_cases k10 : b9 = true
      · rw [if_pos k10] at h
        refine q_if_eq_f (pc := 49) (tgt := 84) dX12_ask_49 (by decide) (qb_t k10) ?_
        refine q_aload_n (pc := 52) dX12_ask_52 rfl ?_
        refine q_iload (pc := 53) dX12_ask_53 rfl ?_
        obtain ⟨b13, h12, h⟩ := Option.bind_eq_some_iff.mp h
        refine q_callv (pc := 55) (st := [.int c6]) (a_X12_isSo h12) okX12_isSo rfl dX12_ask_55 lk_X12_259 sh_25 cl_11 rfl (by decide) (by decide) (Nat.le_of_ble_eq_true rfl) ⟨Nat.le_of_ble_eq_true rfl, Nat.le_of_ble_eq_true rfl⟩ rfl ?_
        show QW G (qrm 3 0 0) YX12_ask 0 0 58 [some (.ref 25), some (.int x1), some (.int x2), some (.int x3), some (.int x4), some (.int x5), some (.int c6), some (.int c7)] [.int (qb b13), .int c6] SH M J _
        by_cases k14 : b13 = true
        · rw [if_pos k14] at h
          refine q_if_eq_f (pc := 58) (tgt := 84) dX12_ask_58 (by decide) (qb_t k14) ?_
          refine q_iload_n (pc := 61) dX12_ask_61 rfl ?_
          refine q_bipush (pc := 62) (v := nI 10) dX12_ask_62 (by decide) ?_
          refine q_iload (pc := 64) dX12_ask_64 rfl ?_
          obtain ⟨r17, h16, h⟩ := Option.bind_eq_some_iff.mp h
          refine q_calls (pc := 66) (st := [.int c6]) (a_X12_strengthBy h16) okX12_strengthBy rfl dX12_ask_66 lk_X12_140 rfl (by decide) (by decide) (Nat.le_of_ble_eq_true rfl) ⟨Nat.le_of_ble_eq_true rfl, Nat.le_of_ble_eq_true rfl⟩ rfl ?_
          show QW G (qrm 3 0 0) YX12_ask 0 0 69 [some (.ref 25), some (.int x1), some (.int x2), some (.int x3), some (.int x4), some (.int x5), some (.int c6), some (.int c7)] [.int r17, .int c6] SH M J _
          refine q_iload_n (pc := 69) dX12_ask_69 rfl ?_
          refine q_bipush (pc := 70) (v := nI 10) dX12_ask_70 (by decide) ?_
          refine q_iload (pc := 72) dX12_ask_72 rfl ?_
          obtain ⟨r20, h19, h⟩ := Option.bind_eq_some_iff.mp h
          refine q_calls (pc := 74) (st := [.int r17, .int c6]) (a_X12_strengthBy h19) okX12_strengthBy rfl dX12_ask_74 lk_X12_140 rfl (by decide) (by decide) (Nat.le_of_ble_eq_true rfl) ⟨Nat.le_of_ble_eq_true rfl, Nat.le_of_ble_eq_true rfl⟩ rfl ?_
          show QW G (qrm 3 0 0) YX12_ask 0 0 77 [some (.ref 25), some (.int x1), some (.int x2), some (.int x3), some (.int x4), some (.int x5), some (.int c6), some (.int c7)] [.int r20, .int r17, .int c6] SH M J _
          by_cases k21 : r17 = r20
          · rw [if_pos k21] at h
            refine q_icmp_ne_f (pc := 77) (tgt := 84) dX12_ask_77 (by decide) k21 ?_
            refine q_iconst (pc := 80) (v := nI 1) dX12_ask_80 (by decide) ?_
            refine q_goto (pc := 81) (tgt := 85) dX12_ask_81 (by decide) ?_
            refine q_iadd (pc := 85) dX12_ask_85 ?_
            refine q_istore (pc := 86) (ls' := [some (.ref 25), some (.int x1), some (.int x2), some (.int x3), some (.int x4), some (.int x5), some (.int (c6 + (nI 1))), some (.int c7)]) dX12_ask_86 (by decide) rfl rfl ?_
            refine q_iincW (pc := 88) (w := nI 1) (ls' := [some (.ref 25), some (.int x1), some (.int x2), some (.int x3), some (.int x4), some (.int x5), some (.int (c6 + (nI 1))), some (.int (c7 + nI 1))]) dX12_ask_88 rfl (by decide) (by decide) rfl rfl ?_
            refine q_goto (pc := 91) (tgt := 34) dX12_ask_91 (by decide) ?_
            exact l_X12_ask_L34 x1 x2 x3 x4 x5 M J n (c6 + (nI 1)) (c7 + nI 1) res h hk
          · rw [if_neg k21] at h
            refine q_icmp_ne_t (pc := 77) (tgt := 84) dX12_ask_77 (by decide) k21 ?_
            refine q_iconst (pc := 84) (v := nI 0) dX12_ask_84 (by decide) ?_
            refine q_iadd (pc := 85) dX12_ask_85 ?_
            refine q_istore (pc := 86) (ls' := [some (.ref 25), some (.int x1), some (.int x2), some (.int x3), some (.int x4), some (.int x5), some (.int (c6 + (nI 0))), some (.int c7)]) dX12_ask_86 (by decide) rfl rfl ?_
            refine q_iincW (pc := 88) (w := nI 1) (ls' := [some (.ref 25), some (.int x1), some (.int x2), some (.int x3), some (.int x4), some (.int x5), some (.int (c6 + (nI 0))), some (.int (c7 + nI 1))]) dX12_ask_88 rfl (by decide) (by decide) rfl rfl ?_
            refine q_goto (pc := 91) (tgt := 34) dX12_ask_91 (by decide) ?_
            exact l_X12_ask_L34 x1 x2 x3 x4 x5 M J n (c6 + (nI 0)) (c7 + nI 1) res h hk
        · rw [if_neg k14] at h
          refine q_if_eq_t (pc := 58) (tgt := 84) dX12_ask_58 (by decide) (qb_f k14) ?_
          refine q_iconst (pc := 84) (v := nI 0) dX12_ask_84 (by decide) ?_
          refine q_iadd (pc := 85) dX12_ask_85 ?_
          refine q_istore (pc := 86) (ls' := [some (.ref 25), some (.int x1), some (.int x2), some (.int x3), some (.int x4), some (.int x5), some (.int (c6 + (nI 0))), some (.int c7)]) dX12_ask_86 (by decide) rfl rfl ?_
          refine q_iincW (pc := 88) (w := nI 1) (ls' := [some (.ref 25), some (.int x1), some (.int x2), some (.int x3), some (.int x4), some (.int x5), some (.int (c6 + (nI 0))), some (.int (c7 + nI 1))]) dX12_ask_88 rfl (by decide) (by decide) rfl rfl ?_
          refine q_goto (pc := 91) (tgt := 34) dX12_ask_91 (by decide) ?_
          exact l_X12_ask_L34 x1 x2 x3 x4 x5 M J n (c6 + (nI 0)) (c7 + nI 1) res h hk
      · rw [if_neg k10] at h
        refine q_if_eq_t (pc := 49) (tgt := 84) dX12_ask_49 (by decide) (qb_f k10) ?_
        refine q_iconst (pc := 84) (v := nI 0) dX12_ask_84 (by decide) ?_
        refine q_iadd (pc := 85) dX12_ask_85 ?_
        refine q_istore (pc := 86) (ls' := [some (.ref 25), some (.int x1), some (.int x2), some (.int x3), some (.int x4), some (.int x5), some (.int (c6 + (nI 0))), some (.int c7)]) dX12_ask_86 (by decide) rfl rfl ?_
        refine q_iincW (pc := 88) (w := nI 1) (ls' := [some (.ref 25), some (.int x1), some (.int x2), some (.int x3), some (.int x4), some (.int x5), some (.int (c6 + (nI 0))), some (.int (c7 + nI 1))]) dX12_ask_88 rfl (by decide) (by decide) rfl rfl ?_
        refine q_goto (pc := 91) (tgt := 34) dX12_ask_91 (by decide) ?_
        exact l_X12_ask_L34 x1 x2 x3 x4 x5 M J n (c6 + (nI 0)) (c7 + nI 1) res h hk
def f_X12_ask_L21 (x1 : Int32) (x2 : Int32) (x3 : Int32) (M : qM) : Nat → Int32 → Int32 → Option (Int32 × Int32)
  | 0, _, _ => none
  | n + 1, c4, c5 =>
  if (nI 21) ≤ c5 then some (c4, c5)
    else (f_X12_ask_L34 x1 x2 x3 c4 c5 M qF (nI 0) (nI 0)).bind fun e22 => (f_X12_greater c4 e22.1 M).bind fun r25 => f_X12_ask_L21 x1 x2 x3 M n r25 (c5 + nI 1)
set_option maxRecDepth 20000 in
set_option maxHeartbeats 4000000 in
theorem l_X12_ask_L21 {G : qG} {ρ : qR} (x1 : Int32) (x2 : Int32) (x3 : Int32) (M : qM) (J : qJ) : ∀ (n : Nat) (c4 : Int32) (c5 : Int32) (res : Int32 × Int32), f_X12_ask_L21 x1 x2 x3 M n c4 c5 = some res → (∀ x : Int32 × Int32, res = x → QW G (qrm 3 0 0) YX12_ask 0 0 109 [some (.ref 25), some (.int x1), some (.int x2), some (.int x3), some (.int x.1), none, none, none] [] SH M J ρ) → QW G (qrm 3 0 0) YX12_ask 0 0 21 [some (.ref 25), some (.int x1), some (.int x2), some (.int x3), some (.int c4), some (.int c5), none, none] [] SH M J ρ
  | 0, _, _, _, h, _ => by simp [f_X12_ask_L21] at h
  | n + 1, c4, c5, res, h, hk => by
    rw [f_X12_ask_L21] at h
    refine q_iload (pc := 21) dX12_ask_21 rfl ?_
    refine q_bipush (pc := 23) (v := nI 21) dX12_ask_23 (by decide) ?_
    by_cases k5 : (nI 21) ≤ c5
    · rw [if_pos k5] at h
      refine q_icmp_ge_t (pc := 25) (tgt := 109) dX12_ask_25 (by decide) k5 ?_
      refine q_weak (ls' := [some (.ref 25), some (.int x1), some (.int x2), some (.int x3), some (.int c4), none, none, none]) ⟨rfl, ⟨rfl, ⟨rfl, ⟨rfl, ⟨rfl, trivial⟩⟩⟩⟩⟩ ?_
      obtain rfl := Option.some.inj h
      exact hk (c4, c5) rfl
    · rw [if_neg k5] at h
      refine q_icmp_ge_f (pc := 25) (tgt := 109) dX12_ask_25 (by decide) k5 ?_
      refine q_iconst (pc := 28) (v := nI 0) dX12_ask_28 (by decide) ?_
      refine q_istore (pc := 29) (ls' := [some (.ref 25), some (.int x1), some (.int x2), some (.int x3), some (.int c4), some (.int c5), some (.int (nI 0)), none]) dX12_ask_29 (by decide) rfl rfl ?_
      refine q_iconst (pc := 31) (v := nI 0) dX12_ask_31 (by decide) ?_
      refine q_istore (pc := 32) (ls' := [some (.ref 25), some (.int x1), some (.int x2), some (.int x3), some (.int c4), some (.int c5), some (.int (nI 0)), some (.int (nI 0))]) dX12_ask_32 (by decide) rfl rfl ?_
      obtain ⟨⟨e22_6, e22_7⟩, h26, h⟩ := Option.bind_eq_some_iff.mp h
      try dsimp only at h
      refine l_X12_ask_L34 x1 x2 x3 c4 c5 M J qF (nI 0) (nI 0) _ h26 (fun x hx => ?_)
      subst hx
      show QW G (qrm 3 0 0) YX12_ask 0 0 94 [some (.ref 25), some (.int x1), some (.int x2), some (.int x3), some (.int c4), some (.int c5), some (.int e22_6), none] [] SH M J _
      refine q_iload (pc := 94) dX12_ask_94 rfl ?_
      refine q_iload (pc := 96) dX12_ask_96 rfl ?_
      obtain ⟨r25, h24, h⟩ := Option.bind_eq_some_iff.mp h
      refine q_calls (pc := 98) (st := []) (a_X12_greater h24) okX12_greater rfl dX12_ask_98 lk_X12_239 rfl (by decide) (by decide) (Nat.le_of_ble_eq_true rfl) ⟨Nat.le_of_ble_eq_true rfl, Nat.le_of_ble_eq_true rfl⟩ rfl ?_
      show QW G (qrm 3 0 0) YX12_ask 0 0 101 [some (.ref 25), some (.int x1), some (.int x2), some (.int x3), some (.int c4), some (.int c5), some (.int e22_6), none] [.int r25] SH M J _
      refine q_istore (pc := 101) (ls' := [some (.ref 25), some (.int x1), some (.int x2), some (.int x3), some (.int r25), some (.int c5), some (.int e22_6), none]) dX12_ask_101 (by decide) rfl rfl ?_
      refine q_iincW (pc := 103) (w := nI 1) (ls' := [some (.ref 25), some (.int x1), some (.int x2), some (.int x3), some (.int r25), some (.int (c5 + nI 1)), some (.int e22_6), none]) dX12_ask_103 rfl (by decide) (by decide) rfl rfl ?_
      refine q_goto (pc := 106) (tgt := 21) dX12_ask_106 (by decide) ?_
      refine q_weak (ls' := [some (.ref 25), some (.int x1), some (.int x2), some (.int x3), some (.int r25), some (.int (c5 + nI 1)), none, none]) ⟨rfl, ⟨rfl, ⟨rfl, ⟨rfl, ⟨rfl, ⟨rfl, trivial⟩⟩⟩⟩⟩⟩ ?_
      exact l_X12_ask_L21 x1 x2 x3 M J n r25 (c5 + nI 1) res h hk
def f_X12_ask_L10  (M : qM) : Nat → Int32 → Int32 → Int32 → Option (Int32 × Int32 × Int32)
  | 0, _, _, _ => none
  | n + 1, c1, c2, c3 =>
  if (nI 3) ≤ c3 then some (c1, c2, c3)
    else (f_X12_ask_L21 c1 c2 c3 M qF (nI 0) (nI 0)).bind fun e27 => if c1 ≤ e27.1 then (f_X12_lesser e27.1 c1 M).bind fun r31 => f_X12_ask_L10  M n r31 c2 (c3 + nI 1)
    else (f_X12_lesser e27.1 c1 M).bind fun r34 => f_X12_ask_L10  M n r34 c3 (c3 + nI 1)
set_option maxRecDepth 20000 in
set_option maxHeartbeats 4000000 in
theorem l_X12_ask_L10 {G : qG} {ρ : qR}  (M : qM) (J : qJ) : ∀ (n : Nat) (c1 : Int32) (c2 : Int32) (c3 : Int32) (res : Int32 × Int32 × Int32), f_X12_ask_L10  M n c1 c2 c3 = some res → (∀ x : Int32 × Int32 × Int32, res = x → QW G (qrm 3 0 0) YX12_ask 0 0 134 [none, none, some (.int x.2.1), none, none, none, none, none] [] SH M J ρ) → QW G (qrm 3 0 0) YX12_ask 0 0 10 [some (.ref 25), some (.int c1), some (.int c2), some (.int c3), none, none, none, none] [] SH M J ρ
  | 0, _, _, _, _, h, _ => by simp [f_X12_ask_L10] at h
  | n + 1, c1, c2, c3, res, h, hk => by
    rw [f_X12_ask_L10] at h
    refine q_iload_n (pc := 10) dX12_ask_10 rfl ?_
    refine q_iconst (pc := 11) (v := nI 3) dX12_ask_11 (by decide) ?_
    by_cases k4 : (nI 3) ≤ c3
    · rw [if_pos k4] at h
      refine q_icmp_ge_t (pc := 12) (tgt := 134) dX12_ask_12 (by decide) k4 ?_
      refine q_weak (ls' := [none, none, some (.int c2), none, none, none, none, none]) ⟨rfl, trivial⟩ ?_
      obtain rfl := Option.some.inj h
      exact hk (c1, c2, c3) rfl
    · rw [if_neg k4] at h
      refine q_icmp_ge_f (pc := 12) (tgt := 134) dX12_ask_12 (by decide) k4 ?_
      refine q_iconst (pc := 15) (v := nI 0) dX12_ask_15 (by decide) ?_
      refine q_istore (pc := 16) (ls' := [some (.ref 25), some (.int c1), some (.int c2), some (.int c3), some (.int (nI 0)), none, none, none]) dX12_ask_16 (by decide) rfl rfl ?_
      refine q_iconst (pc := 18) (v := nI 0) dX12_ask_18 (by decide) ?_
      refine q_istore (pc := 19) (ls' := [some (.ref 25), some (.int c1), some (.int c2), some (.int c3), some (.int (nI 0)), some (.int (nI 0)), none, none]) dX12_ask_19 (by decide) rfl rfl ?_
      obtain ⟨⟨e27_4, e27_5⟩, h35, h⟩ := Option.bind_eq_some_iff.mp h
      try dsimp only at h
      refine l_X12_ask_L21 c1 c2 c3 M J qF (nI 0) (nI 0) _ h35 (fun x hx => ?_)
      subst hx
      show QW G (qrm 3 0 0) YX12_ask 0 0 109 [some (.ref 25), some (.int c1), some (.int c2), some (.int c3), some (.int e27_4), none, none, none] [] SH M J _
      refine q_iload (pc := 109) dX12_ask_109 rfl ?_
      refine q_iload_n (pc := 111) dX12_ask_111 rfl ?_
      by_cases k28 : c1 ≤ e27_4
      · rw [if_pos k28] at h
        refine q_icmp_ge_t (pc := 112) (tgt := 119) dX12_ask_112 (by decide) k28 ?_
        refine q_iload_n (pc := 119) dX12_ask_119 rfl ?_
        refine q_istore_n (pc := 120) (ls' := [some (.ref 25), some (.int c1), some (.int c2), some (.int c3), some (.int e27_4), none, none, none]) dX12_ask_120 (by decide) rfl rfl ?_
        refine q_iload (pc := 121) dX12_ask_121 rfl ?_
        refine q_iload_n (pc := 123) dX12_ask_123 rfl ?_
        obtain ⟨r31, h30, h⟩ := Option.bind_eq_some_iff.mp h
        refine q_calls (pc := 124) (st := []) (a_X12_lesser h30) okX12_lesser rfl dX12_ask_124 lk_X12_199 rfl (by decide) (by decide) (Nat.le_of_ble_eq_true rfl) ⟨Nat.le_of_ble_eq_true rfl, Nat.le_of_ble_eq_true rfl⟩ rfl ?_
        show QW G (qrm 3 0 0) YX12_ask 0 0 127 [some (.ref 25), some (.int c1), some (.int c2), some (.int c3), some (.int e27_4), none, none, none] [.int r31] SH M J _
        refine q_istore_n (pc := 127) (ls' := [some (.ref 25), some (.int r31), some (.int c2), some (.int c3), some (.int e27_4), none, none, none]) dX12_ask_127 (by decide) rfl rfl ?_
        refine q_iincW (pc := 128) (w := nI 1) (ls' := [some (.ref 25), some (.int r31), some (.int c2), some (.int (c3 + nI 1)), some (.int e27_4), none, none, none]) dX12_ask_128 rfl (by decide) (by decide) rfl rfl ?_
        refine q_goto (pc := 131) (tgt := 10) dX12_ask_131 (by decide) ?_
        refine q_weak (ls' := [some (.ref 25), some (.int r31), some (.int c2), some (.int (c3 + nI 1)), none, none, none, none]) ⟨rfl, ⟨rfl, ⟨rfl, ⟨rfl, trivial⟩⟩⟩⟩ ?_
        exact l_X12_ask_L10  M J n r31 c2 (c3 + nI 1) res h hk
      · rw [if_neg k28] at h
        refine q_icmp_ge_f (pc := 112) (tgt := 119) dX12_ask_112 (by decide) k28 ?_
        refine q_iload_n (pc := 115) dX12_ask_115 rfl ?_
        refine q_goto (pc := 116) (tgt := 120) dX12_ask_116 (by decide) ?_
        refine q_istore_n (pc := 120) (ls' := [some (.ref 25), some (.int c1), some (.int c3), some (.int c3), some (.int e27_4), none, none, none]) dX12_ask_120 (by decide) rfl rfl ?_
        refine q_iload (pc := 121) dX12_ask_121 rfl ?_
        refine q_iload_n (pc := 123) dX12_ask_123 rfl ?_
        obtain ⟨r34, h33, h⟩ := Option.bind_eq_some_iff.mp h
        refine q_calls (pc := 124) (st := []) (a_X12_lesser h33) okX12_lesser rfl dX12_ask_124 lk_X12_199 rfl (by decide) (by decide) (Nat.le_of_ble_eq_true rfl) ⟨Nat.le_of_ble_eq_true rfl, Nat.le_of_ble_eq_true rfl⟩ rfl ?_
        show QW G (qrm 3 0 0) YX12_ask 0 0 127 [some (.ref 25), some (.int c1), some (.int c3), some (.int c3), some (.int e27_4), none, none, none] [.int r34] SH M J _
        refine q_istore_n (pc := 127) (ls' := [some (.ref 25), some (.int r34), some (.int c3), some (.int c3), some (.int e27_4), none, none, none]) dX12_ask_127 (by decide) rfl rfl ?_
        refine q_iincW (pc := 128) (w := nI 1) (ls' := [some (.ref 25), some (.int r34), some (.int c3), some (.int (c3 + nI 1)), some (.int e27_4), none, none, none]) dX12_ask_128 rfl (by decide) (by decide) rfl rfl ?_
        refine q_goto (pc := 131) (tgt := 10) dX12_ask_131 (by decide) ?_
        refine q_weak (ls' := [some (.ref 25), some (.int r34), some (.int c3), some (.int (c3 + nI 1)), none, none, none, none]) ⟨rfl, ⟨rfl, ⟨rfl, ⟨rfl, trivial⟩⟩⟩⟩ ?_
        exact l_X12_ask_L10  M J n r34 c3 (c3 + nI 1) res h hk
def f_X12_ask  (M : qM) : Option Int32 :=
  (f_X12_weights (nI 0) M).bind fun r3 => (f_X12_ask_L10 M qF r3 (-1 : Int32) (nI 0)).bind fun e36 => some (e36.2.1)
set_option maxRecDepth 20000 in
set_option maxHeartbeats 4000000 in
theorem a_X12_ask {G : qG}  {M : qM} {J : qJ} {r : Int32} (h : f_X12_ask  M = some (r)) : QM G 3 0 0 YX12_ask [.ref 25] SH M J (some (.int r), SH, M, J) := by
  refine ⟨Nat.le_of_ble_eq_true rfl, Or.inl rfl, ?_⟩
  show QW G (qrm 3 0 0) YX12_ask 0 0 0 [some (.ref 25), none, none, none, none, none, none, none] [] SH M J _
  unfold f_X12_ask at h
  refine q_aload_n (pc := 0) dX12_ask_0 rfl ?_
  refine q_iconst (pc := 1) (v := nI 0) dX12_ask_1 (by decide) ?_
  obtain ⟨r3, h2, h⟩ := Option.bind_eq_some_iff.mp h
  refine q_callv (pc := 2) (st := []) (a_X12_weights h2) okX12_weights rfl dX12_ask_2 lk_X12_262 sh_25 cl_11 rfl (by decide) (by decide) (Nat.le_of_ble_eq_true rfl) ⟨Nat.le_of_ble_eq_true rfl, Nat.le_of_ble_eq_true rfl⟩ rfl ?_
  show QW G (qrm 3 0 0) YX12_ask 0 0 5 [some (.ref 25), none, none, none, none, none, none, none] [.int r3] SH M J _
  refine q_istore_n (pc := 5) (ls' := [some (.ref 25), some (.int r3), none, none, none, none, none, none]) dX12_ask_5 (by decide) rfl rfl ?_
  refine q_iconst (pc := 6) (v := (-1 : Int32)) dX12_ask_6 (by decide) ?_
  refine q_istore_n (pc := 7) (ls' := [some (.ref 25), some (.int r3), some (.int (-1 : Int32)), none, none, none, none, none]) dX12_ask_7 (by decide) rfl rfl ?_
  refine q_iconst (pc := 8) (v := nI 0) dX12_ask_8 (by decide) ?_
  refine q_istore_n (pc := 9) (ls' := [some (.ref 25), some (.int r3), some (.int (-1 : Int32)), some (.int (nI 0)), none, none, none, none]) dX12_ask_9 (by decide) rfl rfl ?_
  obtain ⟨⟨e36_1, e36_2, e36_3⟩, h37, h⟩ := Option.bind_eq_some_iff.mp h
  try dsimp only at h
  refine l_X12_ask_L10 M J qF r3 (-1 : Int32) (nI 0) _ h37 (fun x hx => ?_)
  subst hx
  show QW G (qrm 3 0 0) YX12_ask 0 0 134 [none, none, some (.int e36_2), none, none, none, none, none] [] SH M J _
  refine q_iload_n (pc := 134) dX12_ask_134 rfl ?_
  obtain rfl := Option.some.inj h
  exact q_iret (pc := 135) dX12_ask_135 rfl rfl rfl
def f_X12_write (a1 : Int32) (a2 : Int32) (M : qM) : Option (Int32 × qM) :=
  (f_X12_isCouple a1 M).bind fun b3 => if b3 = true then (f_X12_in a2.toInt64 (lN 0) (lN 99) M).bind fun b7 => if b7 = true then if (M 25 15) = (nI 15) then some ((-1000000004 : Int32), M)
    else (qwr M 35 30 ((nI 2) * (M 25 15)) a1).bind fun M10 => (qwr M10 35 30 (((nI 2) * (M10 25 15)) + (nI 1)) a2).bind fun M12 => (qpu M12 25 15 ((M12 25 15) + (nI 1))).bind fun M14 => some (M14 25 15, M14)
    else some ((-1000000002 : Int32), M)
    else some ((-1000000001 : Int32), M)
set_option maxRecDepth 20000 in
set_option maxHeartbeats 4000000 in
theorem a_X12_write {G : qG} {a1 : Int32} {a2 : Int32} {M : qM} {J : qJ} {r : Int32} {M' : qM} (h : f_X12_write a1 a2 M = some (r, M')) : QM G 2 0 0 YX12_write [.ref 25, .int a1, .int a2] SH M J (some (.int r), SH, M', J) := by
  refine ⟨Nat.le_of_ble_eq_true rfl, Or.inl rfl, ?_⟩
  show QW G (qrm 2 0 0) YX12_write 0 0 0 [some (.ref 25), some (.int a1), some (.int a2)] [] SH M J _
  unfold f_X12_write at h
  refine q_aload_n (pc := 0) dX12_write_0 rfl ?_
  refine q_iload_n (pc := 1) dX12_write_1 rfl ?_
  obtain ⟨b3, h2, h⟩ := Option.bind_eq_some_iff.mp h
  refine q_callv (pc := 2) (st := []) (a_X12_isCouple h2) okX12_isCouple rfl dX12_write_2 lk_X12_173 sh_25 cl_11 rfl (by decide) (by decide) (Nat.le_of_ble_eq_true rfl) ⟨Nat.le_of_ble_eq_true rfl, Nat.le_of_ble_eq_true rfl⟩ rfl ?_
  show QW G (qrm 2 0 0) YX12_write 0 0 5 [some (.ref 25), some (.int a1), some (.int a2)] [.int (qb b3)] SH M J _
  by_cases k4 : b3 = true
  · rw [if_pos k4] at h
    refine q_if_ne_t (pc := 5) (tgt := 11) dX12_write_5 (by decide) (qb_t k4) ?_
    refine q_iload_n (pc := 11) dX12_write_11 rfl ?_
    refine q_i2l (pc := 12) dX12_write_12 ?_
    refine q_lconst (pc := 13) (v := lN 0) dX12_write_13 rfl ?_
    refine q_ldc2 (pc := 14) (v := lN 99) dX12_write_14 lk_X12_214 ?_
    obtain ⟨b7, h6, h⟩ := Option.bind_eq_some_iff.mp h
    refine q_calls (pc := 17) (st := []) (a_X12_in h6) okX12_in rfl dX12_write_17 lk_X12_58 rfl (by decide) (by decide) (Nat.le_of_ble_eq_true rfl) ⟨Nat.le_of_ble_eq_true rfl, Nat.le_of_ble_eq_true rfl⟩ rfl ?_
    show QW G (qrm 2 0 0) YX12_write 0 0 20 [some (.ref 25), some (.int a1), some (.int a2)] [.int (qb b7)] SH M J _
    by_cases k8 : b7 = true
    · rw [if_pos k8] at h
      refine q_if_ne_t (pc := 20) (tgt := 26) dX12_write_20 (by decide) (qb_t k8) ?_
      refine q_aload_n (pc := 26) dX12_write_26 rfl ?_
      refine q_getf (pc := 27) (f := 15) (v := .int (M 25 15)) dX12_write_27 sh_25 cl_11 inX12 rfl (by decide) lk_X12_72 rfl ?_
      refine q_bipush (pc := 30) (v := nI 15) dX12_write_30 (by decide) ?_
      by_cases k9 : (M 25 15) = (nI 15)
      · rw [if_pos k9] at h
        refine q_icmp_ne_f (pc := 32) (tgt := 38) dX12_write_32 (by decide) k9 ?_
        refine q_ldc (pc := 35) (v := (-1000000004 : Int32)) dX12_write_35 lk_X12_81 ?_
        have h := Option.some.inj h
        obtain ⟨rfl, rfl⟩ := Prod.mk.inj h
        exact q_iret (pc := 37) dX12_write_37 rfl rfl rfl
      · rw [if_neg k9] at h
        refine q_icmp_ne_t (pc := 32) (tgt := 38) dX12_write_32 (by decide) k9 ?_
        refine q_aload_n (pc := 38) dX12_write_38 rfl ?_
        refine q_getf (pc := 39) (f := 14) (v := .ref 35) dX12_write_39 sh_25 cl_11 inX12 rfl (by decide) lk_X12_42 rfl ?_
        refine q_iconst (pc := 42) (v := nI 2) dX12_write_42 (by decide) ?_
        refine q_aload_n (pc := 43) dX12_write_43 rfl ?_
        refine q_getf (pc := 44) (f := 15) (v := .int (M 25 15)) dX12_write_44 sh_25 cl_11 inX12 rfl (by decide) lk_X12_72 rfl ?_
        refine q_imul (pc := 47) dX12_write_47 ?_
        refine q_iload_n (pc := 48) dX12_write_48 rfl ?_
        obtain ⟨M10, h11, h⟩ := Option.bind_eq_some_iff.mp h
        refine q_iast (pc := 49) dX12_write_49 sh_35 h11 ?_
        refine q_aload_n (pc := 50) dX12_write_50 rfl ?_
        refine q_getf (pc := 51) (f := 14) (v := .ref 35) dX12_write_51 sh_25 cl_11 inX12 rfl (by decide) lk_X12_42 rfl ?_
        refine q_iconst (pc := 54) (v := nI 2) dX12_write_54 (by decide) ?_
        refine q_aload_n (pc := 55) dX12_write_55 rfl ?_
        refine q_getf (pc := 56) (f := 15) (v := .int (M10 25 15)) dX12_write_56 sh_25 cl_11 inX12 rfl (by decide) lk_X12_72 rfl ?_
        refine q_imul (pc := 59) dX12_write_59 ?_
        refine q_iconst (pc := 60) (v := nI 1) dX12_write_60 (by decide) ?_
        refine q_iadd (pc := 61) dX12_write_61 ?_
        refine q_iload_n (pc := 62) dX12_write_62 rfl ?_
        obtain ⟨M12, h13, h⟩ := Option.bind_eq_some_iff.mp h
        refine q_iast (pc := 63) dX12_write_63 sh_35 h13 ?_
        refine q_aload_n (pc := 64) dX12_write_64 rfl ?_
        refine q_dup (pc := 65) dX12_write_65 rfl ?_
        refine q_getf (pc := 66) (f := 15) (v := .int (M12 25 15)) dX12_write_66 sh_25 cl_11 inX12 rfl (by decide) lk_X12_72 rfl ?_
        refine q_iconst (pc := 69) (v := nI 1) dX12_write_69 (by decide) ?_
        refine q_iadd (pc := 70) dX12_write_70 ?_
        obtain ⟨M14, h15, h⟩ := Option.bind_eq_some_iff.mp h
        refine q_putI (pc := 71) (f := 15) tyX12 dX12_write_71 sh_25 cl_11 inX12 tyX12_ok nmX12 rfl (by decide) lk_X12_72 rfl rfl rfl h15 ?_
        refine q_aload_n (pc := 74) dX12_write_74 rfl ?_
        refine q_getf (pc := 75) (f := 15) (v := .int (M14 25 15)) dX12_write_75 sh_25 cl_11 inX12 rfl (by decide) lk_X12_72 rfl ?_
        have h := Option.some.inj h
        obtain ⟨rfl, rfl⟩ := Prod.mk.inj h
        exact q_iret (pc := 78) dX12_write_78 rfl rfl rfl
    · rw [if_neg k8] at h
      refine q_if_ne_f (pc := 20) (tgt := 26) dX12_write_20 (by decide) (qb_f k8) ?_
      refine q_ldc (pc := 23) (v := (-1000000002 : Int32)) dX12_write_23 lk_X12_77 ?_
      have h := Option.some.inj h
      obtain ⟨rfl, rfl⟩ := Prod.mk.inj h
      exact q_iret (pc := 25) dX12_write_25 rfl rfl rfl
  · rw [if_neg k4] at h
    refine q_if_ne_f (pc := 5) (tgt := 11) dX12_write_5 (by decide) (qb_f k4) ?_
    refine q_ldc (pc := 8) (v := (-1000000001 : Int32)) dX12_write_8 lk_X12_176 ?_
    have h := Option.some.inj h
    obtain ⟨rfl, rfl⟩ := Prod.mk.inj h
    exact q_iret (pc := 10) dX12_write_10 rfl rfl rfl
def f_X12_tear  (M : qM) : Option (Int32 × qM) :=
  (qpu M 25 13 (nI 0)).bind fun M1 => (qpu M1 25 15 (nI 0)).bind fun M3 => some ((M 25 13) + (M 25 15), M3)
set_option maxRecDepth 20000 in
set_option maxHeartbeats 4000000 in
theorem a_X12_tear {G : qG}  {M : qM} {J : qJ} {r : Int32} {M' : qM} (h : f_X12_tear  M = some (r, M')) : QM G 0 0 0 YX12_tear [.ref 25] SH M J (some (.int r), SH, M', J) := by
  refine ⟨Nat.le_of_ble_eq_true rfl, Or.inl rfl, ?_⟩
  show QW G (qrm 0 0 0) YX12_tear 0 0 0 [some (.ref 25), none] [] SH M J _
  unfold f_X12_tear at h
  refine q_aload_n (pc := 0) dX12_tear_0 rfl ?_
  refine q_getf (pc := 1) (f := 13) (v := .int (M 25 13)) dX12_tear_1 sh_25 cl_11 inX12 rfl (by decide) lk_X12_69 rfl ?_
  refine q_aload_n (pc := 4) dX12_tear_4 rfl ?_
  refine q_getf (pc := 5) (f := 15) (v := .int (M 25 15)) dX12_tear_5 sh_25 cl_11 inX12 rfl (by decide) lk_X12_72 rfl ?_
  refine q_iadd (pc := 8) dX12_tear_8 ?_
  refine q_istore_n (pc := 9) (ls' := [some (.ref 25), some (.int ((M 25 13) + (M 25 15)))]) dX12_tear_9 (by decide) rfl rfl ?_
  refine q_aload_n (pc := 10) dX12_tear_10 rfl ?_
  refine q_iconst (pc := 11) (v := nI 0) dX12_tear_11 (by decide) ?_
  obtain ⟨M1, h2, h⟩ := Option.bind_eq_some_iff.mp h
  refine q_putI (pc := 12) (f := 13) tyX12 dX12_tear_12 sh_25 cl_11 inX12 tyX12_ok nmX12 rfl (by decide) lk_X12_69 rfl rfl rfl h2 ?_
  refine q_aload_n (pc := 15) dX12_tear_15 rfl ?_
  refine q_iconst (pc := 16) (v := nI 0) dX12_tear_16 (by decide) ?_
  obtain ⟨M3, h4, h⟩ := Option.bind_eq_some_iff.mp h
  refine q_putI (pc := 17) (f := 15) tyX12 dX12_tear_17 sh_25 cl_11 inX12 tyX12_ok nmX12 rfl (by decide) lk_X12_72 rfl rfl rfl h4 ?_
  refine q_iload_n (pc := 20) dX12_tear_20 rfl ?_
  have h := Option.some.inj h
  obtain ⟨rfl, rfl⟩ := Prod.mk.inj h
  exact q_iret (pc := 21) dX12_tear_21 rfl rfl rfl
