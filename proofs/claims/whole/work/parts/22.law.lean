def f_L_law_L18 (xs : Nat → Int32) (xl : Nat) : Nat → Int32 → qM → qJ → Option ((Bool × qM × qJ) ⊕ (Int32 × qM × qJ))
  | 0, _, _, _ => none
  | n + 1, c3, M, J =>
  if ((nI xl) - (nI 4)) < c3 then some (.inr (c3, M, J))
    else (qsc xs xl c3).bind fun v2 => if (v2 &&& (nI 31)) = nI 0 then (qsc xs xl (c3 + (nI 1))).bind fun v5 => (f_X11_feed v5 M).bind fun p7 => (qsc xs xl (c3 + (nI 1))).bind fun v11 => (f_X12_feed v11 p7.2).bind fun p13 => if p7.1 = p13.1 then f_L_law_L18 xs xl n (c3 + nI 4) p13.2 J
    else some (.inl (false, p13.2, J))
    else if (v2 &&& (nI 31)) = nI 1 then (f_X11_deanery M).bind fun p19 => (f_X12_deanery p19.2).bind fun p23 => if p19.1 = p23.1 then f_L_law_L18 xs xl n (c3 + nI 4) p23.2 J
    else some (.inl (false, p23.2, J))
    else if (v2 &&& (nI 31)) = nI 2 then (f_X11_fault M).bind fun r31 => (f_X12_fault M).bind fun r34 => if r31 = r34 then f_L_law_L18 xs xl n (c3 + nI 4) M J
    else some (.inl (false, M, J))
    else if (v2 &&& (nI 31)) = nI 3 then (qsc xs xl (c3 + (nI 1))).bind fun v37 => (f_X11_told v37 M).bind fun p39 => (qsc xs xl (c3 + (nI 1))).bind fun v43 => (f_X12_told v43 p39.2).bind fun r47 => if p39.1 = r47 then f_L_law_L18 xs xl n (c3 + nI 4) p39.2 J
    else some (.inl (false, p39.2, J))
    else if (v2 &&& (nI 31)) = nI 4 then (qsc xs xl (c3 + (nI 1))).bind fun v50 => (qsc xs xl (c3 + (nI 2))).bind fun v52 => (f_X11_couple v50 v52 M).bind fun r56 => (qsc xs xl (c3 + (nI 1))).bind fun v57 => (qsc xs xl (c3 + (nI 2))).bind fun v59 => (f_X12_couple v57 v59 M).bind fun r63 => if r56 = r63 then f_L_law_L18 xs xl n (c3 + nI 4) M J
    else some (.inl (false, M, J))
    else if (v2 &&& (nI 31)) = nI 5 then (qsc xs xl (c3 + (nI 1))).bind fun v66 => (qsc xs xl (c3 + (nI 2))).bind fun v68 => (f_X11_objector v66 v68 M).bind fun r72 => (qsc xs xl (c3 + (nI 1))).bind fun v73 => (qsc xs xl (c3 + (nI 2))).bind fun v75 => (f_X12_objector v73 v75 M).bind fun r79 => if r72 = r79 then f_L_law_L18 xs xl n (c3 + nI 4) M J
    else some (.inl (false, M, J))
    else if (v2 &&& (nI 31)) = nI 6 then (qsc xs xl (c3 + (nI 1))).bind fun v82 => (qsc xs xl (c3 + (nI 2))).bind fun v84 => (f_X11_box v82 v84 M).bind fun r88 => (qsc xs xl (c3 + (nI 1))).bind fun v89 => (qsc xs xl (c3 + (nI 2))).bind fun v91 => (f_X12_box v89 v91 M).bind fun r95 => if r88 = r95 then f_L_law_L18 xs xl n (c3 + nI 4) M J
    else some (.inl (false, M, J))
    else if (v2 &&& (nI 31)) = nI 7 then (qsc xs xl (c3 + (nI 1))).bind fun v98 => (qsc xs xl (c3 + (nI 2))).bind fun v100 => (qsc xs xl (c3 + (nI 3))).bind fun v102 => (f_X11_against v98 v100 v102 M).bind fun r106 => (qsc xs xl (c3 + (nI 1))).bind fun v107 => (qsc xs xl (c3 + (nI 2))).bind fun v109 => (qsc xs xl (c3 + (nI 3))).bind fun v111 => (f_X12_against v107 v109 v111 M).bind fun r115 => if r106 = r115 then f_L_law_L18 xs xl n (c3 + nI 4) M J
    else some (.inl (false, M, J))
    else if (v2 &&& (nI 31)) = nI 8 then (qsc xs xl (c3 + (nI 1))).bind fun v118 => (qsc xs xl (c3 + (nI 2))).bind fun v120 => (f_X11_stand v118 v120 M).bind fun p122 => (qsc xs xl (c3 + (nI 1))).bind fun v126 => (qsc xs xl (c3 + (nI 2))).bind fun v128 => (f_X12_stand v126 v128 p122.2).bind fun p130 => if p122.1 = p130.1 then f_L_law_L18 xs xl n (c3 + nI 4) p130.2 J
    else some (.inl (false, p130.2, J))
    else if (v2 &&& (nI 31)) = nI 9 then (qsc xs xl (c3 + (nI 1))).bind fun v136 => (f_X11_year v136 M).bind fun p138 => (qsc xs xl (c3 + (nI 1))).bind fun v142 => (f_X12_year v142 p138.2).bind fun p144 => if p138.1 = p144.1 then f_L_law_L18 xs xl n (c3 + nI 4) p144.2 J
    else some (.inl (false, p144.2, J))
    else if (v2 &&& (nI 31)) = nI 10 then (qsc xs xl (c3 + (nI 1))).bind fun v150 => (qsc xs xl (c3 + (nI 2))).bind fun v152 => (qsc xs xl (c3 + (nI 3))).bind fun v154 => if v154 = 0 then (f_X11_teach v150 v152 (nI 0) M).bind fun p157 => (qsc xs xl (c3 + (nI 1))).bind fun v161 => (qsc xs xl (c3 + (nI 2))).bind fun v163 => (qsc xs xl (c3 + (nI 3))).bind fun v165 => if v165 = 0 then (f_X12_teach v161 v163 (nI 0) p157.2).bind fun p168 => if p157.1 = p168.1 then f_L_law_L18 xs xl n (c3 + nI 4) p168.2 J
    else some (.inl (false, p168.2, J))
    else (f_X12_teach v161 v163 (nI 1) p157.2).bind fun p173 => if p157.1 = p173.1 then f_L_law_L18 xs xl n (c3 + nI 4) p173.2 J
    else some (.inl (false, p173.2, J))
    else (f_X11_teach v150 v152 (nI 1) M).bind fun p178 => (qsc xs xl (c3 + (nI 1))).bind fun v182 => (qsc xs xl (c3 + (nI 2))).bind fun v184 => (qsc xs xl (c3 + (nI 3))).bind fun v186 => if v186 = 0 then (f_X12_teach v182 v184 (nI 0) p178.2).bind fun p189 => if p178.1 = p189.1 then f_L_law_L18 xs xl n (c3 + nI 4) p189.2 J
    else some (.inl (false, p189.2, J))
    else (f_X12_teach v182 v184 (nI 1) p178.2).bind fun p194 => if p178.1 = p194.1 then f_L_law_L18 xs xl n (c3 + nI 4) p194.2 J
    else some (.inl (false, p194.2, J))
    else if (v2 &&& (nI 31)) = nI 11 then (qsc xs xl (c3 + (nI 1))).bind fun v200 => (qsc xs xl (c3 + (nI 2))).bind fun v202 => (qsc xs xl (c3 + (nI 3))).bind fun v204 => (f_X11_hear v200 v202 v204 M).bind fun p206 => (qsc xs xl (c3 + (nI 1))).bind fun v210 => (qsc xs xl (c3 + (nI 2))).bind fun v212 => (qsc xs xl (c3 + (nI 3))).bind fun v214 => (f_X12_hear v210 v212 v214 p206.2).bind fun p216 => if p206.1 = p216.1 then f_L_law_L18 xs xl n (c3 + nI 4) p216.2 J
    else some (.inl (false, p216.2, J))
    else if (v2 &&& (nI 31)) = nI 12 then (qsc xs xl (c3 + (nI 1))).bind fun v222 => (qsc xs xl (c3 + (nI 2))).bind fun v224 => (f_X11_practise v222 v224 M).bind fun p226 => (qsc xs xl (c3 + (nI 1))).bind fun v230 => (qsc xs xl (c3 + (nI 2))).bind fun v232 => (f_X12_practise v230 v232 p226.2).bind fun p234 => if p226.1 = p234.1 then f_L_law_L18 xs xl n (c3 + nI 4) p234.2 J
    else some (.inl (false, p234.2, J))
    else if (v2 &&& (nI 31)) = nI 13 then (qsc xs xl (c3 + (nI 1))).bind fun v240 => (qsc xs xl (c3 + (nI 2))).bind fun v242 => (f_X11_sour v240 v242 M).bind fun p244 => (qsc xs xl (c3 + (nI 1))).bind fun v248 => (qsc xs xl (c3 + (nI 2))).bind fun v250 => (f_X12_sour v248 v250 p244.2).bind fun p252 => if p244.1 = p252.1 then f_L_law_L18 xs xl n (c3 + nI 4) p252.2 J
    else some (.inl (false, p252.2, J))
    else if (v2 &&& (nI 31)) = nI 14 then (qsc xs xl (c3 + (nI 1))).bind fun v258 => (f_X11_drift v258 M).bind fun p260 => (qsc xs xl (c3 + (nI 1))).bind fun v264 => (f_X12_drift v264 p260.2 J).bind fun p266 => if p260.1 = p266.1 then f_L_law_L18 xs xl n (c3 + nI 4) p266.2.1 p266.2.2
    else some (.inl (false, p266.2.1, p266.2.2))
    else if (v2 &&& (nI 31)) = nI 15 then (f_X11_undo M).bind fun p273 => (f_X12_undo p273.2).bind fun p277 => if p273.1 = p277.1 then f_L_law_L18 xs xl n (c3 + nI 4) p277.2 J
    else some (.inl (false, p277.2, J))
    else if (v2 &&& (nI 31)) = nI 16 then (qsc xs xl (c3 + (nI 1))).bind fun v283 => (qsc xs xl (c3 + (nI 2))).bind fun v285 => (f_X11_soonest v283 v285 M).bind fun r289 => (qsc xs xl (c3 + (nI 1))).bind fun v290 => (qsc xs xl (c3 + (nI 2))).bind fun v292 => (f_X12_soonest v290 v292 M).bind fun p294 => if r289 = p294.1 then f_L_law_L18 xs xl n (c3 + nI 4) p294.2 J
    else some (.inl (false, p294.2, J))
    else if (v2 &&& (nI 31)) = nI 17 then (qsc xs xl (c3 + (nI 1))).bind fun v300 => (f_X11_match v300 M).bind fun p302 => (qsc xs xl (c3 + (nI 1))).bind fun v306 => (f_X12_match v306 p302.2).bind fun p308 => if p302.1 = p308.1 then f_L_law_L18 xs xl n (c3 + nI 4) p308.2 J
    else some (.inl (false, p308.2, J))
    else if (v2 &&& (nI 31)) = nI 18 then (qsc xs xl (c3 + (nI 1))).bind fun v314 => (qsc xs xl (c3 + (nI 2))).bind fun v316 => (qsc xs xl (c3 + (nI 3))).bind fun v318 => (f_X11_rounds v314 v316 v318 M).bind fun p320 => (qsc xs xl (c3 + (nI 1))).bind fun v324 => (qsc xs xl (c3 + (nI 2))).bind fun v326 => (qsc xs xl (c3 + (nI 3))).bind fun v328 => (f_X12_rounds v324 v326 v328 p320.2).bind fun p330 => if p320.1 = p330.1 then f_L_law_L18 xs xl n (c3 + nI 4) p330.2 J
    else some (.inl (false, p330.2, J))
    else if (v2 &&& (nI 31)) = nI 19 then (qsc xs xl (c3 + (nI 1))).bind fun v336 => (qsc xs xl (c3 + (nI 2))).bind fun v338 => (f_X11_holds v336 v338 M).bind fun r342 => (qsc xs xl (c3 + (nI 1))).bind fun v343 => (qsc xs xl (c3 + (nI 2))).bind fun v345 => (f_X12_holds v343 v345 M).bind fun r349 => if r342 = r349 then f_L_law_L18 xs xl n (c3 + nI 4) M J
    else some (.inl (false, M, J))
    else if (v2 &&& (nI 31)) = nI 20 then (qsc xs xl (c3 + (nI 1))).bind fun v352 => (qsc xs xl (c3 + (nI 2))).bind fun v354 => (f_X11_dry v352 v354 M).bind fun r358 => (qsc xs xl (c3 + (nI 1))).bind fun v359 => (qsc xs xl (c3 + (nI 2))).bind fun v361 => (f_X12_dry v359 v361 M).bind fun r365 => if r358 = r365 then f_L_law_L18 xs xl n (c3 + nI 4) M J
    else some (.inl (false, M, J))
    else if (v2 &&& (nI 31)) = nI 21 then (qsc xs xl (c3 + (nI 1))).bind fun v368 => (qsc xs xl (c3 + (nI 2))).bind fun v370 => (qsc xs xl (c3 + (nI 3))).bind fun v372 => (f_X11_say v368 v370 v372 M).bind fun p374 => (qsc xs xl (c3 + (nI 1))).bind fun v378 => (qsc xs xl (c3 + (nI 2))).bind fun v380 => (qsc xs xl (c3 + (nI 3))).bind fun v382 => (f_X12_say v378 v380 v382 p374.2).bind fun p384 => if p374.1 = p384.1 then f_L_law_L18 xs xl n (c3 + nI 4) p384.2 J
    else some (.inl (false, p384.2, J))
    else if (v2 &&& (nI 31)) = nI 22 then (qsc xs xl (c3 + (nI 1))).bind fun v390 => (f_X11_weights v390 M).bind fun r394 => (qsc xs xl (c3 + (nI 1))).bind fun v395 => (f_X12_weights v395 M).bind fun r399 => if r394 = r399 then f_L_law_L18 xs xl n (c3 + nI 4) M J
    else some (.inl (false, M, J))
    else if (v2 &&& (nI 31)) = nI 23 then (f_X11_ask M).bind fun r404 => (f_X12_ask M).bind fun r407 => if r404 = r407 then f_L_law_L18 xs xl n (c3 + nI 4) M J
    else some (.inl (false, M, J))
    else if (v2 &&& (nI 31)) = nI 24 then (qsc xs xl (c3 + (nI 1))).bind fun v410 => (qsc xs xl (c3 + (nI 2))).bind fun v412 => (f_X11_write v410 v412 M).bind fun p414 => (qsc xs xl (c3 + (nI 1))).bind fun v418 => (qsc xs xl (c3 + (nI 2))).bind fun v420 => (f_X12_write v418 v420 p414.2).bind fun p422 => if p414.1 = p422.1 then f_L_law_L18 xs xl n (c3 + nI 4) p422.2 J
    else some (.inl (false, p422.2, J))
    else if (v2 &&& (nI 31)) = nI 25 then (f_X11_tear M).bind fun p428 => (f_X12_tear p428.2).bind fun p432 => if p428.1 = p432.1 then f_L_law_L18 xs xl n (c3 + nI 4) p432.2 J
    else some (.inl (false, p432.2, J))
    else if (v2 &&& (nI 31)) = nI 26 then (f_X11_judge M).bind fun r440 => (f_X12_judge M).bind fun r443 => if r440 = r443 then f_L_law_L18 xs xl n (c3 + nI 4) M J
    else some (.inl (false, M, J))
    else if (v2 &&& (nI 31)) = nI 27 then (qsc xs xl (c3 + (nI 1))).bind fun v446 => (f_X11_seed v446 M).bind fun p448 => (qsc xs xl (c3 + (nI 1))).bind fun v452 => (f_X12_seed v452 p448.2 J).bind fun p454 => if p448.1 = p454.1 then f_L_law_L18 xs xl n (c3 + nI 4) p448.2 p454.2
    else some (.inl (false, p448.2, p454.2))
    else if (v2 &&& (nI 31)) = nI 28 then (qsc xs xl (c3 + (nI 1))).bind fun v460 => (f_X11_keep v460 M).bind fun p462 => (qsc xs xl (c3 + (nI 1))).bind fun v466 => (f_X12_keep v466 p462.2 J).bind fun p468 => if p462.1 = p468.1 then f_L_law_L18 xs xl n (c3 + nI 4) p468.2 J
    else some (.inl (false, p468.2, J))
    else if (v2 &&& (nI 31)) = nI 29 then (qsc xs xl (c3 + (nI 1))).bind fun v474 => (f_X11_goBack v474 M).bind fun p476 => (qsc xs xl (c3 + (nI 1))).bind fun v480 => (f_X12_goBack v480 p476.2 J).bind fun p482 => if p476.1 = p482.1 then f_L_law_L18 xs xl n (c3 + nI 4) p482.2.1 p482.2.2
    else some (.inl (false, p482.2.1, p482.2.2))
    else f_L_law_L18 xs xl n (c3 + nI 4) M J
set_option maxRecDepth 20000 in
set_option maxHeartbeats 16000000 in
theorem l_L_law_L18 {G : qG} {ρ : qR} {xs : Nat → Int32} {xl : Nat} (hxs : gx G = xs) (hxl : gL G = xl)  : ∀ (n : Nat) (c3 : Int32) (M : qM) (J : qJ) (res : (Bool × qM × qJ) ⊕ (Int32 × qM × qJ)), f_L_law_L18 xs xl n c3 M J = some res → (∀ x : Int32 × qM × qJ, res = .inr x → QW G room_1 YL_law 38 8462 1020 [none, none, none, none] [] SH x.2.1 x.2.2 ρ) → (∀ r : Bool × qM × qJ, res = .inl r → (some (.int (qb r.1)), SH, r.2.1, r.2.2) = ρ) → QW G room_1 YL_law 38 8462 18 [some (.ref 4096), some (.ref 0), some (.ref 25), some (.int c3)] [] SH M J ρ
  | 0, _, _, _, _, h, _, _ => by simp [f_L_law_L18] at h
  | n + 1, c3, M, J, res, h, hk, hr => by
    rw [f_L_law_L18] at h
    refine q_iload_n (pc := 18) dL_law_18 rfl ?_
    refine q_aload_n (pc := 19) dL_law_19 rfl ?_
    refine q_sclen2 hxl (pc := 20) dL_law_20 ?_
    refine q_iconst (pc := 21) (v := nI 4) dL_law_21 (by decide) ?_
    refine q_isub (pc := 22) dL_law_22 ?_
    by_cases k1 : ((nI xl) - (nI 4)) < c3
    · rw [if_pos k1] at h
      refine q_icmp_gt_t (pc := 23) (tgt := 1020) dL_law_23 (by decide) k1 ?_
      refine q_weak (ls' := [none, none, none, none]) trivial ?_
      obtain rfl := Option.some.inj h
      exact hk (c3, M, J) rfl
    · rw [if_neg k1] at h
      refine q_icmp_gt_f (pc := 23) (tgt := 1020) dL_law_23 (by decide) k1 ?_
      refine q_aload_n (pc := 26) dL_law_26 rfl ?_
      refine q_iload_n (pc := 27) dL_law_27 rfl ?_
      obtain ⟨v2, h3, h⟩ := Option.bind_eq_some_iff.mp h
      refine q_scld2 hxs hxl (pc := 28) dL_law_28 h3 ?_
      refine q_bipush (pc := 29) (v := nI 31) dL_law_29 (by decide) ?_
      refine q_iand (pc := 31) dL_law_31 ?_
      by_cases k4 : (v2 &&& (nI 31)) = nI 0
      · rw [if_pos k4] at h
        refine q_tabIn (pc := 32) (tgt := 168) (off := 136) (j := 0) dL_law_32 (by rw [k4]; rfl) (by decide) (by decide) rfl (by decide) ?_
        refine q_aload_n (pc := 168) dL_law_168 rfl ?_
        refine q_aload_n (pc := 169) dL_law_169 rfl ?_
        refine q_iload_n (pc := 170) dL_law_170 rfl ?_
        refine q_iconst (pc := 171) (v := nI 1) dL_law_171 (by decide) ?_
        refine q_iadd (pc := 172) dL_law_172 ?_
        obtain ⟨v5, h6, h⟩ := Option.bind_eq_some_iff.mp h
        refine q_scld2 hxs hxl (pc := 173) dL_law_173 h6 ?_
        obtain ⟨⟨r9, M10⟩, h8, h⟩ := Option.bind_eq_some_iff.mp h
        try dsimp only at h
        refine q_callv (pc := 174) (st := []) (a_X11_feed h8) okX11_feed rfl dL_law_174 lk_L_13 sh_0 cl_10 rfl (by decide) (by decide) (Nat.le_of_ble_eq_true rfl) ⟨Nat.le_of_ble_eq_true rfl, Nat.le_of_ble_eq_true rfl⟩ rfl ?_
        show QW G room_1 YL_law 38 8462 177 [some (.ref 4096), some (.ref 0), some (.ref 25), some (.int c3)] [.int r9] SH M10 J _
        refine q_aload_n (pc := 177) dL_law_177 rfl ?_
        refine q_aload_n (pc := 178) dL_law_178 rfl ?_
        refine q_iload_n (pc := 179) dL_law_179 rfl ?_
        refine q_iconst (pc := 180) (v := nI 1) dL_law_180 (by decide) ?_
        refine q_iadd (pc := 181) dL_law_181 ?_
        obtain ⟨v11, h12, h⟩ := Option.bind_eq_some_iff.mp h
        refine q_scld2 hxs hxl (pc := 182) dL_law_182 h12 ?_
        obtain ⟨⟨r15, M16⟩, h14, h⟩ := Option.bind_eq_some_iff.mp h
        try dsimp only at h
        refine q_callv (pc := 183) (st := [.int r9]) (a_X12_feed h14) okX12_feed rfl dL_law_183 lk_L_17 sh_25 cl_11 rfl (by decide) (by decide) (Nat.le_of_ble_eq_true rfl) ⟨Nat.le_of_ble_eq_true rfl, Nat.le_of_ble_eq_true rfl⟩ rfl ?_
        show QW G room_1 YL_law 38 8462 186 [some (.ref 4096), some (.ref 0), some (.ref 25), some (.int c3)] [.int r15, .int r9] SH M16 J _
        by_cases k17 : r9 = r15
        · rw [if_pos k17] at h
          refine q_icmp_eq_t (pc := 186) (tgt := 1014) dL_law_186 (by decide) k17 ?_
          refine q_iincW (pc := 1014) (w := nI 4) (ls' := [some (.ref 4096), some (.ref 0), some (.ref 25), some (.int (c3 + nI 4))]) dL_law_1014 rfl (by decide) (by decide) rfl rfl ?_
          refine q_goto (pc := 1017) (tgt := 18) dL_law_1017 (by decide) ?_
          exact l_L_law_L18 hxs hxl n (c3 + nI 4) M16 J res h hk hr
        · rw [if_neg k17] at h
          refine q_icmp_eq_f (pc := 186) (tgt := 1014) dL_law_186 (by decide) k17 ?_
          refine q_iconst (pc := 189) (v := nI 0) dL_law_189 (by decide) ?_
          obtain rfl := Option.some.inj h
          exact q_iret (pc := 190) dL_law_190 rfl rfl (hr (false, M16, J) rfl)
      · rw [if_neg k4] at h
        by_cases k18 : (v2 &&& (nI 31)) = nI 1
        · rw [if_pos k18] at h
          refine q_tabIn (pc := 32) (tgt := 191) (off := 159) (j := 1) dL_law_32 (by rw [k18]; rfl) (by decide) (by decide) rfl (by decide) ?_
          refine q_aload_n (pc := 191) dL_law_191 rfl ?_
          obtain ⟨⟨r21, M22⟩, h20, h⟩ := Option.bind_eq_some_iff.mp h
          try dsimp only at h
          refine q_callv (pc := 192) (st := []) (a_X11_deanery h20) okX11_deanery rfl dL_law_192 lk_L_18 sh_0 cl_10 rfl (by decide) (by decide) (Nat.le_of_ble_eq_true rfl) ⟨Nat.le_of_ble_eq_true rfl, Nat.le_of_ble_eq_true rfl⟩ rfl ?_
          show QW G room_1 YL_law 38 8462 195 [some (.ref 4096), some (.ref 0), some (.ref 25), some (.int c3)] [.int r21] SH M22 J _
          refine q_aload_n (pc := 195) dL_law_195 rfl ?_
          obtain ⟨⟨r25, M26⟩, h24, h⟩ := Option.bind_eq_some_iff.mp h
          try dsimp only at h
          refine q_callv (pc := 196) (st := [.int r21]) (a_X12_deanery h24) okX12_deanery rfl dL_law_196 lk_L_22 sh_25 cl_11 rfl (by decide) (by decide) (Nat.le_of_ble_eq_true rfl) ⟨Nat.le_of_ble_eq_true rfl, Nat.le_of_ble_eq_true rfl⟩ rfl ?_
          show QW G room_1 YL_law 38 8462 199 [some (.ref 4096), some (.ref 0), some (.ref 25), some (.int c3)] [.int r25, .int r21] SH M26 J _
          by_cases k27 : r21 = r25
          · rw [if_pos k27] at h
            refine q_icmp_eq_t (pc := 199) (tgt := 1014) dL_law_199 (by decide) k27 ?_
            refine q_iincW (pc := 1014) (w := nI 4) (ls' := [some (.ref 4096), some (.ref 0), some (.ref 25), some (.int (c3 + nI 4))]) dL_law_1014 rfl (by decide) (by decide) rfl rfl ?_
            refine q_goto (pc := 1017) (tgt := 18) dL_law_1017 (by decide) ?_
            exact l_L_law_L18 hxs hxl n (c3 + nI 4) M26 J res h hk hr
          · rw [if_neg k27] at h
            refine q_icmp_eq_f (pc := 199) (tgt := 1014) dL_law_199 (by decide) k27 ?_
            refine q_iconst (pc := 202) (v := nI 0) dL_law_202 (by decide) ?_
            obtain rfl := Option.some.inj h
            exact q_iret (pc := 203) dL_law_203 rfl rfl (hr (false, M26, J) rfl)
        · rw [if_neg k18] at h
          by_cases k28 : (v2 &&& (nI 31)) = nI 2
          · rw [if_pos k28] at h
            refine q_tabIn (pc := 32) (tgt := 204) (off := 172) (j := 2) dL_law_32 (by rw [k28]; rfl) (by decide) (by decide) rfl (by decide) ?_
            refine q_aload_n (pc := 204) dL_law_204 rfl ?_
            obtain ⟨r31, h30, h⟩ := Option.bind_eq_some_iff.mp h
            refine q_callv (pc := 205) (st := []) (a_X11_fault h30) okX11_fault rfl dL_law_205 lk_L_23 sh_0 cl_10 rfl (by decide) (by decide) (Nat.le_of_ble_eq_true rfl) ⟨Nat.le_of_ble_eq_true rfl, Nat.le_of_ble_eq_true rfl⟩ rfl ?_
            show QW G room_1 YL_law 38 8462 208 [some (.ref 4096), some (.ref 0), some (.ref 25), some (.int c3)] [.int r31] SH M J _
            refine q_aload_n (pc := 208) dL_law_208 rfl ?_
            obtain ⟨r34, h33, h⟩ := Option.bind_eq_some_iff.mp h
            refine q_callv (pc := 209) (st := [.int r31]) (a_X12_fault h33) okX12_fault rfl dL_law_209 lk_L_26 sh_25 cl_11 rfl (by decide) (by decide) (Nat.le_of_ble_eq_true rfl) ⟨Nat.le_of_ble_eq_true rfl, Nat.le_of_ble_eq_true rfl⟩ rfl ?_
            show QW G room_1 YL_law 38 8462 212 [some (.ref 4096), some (.ref 0), some (.ref 25), some (.int c3)] [.int r34, .int r31] SH M J _
            by_cases k35 : r31 = r34
            · rw [if_pos k35] at h
              refine q_icmp_eq_t (pc := 212) (tgt := 1014) dL_law_212 (by decide) k35 ?_
              refine q_iincW (pc := 1014) (w := nI 4) (ls' := [some (.ref 4096), some (.ref 0), some (.ref 25), some (.int (c3 + nI 4))]) dL_law_1014 rfl (by decide) (by decide) rfl rfl ?_
              refine q_goto (pc := 1017) (tgt := 18) dL_law_1017 (by decide) ?_
              exact l_L_law_L18 hxs hxl n (c3 + nI 4) M J res h hk hr
            · rw [if_neg k35] at h
              refine q_icmp_eq_f (pc := 212) (tgt := 1014) dL_law_212 (by decide) k35 ?_
              refine q_iconst (pc := 215) (v := nI 0) dL_law_215 (by decide) ?_
              obtain rfl := Option.some.inj h
              exact q_iret (pc := 216) dL_law_216 rfl rfl (hr (false, M, J) rfl)
          · rw [if_neg k28] at h
            by_cases k36 : (v2 &&& (nI 31)) = nI 3
            · rw [if_pos k36] at h
              refine q_tabIn (pc := 32) (tgt := 217) (off := 185) (j := 3) dL_law_32 (by rw [k36]; rfl) (by decide) (by decide) rfl (by decide) ?_
              refine q_aload_n (pc := 217) dL_law_217 rfl ?_
              refine q_aload_n (pc := 218) dL_law_218 rfl ?_
              refine q_iload_n (pc := 219) dL_law_219 rfl ?_
              refine q_iconst (pc := 220) (v := nI 1) dL_law_220 (by decide) ?_
              refine q_iadd (pc := 221) dL_law_221 ?_
              obtain ⟨v37, h38, h⟩ := Option.bind_eq_some_iff.mp h
              refine q_scld2 hxs hxl (pc := 222) dL_law_222 h38 ?_
              obtain ⟨⟨r41, M42⟩, h40, h⟩ := Option.bind_eq_some_iff.mp h
              try dsimp only at h
              refine q_callv (pc := 223) (st := []) (a_X11_told h40) okX11_told rfl dL_law_223 lk_L_27 sh_0 cl_10 rfl (by decide) (by decide) (Nat.le_of_ble_eq_true rfl) ⟨Nat.le_of_ble_eq_true rfl, Nat.le_of_ble_eq_true rfl⟩ rfl ?_
              show QW G room_1 YL_law 38 8462 226 [some (.ref 4096), some (.ref 0), some (.ref 25), some (.int c3)] [.int r41] SH M42 J _
              refine q_aload_n (pc := 226) dL_law_226 rfl ?_
              refine q_aload_n (pc := 227) dL_law_227 rfl ?_
              refine q_iload_n (pc := 228) dL_law_228 rfl ?_
              refine q_iconst (pc := 229) (v := nI 1) dL_law_229 (by decide) ?_
              refine q_iadd (pc := 230) dL_law_230 ?_
              obtain ⟨v43, h44, h⟩ := Option.bind_eq_some_iff.mp h
              refine q_scld2 hxs hxl (pc := 231) dL_law_231 h44 ?_
              obtain ⟨r47, h46, h⟩ := Option.bind_eq_some_iff.mp h
              refine q_callv (pc := 232) (st := [.int r41]) (a_X12_told h46) okX12_told rfl dL_law_232 lk_L_30 sh_25 cl_11 rfl (by decide) (by decide) (Nat.le_of_ble_eq_true rfl) ⟨Nat.le_of_ble_eq_true rfl, Nat.le_of_ble_eq_true rfl⟩ rfl ?_
              show QW G room_1 YL_law 38 8462 235 [some (.ref 4096), some (.ref 0), some (.ref 25), some (.int c3)] [.int r47, .int r41] SH M42 J _
              by_cases k48 : r41 = r47
              · rw [if_pos k48] at h
                refine q_icmp_eq_t (pc := 235) (tgt := 1014) dL_law_235 (by decide) k48 ?_
                refine q_iincW (pc := 1014) (w := nI 4) (ls' := [some (.ref 4096), some (.ref 0), some (.ref 25), some (.int (c3 + nI 4))]) dL_law_1014 rfl (by decide) (by decide) rfl rfl ?_
                refine q_goto (pc := 1017) (tgt := 18) dL_law_1017 (by decide) ?_
                exact l_L_law_L18 hxs hxl n (c3 + nI 4) M42 J res h hk hr
              · rw [if_neg k48] at h
                refine q_icmp_eq_f (pc := 235) (tgt := 1014) dL_law_235 (by decide) k48 ?_
                refine q_iconst (pc := 238) (v := nI 0) dL_law_238 (by decide) ?_
                obtain rfl := Option.some.inj h
                exact q_iret (pc := 239) dL_law_239 rfl rfl (hr (false, M42, J) rfl)
            · rw [if_neg k36] at h
              by_cases k49 : (v2 &&& (nI 31)) = nI 4
              · rw [if_pos k49] at h
                refine q_tabIn (pc := 32) (tgt := 240) (off := 208) (j := 4) dL_law_32 (by rw [k49]; rfl) (by decide) (by decide) rfl (by decide) ?_
                refine q_aload_n (pc := 240) dL_law_240 rfl ?_
                refine q_aload_n (pc := 241) dL_law_241 rfl ?_
                refine q_iload_n (pc := 242) dL_law_242 rfl ?_
                refine q_iconst (pc := 243) (v := nI 1) dL_law_243 (by decide) ?_
                refine q_iadd (pc := 244) dL_law_244 ?_
                obtain ⟨v50, h51, h⟩ := Option.bind_eq_some_iff.mp h
                refine q_scld2 hxs hxl (pc := 245) dL_law_245 h51 ?_
                refine q_aload_n (pc := 246) dL_law_246 rfl ?_
                refine q_iload_n (pc := 247) dL_law_247 rfl ?_
                refine q_iconst (pc := 248) (v := nI 2) dL_law_248 (by decide) ?_
                refine q_iadd (pc := 249) dL_law_249 ?_
                obtain ⟨v52, h53, h⟩ := Option.bind_eq_some_iff.mp h
                refine q_scld2 hxs hxl (pc := 250) dL_law_250 h53 ?_
                obtain ⟨r56, h55, h⟩ := Option.bind_eq_some_iff.mp h
                refine q_callv (pc := 251) (st := []) (a_X11_couple h55) okX11_couple rfl dL_law_251 lk_L_31 sh_0 cl_10 rfl (by decide) (by decide) (Nat.le_of_ble_eq_true rfl) ⟨Nat.le_of_ble_eq_true rfl, Nat.le_of_ble_eq_true rfl⟩ rfl ?_
                show QW G room_1 YL_law 38 8462 254 [some (.ref 4096), some (.ref 0), some (.ref 25), some (.int c3)] [.int r56] SH M J _
                refine q_aload_n (pc := 254) dL_law_254 rfl ?_
                refine q_aload_n (pc := 255) dL_law_255 rfl ?_
                refine q_iload_n (pc := 256) dL_law_256 rfl ?_
                refine q_iconst (pc := 257) (v := nI 1) dL_law_257 (by decide) ?_
                refine q_iadd (pc := 258) dL_law_258 ?_
                obtain ⟨v57, h58, h⟩ := Option.bind_eq_some_iff.mp h
                refine q_scld2 hxs hxl (pc := 259) dL_law_259 h58 ?_
                refine q_aload_n (pc := 260) dL_law_260 rfl ?_
                refine q_iload_n (pc := 261) dL_law_261 rfl ?_
                refine q_iconst (pc := 262) (v := nI 2) dL_law_262 (by decide) ?_
                refine q_iadd (pc := 263) dL_law_263 ?_
                obtain ⟨v59, h60, h⟩ := Option.bind_eq_some_iff.mp h
                refine q_scld2 hxs hxl (pc := 264) dL_law_264 h60 ?_
                obtain ⟨r63, h62, h⟩ := Option.bind_eq_some_iff.mp h
                refine q_callv (pc := 265) (st := [.int r56]) (a_X12_couple h62) okX12_couple rfl dL_law_265 lk_L_35 sh_25 cl_11 rfl (by decide) (by decide) (Nat.le_of_ble_eq_true rfl) ⟨Nat.le_of_ble_eq_true rfl, Nat.le_of_ble_eq_true rfl⟩ rfl ?_
                show QW G room_1 YL_law 38 8462 268 [some (.ref 4096), some (.ref 0), some (.ref 25), some (.int c3)] [.int r63, .int r56] SH M J _
                by_cases k64 : r56 = r63
                · rw [if_pos k64] at h
                  refine q_icmp_eq_t (pc := 268) (tgt := 1014) dL_law_268 (by decide) k64 ?_
                  refine q_iincW (pc := 1014) (w := nI 4) (ls' := [some (.ref 4096), some (.ref 0), some (.ref 25), some (.int (c3 + nI 4))]) dL_law_1014 rfl (by decide) (by decide) rfl rfl ?_
                  refine q_goto (pc := 1017) (tgt := 18) dL_law_1017 (by decide) ?_
                  exact l_L_law_L18 hxs hxl n (c3 + nI 4) M J res h hk hr
                · rw [if_neg k64] at h
                  refine q_icmp_eq_f (pc := 268) (tgt := 1014) dL_law_268 (by decide) k64 ?_
                  refine q_iconst (pc := 271) (v := nI 0) dL_law_271 (by decide) ?_
                  obtain rfl := Option.some.inj h
                  exact q_iret (pc := 272) dL_law_272 rfl rfl (hr (false, M, J) rfl)
              · rw [if_neg k49] at h
                by_cases k65 : (v2 &&& (nI 31)) = nI 5
                · rw [if_pos k65] at h
                  refine q_tabIn (pc := 32) (tgt := 273) (off := 241) (j := 5) dL_law_32 (by rw [k65]; rfl) (by decide) (by decide) rfl (by decide) ?_
                  refine q_aload_n (pc := 273) dL_law_273 rfl ?_
                  refine q_aload_n (pc := 274) dL_law_274 rfl ?_
                  refine q_iload_n (pc := 275) dL_law_275 rfl ?_
                  refine q_iconst (pc := 276) (v := nI 1) dL_law_276 (by decide) ?_
                  refine q_iadd (pc := 277) dL_law_277 ?_
                  obtain ⟨v66, h67, h⟩ := Option.bind_eq_some_iff.mp h
                  refine q_scld2 hxs hxl (pc := 278) dL_law_278 h67 ?_
                  refine q_aload_n (pc := 279) dL_law_279 rfl ?_
                  refine q_iload_n (pc := 280) dL_law_280 rfl ?_
                  refine q_iconst (pc := 281) (v := nI 2) dL_law_281 (by decide) ?_
                  refine q_iadd (pc := 282) dL_law_282 ?_
                  obtain ⟨v68, h69, h⟩ := Option.bind_eq_some_iff.mp h
                  refine q_scld2 hxs hxl (pc := 283) dL_law_283 h69 ?_
                  obtain ⟨r72, h71, h⟩ := Option.bind_eq_some_iff.mp h
                  refine q_callv (pc := 284) (st := []) (a_X11_objector h71) okX11_objector rfl dL_law_284 lk_L_36 sh_0 cl_10 rfl (by decide) (by decide) (Nat.le_of_ble_eq_true rfl) ⟨Nat.le_of_ble_eq_true rfl, Nat.le_of_ble_eq_true rfl⟩ rfl ?_
                  show QW G room_1 YL_law 38 8462 287 [some (.ref 4096), some (.ref 0), some (.ref 25), some (.int c3)] [.int r72] SH M J _
                  refine q_aload_n (pc := 287) dL_law_287 rfl ?_
                  refine q_aload_n (pc := 288) dL_law_288 rfl ?_
                  refine q_iload_n (pc := 289) dL_law_289 rfl ?_
                  refine q_iconst (pc := 290) (v := nI 1) dL_law_290 (by decide) ?_
                  refine q_iadd (pc := 291) dL_law_291 ?_
                  obtain ⟨v73, h74, h⟩ := Option.bind_eq_some_iff.mp h
                  refine q_scld2 hxs hxl (pc := 292) dL_law_292 h74 ?_
                  refine q_aload_n (pc := 293) dL_law_293 rfl ?_
                  refine q_iload_n (pc := 294) dL_law_294 rfl ?_
                  refine q_iconst (pc := 295) (v := nI 2) dL_law_295 (by decide) ?_
                  refine q_iadd (pc := 296) dL_law_296 ?_
                  obtain ⟨v75, h76, h⟩ := Option.bind_eq_some_iff.mp h
                  refine q_scld2 hxs hxl (pc := 297) dL_law_297 h76 ?_
                  obtain ⟨r79, h78, h⟩ := Option.bind_eq_some_iff.mp h
                  refine q_callv (pc := 298) (st := [.int r72]) (a_X12_objector h78) okX12_objector rfl dL_law_298 lk_L_39 sh_25 cl_11 rfl (by decide) (by decide) (Nat.le_of_ble_eq_true rfl) ⟨Nat.le_of_ble_eq_true rfl, Nat.le_of_ble_eq_true rfl⟩ rfl ?_
                  show QW G room_1 YL_law 38 8462 301 [some (.ref 4096), some (.ref 0), some (.ref 25), some (.int c3)] [.int r79, .int r72] SH M J _
                  by_cases k80 : r72 = r79
                  · rw [if_pos k80] at h
                    refine q_icmp_eq_t (pc := 301) (tgt := 1014) dL_law_301 (by decide) k80 ?_
                    refine q_iincW (pc := 1014) (w := nI 4) (ls' := [some (.ref 4096), some (.ref 0), some (.ref 25), some (.int (c3 + nI 4))]) dL_law_1014 rfl (by decide) (by decide) rfl rfl ?_
                    refine q_goto (pc := 1017) (tgt := 18) dL_law_1017 (by decide) ?_
                    exact l_L_law_L18 hxs hxl n (c3 + nI 4) M J res h hk hr
                  · rw [if_neg k80] at h
                    refine q_icmp_eq_f (pc := 301) (tgt := 1014) dL_law_301 (by decide) k80 ?_
                    refine q_iconst (pc := 304) (v := nI 0) dL_law_304 (by decide) ?_
                    obtain rfl := Option.some.inj h
                    exact q_iret (pc := 305) dL_law_305 rfl rfl (hr (false, M, J) rfl)
                · rw [if_neg k65] at h
                  by_cases k81 : (v2 &&& (nI 31)) = nI 6
                  · rw [if_pos k81] at h
                    refine q_tabIn (pc := 32) (tgt := 306) (off := 274) (j := 6) dL_law_32 (by rw [k81]; rfl) (by decide) (by decide) rfl (by decide) ?_
                    refine q_aload_n (pc := 306) dL_law_306 rfl ?_
                    refine q_aload_n (pc := 307) dL_law_307 rfl ?_
                    refine q_iload_n (pc := 308) dL_law_308 rfl ?_
                    refine q_iconst (pc := 309) (v := nI 1) dL_law_309 (by decide) ?_
                    refine q_iadd (pc := 310) dL_law_310 ?_
                    obtain ⟨v82, h83, h⟩ := Option.bind_eq_some_iff.mp h
                    refine q_scld2 hxs hxl (pc := 311) dL_law_311 h83 ?_
                    refine q_aload_n (pc := 312) dL_law_312 rfl ?_
                    refine q_iload_n (pc := 313) dL_law_313 rfl ?_
                    refine q_iconst (pc := 314) (v := nI 2) dL_law_314 (by decide) ?_
                    refine q_iadd (pc := 315) dL_law_315 ?_
                    obtain ⟨v84, h85, h⟩ := Option.bind_eq_some_iff.mp h
                    refine q_scld2 hxs hxl (pc := 316) dL_law_316 h85 ?_
                    obtain ⟨r88, h87, h⟩ := Option.bind_eq_some_iff.mp h
                    refine q_callv (pc := 317) (st := []) (a_X11_box h87) okX11_box rfl dL_law_317 lk_L_40 sh_0 cl_10 rfl (by decide) (by decide) (Nat.le_of_ble_eq_true rfl) ⟨Nat.le_of_ble_eq_true rfl, Nat.le_of_ble_eq_true rfl⟩ rfl ?_
                    show QW G room_1 YL_law 38 8462 320 [some (.ref 4096), some (.ref 0), some (.ref 25), some (.int c3)] [.int r88] SH M J _
                    refine q_aload_n (pc := 320) dL_law_320 rfl ?_
                    refine q_aload_n (pc := 321) dL_law_321 rfl ?_
                    refine q_iload_n (pc := 322) dL_law_322 rfl ?_
                    refine q_iconst (pc := 323) (v := nI 1) dL_law_323 (by decide) ?_
                    refine q_iadd (pc := 324) dL_law_324 ?_
                    obtain ⟨v89, h90, h⟩ := Option.bind_eq_some_iff.mp h
                    refine q_scld2 hxs hxl (pc := 325) dL_law_325 h90 ?_
                    refine q_aload_n (pc := 326) dL_law_326 rfl ?_
                    refine q_iload_n (pc := 327) dL_law_327 rfl ?_
                    refine q_iconst (pc := 328) (v := nI 2) dL_law_328 (by decide) ?_
                    refine q_iadd (pc := 329) dL_law_329 ?_
                    obtain ⟨v91, h92, h⟩ := Option.bind_eq_some_iff.mp h
                    refine q_scld2 hxs hxl (pc := 330) dL_law_330 h92 ?_
                    obtain ⟨r95, h94, h⟩ := Option.bind_eq_some_iff.mp h
                    refine q_callv (pc := 331) (st := [.int r88]) (a_X12_box h94) okX12_box rfl dL_law_331 lk_L_43 sh_25 cl_11 rfl (by decide) (by decide) (Nat.le_of_ble_eq_true rfl) ⟨Nat.le_of_ble_eq_true rfl, Nat.le_of_ble_eq_true rfl⟩ rfl ?_
                    show QW G room_1 YL_law 38 8462 334 [some (.ref 4096), some (.ref 0), some (.ref 25), some (.int c3)] [.int r95, .int r88] SH M J _
                    by_cases k96 : r88 = r95
                    · rw [if_pos k96] at h
                      refine q_icmp_eq_t (pc := 334) (tgt := 1014) dL_law_334 (by decide) k96 ?_
                      refine q_iincW (pc := 1014) (w := nI 4) (ls' := [some (.ref 4096), some (.ref 0), some (.ref 25), some (.int (c3 + nI 4))]) dL_law_1014 rfl (by decide) (by decide) rfl rfl ?_
                      refine q_goto (pc := 1017) (tgt := 18) dL_law_1017 (by decide) ?_
                      exact l_L_law_L18 hxs hxl n (c3 + nI 4) M J res h hk hr
                    · rw [if_neg k96] at h
                      refine q_icmp_eq_f (pc := 334) (tgt := 1014) dL_law_334 (by decide) k96 ?_
                      refine q_iconst (pc := 337) (v := nI 0) dL_law_337 (by decide) ?_
                      obtain rfl := Option.some.inj h
                      exact q_iret (pc := 338) dL_law_338 rfl rfl (hr (false, M, J) rfl)
                  · rw [if_neg k81] at h
                    by_cases k97 : (v2 &&& (nI 31)) = nI 7
                    · rw [if_pos k97] at h
                      refine q_tabIn (pc := 32) (tgt := 339) (off := 307) (j := 7) dL_law_32 (by rw [k97]; rfl) (by decide) (by decide) rfl (by decide) ?_
                      refine q_aload_n (pc := 339) dL_law_339 rfl ?_
                      refine q_aload_n (pc := 340) dL_law_340 rfl ?_
                      refine q_iload_n (pc := 341) dL_law_341 rfl ?_
                      refine q_iconst (pc := 342) (v := nI 1) dL_law_342 (by decide) ?_
                      refine q_iadd (pc := 343) dL_law_343 ?_
                      obtain ⟨v98, h99, h⟩ := Option.bind_eq_some_iff.mp h
                      refine q_scld2 hxs hxl (pc := 344) dL_law_344 h99 ?_
                      refine q_aload_n (pc := 345) dL_law_345 rfl ?_
                      refine q_iload_n (pc := 346) dL_law_346 rfl ?_
                      refine q_iconst (pc := 347) (v := nI 2) dL_law_347 (by decide) ?_
                      refine q_iadd (pc := 348) dL_law_348 ?_
                      obtain ⟨v100, h101, h⟩ := Option.bind_eq_some_iff.mp h
                      refine q_scld2 hxs hxl (pc := 349) dL_law_349 h101 ?_
                      refine q_aload_n (pc := 350) dL_law_350 rfl ?_
                      refine q_iload_n (pc := 351) dL_law_351 rfl ?_
                      refine q_iconst (pc := 352) (v := nI 3) dL_law_352 (by decide) ?_
                      refine q_iadd (pc := 353) dL_law_353 ?_
                      obtain ⟨v102, h103, h⟩ := Option.bind_eq_some_iff.mp h
                      refine q_scld2 hxs hxl (pc := 354) dL_law_354 h103 ?_
                      obtain ⟨r106, h105, h⟩ := Option.bind_eq_some_iff.mp h
                      refine q_callv (pc := 355) (st := []) (a_X11_against h105) okX11_against rfl dL_law_355 lk_L_44 sh_0 cl_10 rfl (by decide) (by decide) (Nat.le_of_ble_eq_true rfl) ⟨Nat.le_of_ble_eq_true rfl, Nat.le_of_ble_eq_true rfl⟩ rfl ?_
                      show QW G room_1 YL_law 38 8462 358 [some (.ref 4096), some (.ref 0), some (.ref 25), some (.int c3)] [.int r106] SH M J _
                      refine q_aload_n (pc := 358) dL_law_358 rfl ?_
                      refine q_aload_n (pc := 359) dL_law_359 rfl ?_
                      refine q_iload_n (pc := 360) dL_law_360 rfl ?_
                      refine q_iconst (pc := 361) (v := nI 1) dL_law_361 (by decide) ?_
                      refine q_iadd (pc := 362) dL_law_362 ?_
                      obtain ⟨v107, h108, h⟩ := Option.bind_eq_some_iff.mp h
                      refine q_scld2 hxs hxl (pc := 363) dL_law_363 h108 ?_
                      refine q_aload_n (pc := 364) dL_law_364 rfl ?_
                      refine q_iload_n (pc := 365) dL_law_365 rfl ?_
                      refine q_iconst (pc := 366) (v := nI 2) dL_law_366 (by decide) ?_
                      refine q_iadd (pc := 367) dL_law_367 ?_
                      obtain ⟨v109, h110, h⟩ := Option.bind_eq_some_iff.mp h
                      refine q_scld2 hxs hxl (pc := 368) dL_law_368 h110 ?_
                      refine q_aload_n (pc := 369) dL_law_369 rfl ?_
                      refine q_iload_n (pc := 370) dL_law_370 rfl ?_
                      refine q_iconst (pc := 371) (v := nI 3) dL_law_371 (by decide) ?_
                      refine q_iadd (pc := 372) dL_law_372 ?_
                      obtain ⟨v111, h112, h⟩ := Option.bind_eq_some_iff.mp h
                      refine q_scld2 hxs hxl (pc := 373) dL_law_373 h112 ?_
                      obtain ⟨r115, h114, h⟩ := Option.bind_eq_some_iff.mp h
                      refine q_callv (pc := 374) (st := [.int r106]) (a_X12_against h114) okX12_against rfl dL_law_374 lk_L_48 sh_25 cl_11 rfl (by decide) (by decide) (Nat.le_of_ble_eq_true rfl) ⟨Nat.le_of_ble_eq_true rfl, Nat.le_of_ble_eq_true rfl⟩ rfl ?_
                      show QW G room_1 YL_law 38 8462 377 [some (.ref 4096), some (.ref 0), some (.ref 25), some (.int c3)] [.int r115, .int r106] SH M J _
                      by_cases k116 : r106 = r115
                      · rw [if_pos k116] at h
                        refine q_icmp_eq_t (pc := 377) (tgt := 1014) dL_law_377 (by decide) k116 ?_
                        refine q_iincW (pc := 1014) (w := nI 4) (ls' := [some (.ref 4096), some (.ref 0), some (.ref 25), some (.int (c3 + nI 4))]) dL_law_1014 rfl (by decide) (by decide) rfl rfl ?_
                        refine q_goto (pc := 1017) (tgt := 18) dL_law_1017 (by decide) ?_
                        exact l_L_law_L18 hxs hxl n (c3 + nI 4) M J res h hk hr
                      · rw [if_neg k116] at h
                        refine q_icmp_eq_f (pc := 377) (tgt := 1014) dL_law_377 (by decide) k116 ?_
                        refine q_iconst (pc := 380) (v := nI 0) dL_law_380 (by decide) ?_
                        obtain rfl := Option.some.inj h
                        exact q_iret (pc := 381) dL_law_381 rfl rfl (hr (false, M, J) rfl)
                    · rw [if_neg k97] at h
                      by_cases k117 : (v2 &&& (nI 31)) = nI 8
                      · rw [if_pos k117] at h
                        refine q_tabIn (pc := 32) (tgt := 382) (off := 350) (j := 8) dL_law_32 (by rw [k117]; rfl) (by decide) (by decide) rfl (by decide) ?_
                        refine q_aload_n (pc := 382) dL_law_382 rfl ?_
                        refine q_aload_n (pc := 383) dL_law_383 rfl ?_
                        refine q_iload_n (pc := 384) dL_law_384 rfl ?_
                        refine q_iconst (pc := 385) (v := nI 1) dL_law_385 (by decide) ?_
                        refine q_iadd (pc := 386) dL_law_386 ?_
                        obtain ⟨v118, h119, h⟩ := Option.bind_eq_some_iff.mp h
                        refine q_scld2 hxs hxl (pc := 387) dL_law_387 h119 ?_
                        refine q_aload_n (pc := 388) dL_law_388 rfl ?_
                        refine q_iload_n (pc := 389) dL_law_389 rfl ?_
                        refine q_iconst (pc := 390) (v := nI 2) dL_law_390 (by decide) ?_
                        refine q_iadd (pc := 391) dL_law_391 ?_
                        obtain ⟨v120, h121, h⟩ := Option.bind_eq_some_iff.mp h
                        refine q_scld2 hxs hxl (pc := 392) dL_law_392 h121 ?_
                        obtain ⟨⟨r124, M125⟩, h123, h⟩ := Option.bind_eq_some_iff.mp h
                        try dsimp only at h
                        refine q_callv (pc := 393) (st := []) (a_X11_stand h123) okX11_stand rfl dL_law_393 lk_L_49 sh_0 cl_10 rfl (by decide) (by decide) (Nat.le_of_ble_eq_true rfl) ⟨Nat.le_of_ble_eq_true rfl, Nat.le_of_ble_eq_true rfl⟩ rfl ?_
                        show QW G room_1 YL_law 38 8462 396 [some (.ref 4096), some (.ref 0), some (.ref 25), some (.int c3)] [.int r124] SH M125 J _
                        refine q_aload_n (pc := 396) dL_law_396 rfl ?_
                        refine q_aload_n (pc := 397) dL_law_397 rfl ?_
                        refine q_iload_n (pc := 398) dL_law_398 rfl ?_
                        refine q_iconst (pc := 399) (v := nI 1) dL_law_399 (by decide) ?_
                        refine q_iadd (pc := 400) dL_law_400 ?_
                        obtain ⟨v126, h127, h⟩ := Option.bind_eq_some_iff.mp h
                        refine q_scld2 hxs hxl (pc := 401) dL_law_401 h127 ?_
                        refine q_aload_n (pc := 402) dL_law_402 rfl ?_
                        refine q_iload_n (pc := 403) dL_law_403 rfl ?_
                        refine q_iconst (pc := 404) (v := nI 2) dL_law_404 (by decide) ?_
                        refine q_iadd (pc := 405) dL_law_405 ?_
                        obtain ⟨v128, h129, h⟩ := Option.bind_eq_some_iff.mp h
                        refine q_scld2 hxs hxl (pc := 406) dL_law_406 h129 ?_
                        obtain ⟨⟨r132, M133⟩, h131, h⟩ := Option.bind_eq_some_iff.mp h
                        try dsimp only at h
                        refine q_callv (pc := 407) (st := [.int r124]) (a_X12_stand h131) okX12_stand rfl dL_law_407 lk_L_52 sh_25 cl_11 rfl (by decide) (by decide) (Nat.le_of_ble_eq_true rfl) ⟨Nat.le_of_ble_eq_true rfl, Nat.le_of_ble_eq_true rfl⟩ rfl ?_
                        show QW G room_1 YL_law 38 8462 410 [some (.ref 4096), some (.ref 0), some (.ref 25), some (.int c3)] [.int r132, .int r124] SH M133 J _
                        by_cases k134 : r124 = r132
                        · rw [if_pos k134] at h
                          refine q_icmp_eq_t (pc := 410) (tgt := 1014) dL_law_410 (by decide) k134 ?_
                          refine q_iincW (pc := 1014) (w := nI 4) (ls' := [some (.ref 4096), some (.ref 0), some (.ref 25), some (.int (c3 + nI 4))]) dL_law_1014 rfl (by decide) (by decide) rfl rfl ?_
                          refine q_goto (pc := 1017) (tgt := 18) dL_law_1017 (by decide) ?_
                          exact l_L_law_L18 hxs hxl n (c3 + nI 4) M133 J res h hk hr
                        · rw [if_neg k134] at h
                          refine q_icmp_eq_f (pc := 410) (tgt := 1014) dL_law_410 (by decide) k134 ?_
                          refine q_iconst (pc := 413) (v := nI 0) dL_law_413 (by decide) ?_
                          obtain rfl := Option.some.inj h
                          exact q_iret (pc := 414) dL_law_414 rfl rfl (hr (false, M133, J) rfl)
                      · rw [if_neg k117] at h
                        by_cases k135 : (v2 &&& (nI 31)) = nI 9
                        · rw [if_pos k135] at h
                          refine q_tabIn (pc := 32) (tgt := 415) (off := 383) (j := 9) dL_law_32 (by rw [k135]; rfl) (by decide) (by decide) rfl (by decide) ?_
                          refine q_aload_n (pc := 415) dL_law_415 rfl ?_
                          refine q_aload_n (pc := 416) dL_law_416 rfl ?_
                          refine q_iload_n (pc := 417) dL_law_417 rfl ?_
                          refine q_iconst (pc := 418) (v := nI 1) dL_law_418 (by decide) ?_
                          refine q_iadd (pc := 419) dL_law_419 ?_
                          obtain ⟨v136, h137, h⟩ := Option.bind_eq_some_iff.mp h
                          refine q_scld2 hxs hxl (pc := 420) dL_law_420 h137 ?_
                          obtain ⟨⟨r140, M141⟩, h139, h⟩ := Option.bind_eq_some_iff.mp h
                          try dsimp only at h
                          refine q_callv (pc := 421) (st := []) (a_X11_year h139) okX11_year rfl dL_law_421 lk_L_53 sh_0 cl_10 rfl (by decide) (by decide) (Nat.le_of_ble_eq_true rfl) ⟨Nat.le_of_ble_eq_true rfl, Nat.le_of_ble_eq_true rfl⟩ rfl ?_
                          show QW G room_1 YL_law 38 8462 424 [some (.ref 4096), some (.ref 0), some (.ref 25), some (.int c3)] [.int r140] SH M141 J _
                          refine q_aload_n (pc := 424) dL_law_424 rfl ?_
                          refine q_aload_n (pc := 425) dL_law_425 rfl ?_
                          refine q_iload_n (pc := 426) dL_law_426 rfl ?_
                          refine q_iconst (pc := 427) (v := nI 1) dL_law_427 (by decide) ?_
                          refine q_iadd (pc := 428) dL_law_428 ?_
                          obtain ⟨v142, h143, h⟩ := Option.bind_eq_some_iff.mp h
                          refine q_scld2 hxs hxl (pc := 429) dL_law_429 h143 ?_
                          obtain ⟨⟨r146, M147⟩, h145, h⟩ := Option.bind_eq_some_iff.mp h
                          try dsimp only at h
                          refine q_callv (pc := 430) (st := [.int r140]) (a_X12_year h145) okX12_year rfl dL_law_430 lk_L_56 sh_25 cl_11 rfl (by decide) (by decide) (Nat.le_of_ble_eq_true rfl) ⟨Nat.le_of_ble_eq_true rfl, Nat.le_of_ble_eq_true rfl⟩ rfl ?_
                          show QW G room_1 YL_law 38 8462 433 [some (.ref 4096), some (.ref 0), some (.ref 25), some (.int c3)] [.int r146, .int r140] SH M147 J _
                          by_cases k148 : r140 = r146
                          · rw [if_pos k148] at h
                            refine q_icmp_eq_t (pc := 433) (tgt := 1014) dL_law_433 (by decide) k148 ?_
                            refine q_iincW (pc := 1014) (w := nI 4) (ls' := [some (.ref 4096), some (.ref 0), some (.ref 25), some (.int (c3 + nI 4))]) dL_law_1014 rfl (by decide) (by decide) rfl rfl ?_
                            refine q_goto (pc := 1017) (tgt := 18) dL_law_1017 (by decide) ?_
                            exact l_L_law_L18 hxs hxl n (c3 + nI 4) M147 J res h hk hr
                          · rw [if_neg k148] at h
                            refine q_icmp_eq_f (pc := 433) (tgt := 1014) dL_law_433 (by decide) k148 ?_
                            refine q_iconst (pc := 436) (v := nI 0) dL_law_436 (by decide) ?_
                            obtain rfl := Option.some.inj h
                            exact q_iret (pc := 437) dL_law_437 rfl rfl (hr (false, M147, J) rfl)
                        · rw [if_neg k135] at h
                          by_cases k149 : (v2 &&& (nI 31)) = nI 10
                          · rw [if_pos k149] at h
                            refine q_tabIn (pc := 32) (tgt := 438) (off := 406) (j := 10) dL_law_32 (by rw [k149]; rfl) (by decide) (by decide) rfl (by decide) ?_
                            refine q_aload_n (pc := 438) dL_law_438 rfl ?_
                            refine q_aload_n (pc := 439) dL_law_439 rfl ?_
                            refine q_iload_n (pc := 440) dL_law_440 rfl ?_
                            refine q_iconst (pc := 441) (v := nI 1) dL_law_441 (by decide) ?_
                            refine q_iadd (pc := 442) dL_law_442 ?_
                            obtain ⟨v150, h151, h⟩ := Option.bind_eq_some_iff.mp h
                            refine q_scld2 hxs hxl (pc := 443) dL_law_443 h151 ?_
                            refine q_aload_n (pc := 444) dL_law_444 rfl ?_
                            refine q_iload_n (pc := 445) dL_law_445 rfl ?_
                            refine q_iconst (pc := 446) (v := nI 2) dL_law_446 (by decide) ?_
                            refine q_iadd (pc := 447) dL_law_447 ?_
                            obtain ⟨v152, h153, h⟩ := Option.bind_eq_some_iff.mp h
                            refine q_scld2 hxs hxl (pc := 448) dL_law_448 h153 ?_
                            refine q_aload_n (pc := 449) dL_law_449 rfl ?_
                            refine q_iload_n (pc := 450) dL_law_450 rfl ?_
                            refine q_iconst (pc := 451) (v := nI 3) dL_law_451 (by decide) ?_
                            refine q_iadd (pc := 452) dL_law_452 ?_
                            obtain ⟨v154, h155, h⟩ := Option.bind_eq_some_iff.mp h
                            refine q_scld2 hxs hxl (pc := 453) dL_law_453 h155 ?_
                            by_cases k156 : v154 = 0
                            · rw [if_pos k156] at h
                              refine q_if_eq_t (pc := 454) (tgt := 461) dL_law_454 (by decide) k156 ?_
                              refine q_iconst (pc := 461) (v := nI 0) dL_law_461 (by decide) ?_
                              obtain ⟨⟨r159, M160⟩, h158, h⟩ := Option.bind_eq_some_iff.mp h
                              try dsimp only at h
                              refine q_callv (pc := 462) (st := []) (a_X11_teach h158) okX11_teach rfl dL_law_462 lk_L_57 sh_0 cl_10 rfl (by decide) (by decide) (Nat.le_of_ble_eq_true rfl) ⟨Nat.le_of_ble_eq_true rfl, Nat.le_of_ble_eq_true rfl⟩ rfl ?_
                              show QW G room_1 YL_law 38 8462 465 [some (.ref 4096), some (.ref 0), some (.ref 25), some (.int c3)] [.int r159] SH M160 J _
                              refine q_aload_n (pc := 465) dL_law_465 rfl ?_
                              refine q_aload_n (pc := 466) dL_law_466 rfl ?_
                              refine q_iload_n (pc := 467) dL_law_467 rfl ?_
                              refine q_iconst (pc := 468) (v := nI 1) dL_law_468 (by decide) ?_
                              refine q_iadd (pc := 469) dL_law_469 ?_
                              obtain ⟨v161, h162, h⟩ := Option.bind_eq_some_iff.mp h
                              refine q_scld2 hxs hxl (pc := 470) dL_law_470 h162 ?_
                              refine q_aload_n (pc := 471) dL_law_471 rfl ?_
                              refine q_iload_n (pc := 472) dL_law_472 rfl ?_
                              refine q_iconst (pc := 473) (v := nI 2) dL_law_473 (by decide) ?_
                              refine q_iadd (pc := 474) dL_law_474 ?_
                              obtain ⟨v163, h164, h⟩ := Option.bind_eq_some_iff.mp h
                              refine q_scld2 hxs hxl (pc := 475) dL_law_475 h164 ?_
                              refine q_aload_n (pc := 476) dL_law_476 rfl ?_
                              refine q_iload_n (pc := 477) dL_law_477 rfl ?_
                              refine q_iconst (pc := 478) (v := nI 3) dL_law_478 (by decide) ?_
                              refine q_iadd (pc := 479) dL_law_479 ?_
                              obtain ⟨v165, h166, h⟩ := Option.bind_eq_some_iff.mp h
                              refine q_scld2 hxs hxl (pc := 480) dL_law_480 h166 ?_
                              by_cases k167 : v165 = 0
                              · rw [if_pos k167] at h
                                refine q_if_eq_t (pc := 481) (tgt := 488) dL_law_481 (by decide) k167 ?_
                                refine q_iconst (pc := 488) (v := nI 0) dL_law_488 (by decide) ?_
                                obtain ⟨⟨r170, M171⟩, h169, h⟩ := Option.bind_eq_some_iff.mp h
                                try dsimp only at h
                                refine q_callv (pc := 489) (st := [.int r159]) (a_X12_teach h169) okX12_teach rfl dL_law_489 lk_L_61 sh_25 cl_11 rfl (by decide) (by decide) (Nat.le_of_ble_eq_true rfl) ⟨Nat.le_of_ble_eq_true rfl, Nat.le_of_ble_eq_true rfl⟩ rfl ?_
                                show QW G room_1 YL_law 38 8462 492 [some (.ref 4096), some (.ref 0), some (.ref 25), some (.int c3)] [.int r170, .int r159] SH M171 J _
                                by_cases k172 : r159 = r170
                                · rw [if_pos k172] at h
                                  refine q_icmp_eq_t (pc := 492) (tgt := 1014) dL_law_492 (by decide) k172 ?_
                                  refine q_iincW (pc := 1014) (w := nI 4) (ls' := [some (.ref 4096), some (.ref 0), some (.ref 25), some (.int (c3 + nI 4))]) dL_law_1014 rfl (by decide) (by decide) rfl rfl ?_
                                  refine q_goto (pc := 1017) (tgt := 18) dL_law_1017 (by decide) ?_
                                  exact l_L_law_L18 hxs hxl n (c3 + nI 4) M171 J res h hk hr
                                · rw [if_neg k172] at h
                                  refine q_icmp_eq_f (pc := 492) (tgt := 1014) dL_law_492 (by decide) k172 ?_
                                  refine q_iconst (pc := 495) (v := nI 0) dL_law_495 (by decide) ?_
                                  obtain rfl := Option.some.inj h
                                  exact q_iret (pc := 496) dL_law_496 rfl rfl (hr (false, M171, J) rfl)
                              · rw [if_neg k167] at h
                                refine q_if_eq_f (pc := 481) (tgt := 488) dL_law_481 (by decide) k167 ?_
                                refine q_iconst (pc := 484) (v := nI 1) dL_law_484 (by decide) ?_
                                refine q_goto (pc := 485) (tgt := 489) dL_law_485 (by decide) ?_
                                obtain ⟨⟨r175, M176⟩, h174, h⟩ := Option.bind_eq_some_iff.mp h
                                try dsimp only at h
                                refine q_callv (pc := 489) (st := [.int r159]) (a_X12_teach h174) okX12_teach rfl dL_law_489 lk_L_61 sh_25 cl_11 rfl (by decide) (by decide) (Nat.le_of_ble_eq_true rfl) ⟨Nat.le_of_ble_eq_true rfl, Nat.le_of_ble_eq_true rfl⟩ rfl ?_
                                show QW G room_1 YL_law 38 8462 492 [some (.ref 4096), some (.ref 0), some (.ref 25), some (.int c3)] [.int r175, .int r159] SH M176 J _
                                by_cases k177 : r159 = r175
                                · rw [if_pos k177] at h
                                  refine q_icmp_eq_t (pc := 492) (tgt := 1014) dL_law_492 (by decide) k177 ?_
                                  refine q_iincW (pc := 1014) (w := nI 4) (ls' := [some (.ref 4096), some (.ref 0), some (.ref 25), some (.int (c3 + nI 4))]) dL_law_1014 rfl (by decide) (by decide) rfl rfl ?_
                                  refine q_goto (pc := 1017) (tgt := 18) dL_law_1017 (by decide) ?_
                                  exact l_L_law_L18 hxs hxl n (c3 + nI 4) M176 J res h hk hr
                                · rw [if_neg k177] at h
                                  refine q_icmp_eq_f (pc := 492) (tgt := 1014) dL_law_492 (by decide) k177 ?_
                                  refine q_iconst (pc := 495) (v := nI 0) dL_law_495 (by decide) ?_
                                  obtain rfl := Option.some.inj h
                                  exact q_iret (pc := 496) dL_law_496 rfl rfl (hr (false, M176, J) rfl)
                            · rw [if_neg k156] at h
                              refine q_if_eq_f (pc := 454) (tgt := 461) dL_law_454 (by decide) k156 ?_
                              refine q_iconst (pc := 457) (v := nI 1) dL_law_457 (by decide) ?_
                              refine q_goto (pc := 458) (tgt := 462) dL_law_458 (by decide) ?_
                              obtain ⟨⟨r180, M181⟩, h179, h⟩ := Option.bind_eq_some_iff.mp h
                              try dsimp only at h
                              refine q_callv (pc := 462) (st := []) (a_X11_teach h179) okX11_teach rfl dL_law_462 lk_L_57 sh_0 cl_10 rfl (by decide) (by decide) (Nat.le_of_ble_eq_true rfl) ⟨Nat.le_of_ble_eq_true rfl, Nat.le_of_ble_eq_true rfl⟩ rfl ?_
                              show QW G room_1 YL_law 38 8462 465 [some (.ref 4096), some (.ref 0), some (.ref 25), some (.int c3)] [.int r180] SH M181 J _
                              refine q_aload_n (pc := 465) dL_law_465 rfl ?_
                              refine q_aload_n (pc := 466) dL_law_466 rfl ?_
                              refine q_iload_n (pc := 467) dL_law_467 rfl ?_
                              refine q_iconst (pc := 468) (v := nI 1) dL_law_468 (by decide) ?_
                              refine q_iadd (pc := 469) dL_law_469 ?_
                              obtain ⟨v182, h183, h⟩ := Option.bind_eq_some_iff.mp h
                              refine q_scld2 hxs hxl (pc := 470) dL_law_470 h183 ?_
                              refine q_aload_n (pc := 471) dL_law_471 rfl ?_
                              refine q_iload_n (pc := 472) dL_law_472 rfl ?_
                              refine q_iconst (pc := 473) (v := nI 2) dL_law_473 (by decide) ?_
                              refine q_iadd (pc := 474) dL_law_474 ?_
                              obtain ⟨v184, h185, h⟩ := Option.bind_eq_some_iff.mp h
                              refine q_scld2 hxs hxl (pc := 475) dL_law_475 h185 ?_
                              refine q_aload_n (pc := 476) dL_law_476 rfl ?_
                              refine q_iload_n (pc := 477) dL_law_477 rfl ?_
                              refine q_iconst (pc := 478) (v := nI 3) dL_law_478 (by decide) ?_
                              refine q_iadd (pc := 479) dL_law_479 ?_
                              obtain ⟨v186, h187, h⟩ := Option.bind_eq_some_iff.mp h
                              refine q_scld2 hxs hxl (pc := 480) dL_law_480 h187 ?_
                              by_cases k188 : v186 = 0
                              · rw [if_pos k188] at h
                                refine q_if_eq_t (pc := 481) (tgt := 488) dL_law_481 (by decide) k188 ?_
                                refine q_iconst (pc := 488) (v := nI 0) dL_law_488 (by decide) ?_
                                obtain ⟨⟨r191, M192⟩, h190, h⟩ := Option.bind_eq_some_iff.mp h
                                try dsimp only at h
                                refine q_callv (pc := 489) (st := [.int r180]) (a_X12_teach h190) okX12_teach rfl dL_law_489 lk_L_61 sh_25 cl_11 rfl (by decide) (by decide) (Nat.le_of_ble_eq_true rfl) ⟨Nat.le_of_ble_eq_true rfl, Nat.le_of_ble_eq_true rfl⟩ rfl ?_
                                show QW G room_1 YL_law 38 8462 492 [some (.ref 4096), some (.ref 0), some (.ref 25), some (.int c3)] [.int r191, .int r180] SH M192 J _
                                by_cases k193 : r180 = r191
                                · rw [if_pos k193] at h
                                  refine q_icmp_eq_t (pc := 492) (tgt := 1014) dL_law_492 (by decide) k193 ?_
                                  refine q_iincW (pc := 1014) (w := nI 4) (ls' := [some (.ref 4096), some (.ref 0), some (.ref 25), some (.int (c3 + nI 4))]) dL_law_1014 rfl (by decide) (by decide) rfl rfl ?_
                                  refine q_goto (pc := 1017) (tgt := 18) dL_law_1017 (by decide) ?_
                                  exact l_L_law_L18 hxs hxl n (c3 + nI 4) M192 J res h hk hr
                                · rw [if_neg k193] at h
                                  refine q_icmp_eq_f (pc := 492) (tgt := 1014) dL_law_492 (by decide) k193 ?_
                                  refine q_iconst (pc := 495) (v := nI 0) dL_law_495 (by decide) ?_
                                  obtain rfl := Option.some.inj h
                                  exact q_iret (pc := 496) dL_law_496 rfl rfl (hr (false, M192, J) rfl)
                              · rw [if_neg k188] at h
                                refine q_if_eq_f (pc := 481) (tgt := 488) dL_law_481 (by decide) k188 ?_
                                refine q_iconst (pc := 484) (v := nI 1) dL_law_484 (by decide) ?_
                                refine q_goto (pc := 485) (tgt := 489) dL_law_485 (by decide) ?_
                                obtain ⟨⟨r196, M197⟩, h195, h⟩ := Option.bind_eq_some_iff.mp h
                                try dsimp only at h
                                refine q_callv (pc := 489) (st := [.int r180]) (a_X12_teach h195) okX12_teach rfl dL_law_489 lk_L_61 sh_25 cl_11 rfl (by decide) (by decide) (Nat.le_of_ble_eq_true rfl) ⟨Nat.le_of_ble_eq_true rfl, Nat.le_of_ble_eq_true rfl⟩ rfl ?_
                                show QW G room_1 YL_law 38 8462 492 [some (.ref 4096), some (.ref 0), some (.ref 25), some (.int c3)] [.int r196, .int r180] SH M197 J _
                                by_cases k198 : r180 = r196
                                · rw [if_pos k198] at h
                                  refine q_icmp_eq_t (pc := 492) (tgt := 1014) dL_law_492 (by decide) k198 ?_
                                  refine q_iincW (pc := 1014) (w := nI 4) (ls' := [some (.ref 4096), some (.ref 0), some (.ref 25), some (.int (c3 + nI 4))]) dL_law_1014 rfl (by decide) (by decide) rfl rfl ?_
                                  refine q_goto (pc := 1017) (tgt := 18) dL_law_1017 (by decide) ?_
                                  exact l_L_law_L18 hxs hxl n (c3 + nI 4) M197 J res h hk hr
                                · rw [if_neg k198] at h
                                  refine q_icmp_eq_f (pc := 492) (tgt := 1014) dL_law_492 (by decide) k198 ?_
                                  refine q_iconst (pc := 495) (v := nI 0) dL_law_495 (by decide) ?_
                                  obtain rfl := Option.some.inj h
                                  exact q_iret (pc := 496) dL_law_496 rfl rfl (hr (false, M197, J) rfl)
                          · rw [if_neg k149] at h
                            by_cases k199 : (v2 &&& (nI 31)) = nI 11
                            · rw [if_pos k199] at h
                              refine q_tabIn (pc := 32) (tgt := 497) (off := 465) (j := 11) dL_law_32 (by rw [k199]; rfl) (by decide) (by decide) rfl (by decide) ?_
                              refine q_aload_n (pc := 497) dL_law_497 rfl ?_
                              refine q_aload_n (pc := 498) dL_law_498 rfl ?_
                              refine q_iload_n (pc := 499) dL_law_499 rfl ?_
                              refine q_iconst (pc := 500) (v := nI 1) dL_law_500 (by decide) ?_
                              refine q_iadd (pc := 501) dL_law_501 ?_
                              obtain ⟨v200, h201, h⟩ := Option.bind_eq_some_iff.mp h
                              refine q_scld2 hxs hxl (pc := 502) dL_law_502 h201 ?_
                              refine q_aload_n (pc := 503) dL_law_503 rfl ?_
                              refine q_iload_n (pc := 504) dL_law_504 rfl ?_
                              refine q_iconst (pc := 505) (v := nI 2) dL_law_505 (by decide) ?_
                              refine q_iadd (pc := 506) dL_law_506 ?_
                              obtain ⟨v202, h203, h⟩ := Option.bind_eq_some_iff.mp h
                              refine q_scld2 hxs hxl (pc := 507) dL_law_507 h203 ?_
                              refine q_aload_n (pc := 508) dL_law_508 rfl ?_
                              refine q_iload_n (pc := 509) dL_law_509 rfl ?_
                              refine q_iconst (pc := 510) (v := nI 3) dL_law_510 (by decide) ?_
                              refine q_iadd (pc := 511) dL_law_511 ?_
                              obtain ⟨v204, h205, h⟩ := Option.bind_eq_some_iff.mp h
                              refine q_scld2 hxs hxl (pc := 512) dL_law_512 h205 ?_
                              obtain ⟨⟨r208, M209⟩, h207, h⟩ := Option.bind_eq_some_iff.mp h
                              try dsimp only at h
                              refine q_callv (pc := 513) (st := []) (a_X11_hear h207) okX11_hear rfl dL_law_513 lk_L_62 sh_0 cl_10 rfl (by decide) (by decide) (Nat.le_of_ble_eq_true rfl) ⟨Nat.le_of_ble_eq_true rfl, Nat.le_of_ble_eq_true rfl⟩ rfl ?_
                              show QW G room_1 YL_law 38 8462 516 [some (.ref 4096), some (.ref 0), some (.ref 25), some (.int c3)] [.int r208] SH M209 J _
                              refine q_aload_n (pc := 516) dL_law_516 rfl ?_
                              refine q_aload_n (pc := 517) dL_law_517 rfl ?_
                              refine q_iload_n (pc := 518) dL_law_518 rfl ?_
                              refine q_iconst (pc := 519) (v := nI 1) dL_law_519 (by decide) ?_
                              refine q_iadd (pc := 520) dL_law_520 ?_
                              obtain ⟨v210, h211, h⟩ := Option.bind_eq_some_iff.mp h
                              refine q_scld2 hxs hxl (pc := 521) dL_law_521 h211 ?_
                              refine q_aload_n (pc := 522) dL_law_522 rfl ?_
                              refine q_iload_n (pc := 523) dL_law_523 rfl ?_
                              refine q_iconst (pc := 524) (v := nI 2) dL_law_524 (by decide) ?_
                              refine q_iadd (pc := 525) dL_law_525 ?_
                              obtain ⟨v212, h213, h⟩ := Option.bind_eq_some_iff.mp h
                              refine q_scld2 hxs hxl (pc := 526) dL_law_526 h213 ?_
                              refine q_aload_n (pc := 527) dL_law_527 rfl ?_
                              refine q_iload_n (pc := 528) dL_law_528 rfl ?_
                              refine q_iconst (pc := 529) (v := nI 3) dL_law_529 (by decide) ?_
                              refine q_iadd (pc := 530) dL_law_530 ?_
                              obtain ⟨v214, h215, h⟩ := Option.bind_eq_some_iff.mp h
                              refine q_scld2 hxs hxl (pc := 531) dL_law_531 h215 ?_
                              obtain ⟨⟨r218, M219⟩, h217, h⟩ := Option.bind_eq_some_iff.mp h
                              try dsimp only at h
                              refine q_callv (pc := 532) (st := [.int r208]) (a_X12_hear h217) okX12_hear rfl dL_law_532 lk_L_65 sh_25 cl_11 rfl (by decide) (by decide) (Nat.le_of_ble_eq_true rfl) ⟨Nat.le_of_ble_eq_true rfl, Nat.le_of_ble_eq_true rfl⟩ rfl ?_
                              show QW G room_1 YL_law 38 8462 535 [some (.ref 4096), some (.ref 0), some (.ref 25), some (.int c3)] [.int r218, .int r208] SH M219 J _
                              by_cases k220 : r208 = r218
                              · rw [if_pos k220] at h
                                refine q_icmp_eq_t (pc := 535) (tgt := 1014) dL_law_535 (by decide) k220 ?_
                                refine q_iincW (pc := 1014) (w := nI 4) (ls' := [some (.ref 4096), some (.ref 0), some (.ref 25), some (.int (c3 + nI 4))]) dL_law_1014 rfl (by decide) (by decide) rfl rfl ?_
                                refine q_goto (pc := 1017) (tgt := 18) dL_law_1017 (by decide) ?_
                                exact l_L_law_L18 hxs hxl n (c3 + nI 4) M219 J res h hk hr
                              · rw [if_neg k220] at h
                                refine q_icmp_eq_f (pc := 535) (tgt := 1014) dL_law_535 (by decide) k220 ?_
                                refine q_iconst (pc := 538) (v := nI 0) dL_law_538 (by decide) ?_
                                obtain rfl := Option.some.inj h
                                exact q_iret (pc := 539) dL_law_539 rfl rfl (hr (false, M219, J) rfl)
                            · rw [if_neg k199] at h
                              by_cases k221 : (v2 &&& (nI 31)) = nI 12
                              · rw [if_pos k221] at h
                                refine q_tabIn (pc := 32) (tgt := 540) (off := 508) (j := 12) dL_law_32 (by rw [k221]; rfl) (by decide) (by decide) rfl (by decide) ?_
                                refine q_aload_n (pc := 540) dL_law_540 rfl ?_
                                refine q_aload_n (pc := 541) dL_law_541 rfl ?_
                                refine q_iload_n (pc := 542) dL_law_542 rfl ?_
                                refine q_iconst (pc := 543) (v := nI 1) dL_law_543 (by decide) ?_
                                refine q_iadd (pc := 544) dL_law_544 ?_
                                obtain ⟨v222, h223, h⟩ := Option.bind_eq_some_iff.mp h
                                refine q_scld2 hxs hxl (pc := 545) dL_law_545 h223 ?_
                                refine q_aload_n (pc := 546) dL_law_546 rfl ?_
                                refine q_iload_n (pc := 547) dL_law_547 rfl ?_
                                refine q_iconst (pc := 548) (v := nI 2) dL_law_548 (by decide) ?_
                                refine q_iadd (pc := 549) dL_law_549 ?_
                                obtain ⟨v224, h225, h⟩ := Option.bind_eq_some_iff.mp h
                                refine q_scld2 hxs hxl (pc := 550) dL_law_550 h225 ?_
                                obtain ⟨⟨r228, M229⟩, h227, h⟩ := Option.bind_eq_some_iff.mp h
                                try dsimp only at h
                                refine q_callv (pc := 551) (st := []) (a_X11_practise h227) okX11_practise rfl dL_law_551 lk_L_66 sh_0 cl_10 rfl (by decide) (by decide) (Nat.le_of_ble_eq_true rfl) ⟨Nat.le_of_ble_eq_true rfl, Nat.le_of_ble_eq_true rfl⟩ rfl ?_
                                show QW G room_1 YL_law 38 8462 554 [some (.ref 4096), some (.ref 0), some (.ref 25), some (.int c3)] [.int r228] SH M229 J _
                                refine q_aload_n (pc := 554) dL_law_554 rfl ?_
                                refine q_aload_n (pc := 555) dL_law_555 rfl ?_
                                refine q_iload_n (pc := 556) dL_law_556 rfl ?_
                                refine q_iconst (pc := 557) (v := nI 1) dL_law_557 (by decide) ?_
                                refine q_iadd (pc := 558) dL_law_558 ?_
                                obtain ⟨v230, h231, h⟩ := Option.bind_eq_some_iff.mp h
                                refine q_scld2 hxs hxl (pc := 559) dL_law_559 h231 ?_
                                refine q_aload_n (pc := 560) dL_law_560 rfl ?_
                                refine q_iload_n (pc := 561) dL_law_561 rfl ?_
                                refine q_iconst (pc := 562) (v := nI 2) dL_law_562 (by decide) ?_
                                refine q_iadd (pc := 563) dL_law_563 ?_
                                obtain ⟨v232, h233, h⟩ := Option.bind_eq_some_iff.mp h
                                refine q_scld2 hxs hxl (pc := 564) dL_law_564 h233 ?_
                                obtain ⟨⟨r236, M237⟩, h235, h⟩ := Option.bind_eq_some_iff.mp h
                                try dsimp only at h
                                refine q_callv (pc := 565) (st := [.int r228]) (a_X12_practise h235) okX12_practise rfl dL_law_565 lk_L_69 sh_25 cl_11 rfl (by decide) (by decide) (Nat.le_of_ble_eq_true rfl) ⟨Nat.le_of_ble_eq_true rfl, Nat.le_of_ble_eq_true rfl⟩ rfl ?_
                                show QW G room_1 YL_law 38 8462 568 [some (.ref 4096), some (.ref 0), some (.ref 25), some (.int c3)] [.int r236, .int r228] SH M237 J _
                                by_cases k238 : r228 = r236
                                · rw [if_pos k238] at h
                                  refine q_icmp_eq_t (pc := 568) (tgt := 1014) dL_law_568 (by decide) k238 ?_
                                  refine q_iincW (pc := 1014) (w := nI 4) (ls' := [some (.ref 4096), some (.ref 0), some (.ref 25), some (.int (c3 + nI 4))]) dL_law_1014 rfl (by decide) (by decide) rfl rfl ?_
                                  refine q_goto (pc := 1017) (tgt := 18) dL_law_1017 (by decide) ?_
                                  exact l_L_law_L18 hxs hxl n (c3 + nI 4) M237 J res h hk hr
                                · rw [if_neg k238] at h
                                  refine q_icmp_eq_f (pc := 568) (tgt := 1014) dL_law_568 (by decide) k238 ?_
                                  refine q_iconst (pc := 571) (v := nI 0) dL_law_571 (by decide) ?_
                                  obtain rfl := Option.some.inj h
                                  exact q_iret (pc := 572) dL_law_572 rfl rfl (hr (false, M237, J) rfl)
                              · rw [if_neg k221] at h
                                by_cases k239 : (v2 &&& (nI 31)) = nI 13
                                · rw [if_pos k239] at h
                                  refine q_tabIn (pc := 32) (tgt := 573) (off := 541) (j := 13) dL_law_32 (by rw [k239]; rfl) (by decide) (by decide) rfl (by decide) ?_
                                  refine q_aload_n (pc := 573) dL_law_573 rfl ?_
                                  refine q_aload_n (pc := 574) dL_law_574 rfl ?_
                                  refine q_iload_n (pc := 575) dL_law_575 rfl ?_
                                  refine q_iconst (pc := 576) (v := nI 1) dL_law_576 (by decide) ?_
                                  refine q_iadd (pc := 577) dL_law_577 ?_
                                  obtain ⟨v240, h241, h⟩ := Option.bind_eq_some_iff.mp h
                                  refine q_scld2 hxs hxl (pc := 578) dL_law_578 h241 ?_
                                  refine q_aload_n (pc := 579) dL_law_579 rfl ?_
                                  refine q_iload_n (pc := 580) dL_law_580 rfl ?_
                                  refine q_iconst (pc := 581) (v := nI 2) dL_law_581 (by decide) ?_
                                  refine q_iadd (pc := 582) dL_law_582 ?_
                                  obtain ⟨v242, h243, h⟩ := Option.bind_eq_some_iff.mp h
                                  refine q_scld2 hxs hxl (pc := 583) dL_law_583 h243 ?_
                                  obtain ⟨⟨r246, M247⟩, h245, h⟩ := Option.bind_eq_some_iff.mp h
                                  try dsimp only at h
                                  refine q_callv (pc := 584) (st := []) (a_X11_sour h245) okX11_sour rfl dL_law_584 lk_L_70 sh_0 cl_10 rfl (by decide) (by decide) (Nat.le_of_ble_eq_true rfl) ⟨Nat.le_of_ble_eq_true rfl, Nat.le_of_ble_eq_true rfl⟩ rfl ?_
                                  show QW G room_1 YL_law 38 8462 587 [some (.ref 4096), some (.ref 0), some (.ref 25), some (.int c3)] [.int r246] SH M247 J _
                                  refine q_aload_n (pc := 587) dL_law_587 rfl ?_
                                  refine q_aload_n (pc := 588) dL_law_588 rfl ?_
                                  refine q_iload_n (pc := 589) dL_law_589 rfl ?_
                                  refine q_iconst (pc := 590) (v := nI 1) dL_law_590 (by decide) ?_
                                  refine q_iadd (pc := 591) dL_law_591 ?_
                                  obtain ⟨v248, h249, h⟩ := Option.bind_eq_some_iff.mp h
                                  refine q_scld2 hxs hxl (pc := 592) dL_law_592 h249 ?_
                                  refine q_aload_n (pc := 593) dL_law_593 rfl ?_
                                  refine q_iload_n (pc := 594) dL_law_594 rfl ?_
                                  refine q_iconst (pc := 595) (v := nI 2) dL_law_595 (by decide) ?_
                                  refine q_iadd (pc := 596) dL_law_596 ?_
                                  obtain ⟨v250, h251, h⟩ := Option.bind_eq_some_iff.mp h
                                  refine q_scld2 hxs hxl (pc := 597) dL_law_597 h251 ?_
                                  obtain ⟨⟨r254, M255⟩, h253, h⟩ := Option.bind_eq_some_iff.mp h
                                  try dsimp only at h
                                  refine q_callv (pc := 598) (st := [.int r246]) (a_X12_sour h253) okX12_sour rfl dL_law_598 lk_L_73 sh_25 cl_11 rfl (by decide) (by decide) (Nat.le_of_ble_eq_true rfl) ⟨Nat.le_of_ble_eq_true rfl, Nat.le_of_ble_eq_true rfl⟩ rfl ?_
                                  show QW G room_1 YL_law 38 8462 601 [some (.ref 4096), some (.ref 0), some (.ref 25), some (.int c3)] [.int r254, .int r246] SH M255 J _
                                  by_cases k256 : r246 = r254
                                  · rw [if_pos k256] at h
                                    refine q_icmp_eq_t (pc := 601) (tgt := 1014) dL_law_601 (by decide) k256 ?_
                                    refine q_iincW (pc := 1014) (w := nI 4) (ls' := [some (.ref 4096), some (.ref 0), some (.ref 25), some (.int (c3 + nI 4))]) dL_law_1014 rfl (by decide) (by decide) rfl rfl ?_
                                    refine q_goto (pc := 1017) (tgt := 18) dL_law_1017 (by decide) ?_
                                    exact l_L_law_L18 hxs hxl n (c3 + nI 4) M255 J res h hk hr
                                  · rw [if_neg k256] at h
                                    refine q_icmp_eq_f (pc := 601) (tgt := 1014) dL_law_601 (by decide) k256 ?_
                                    refine q_iconst (pc := 604) (v := nI 0) dL_law_604 (by decide) ?_
                                    obtain rfl := Option.some.inj h
                                    exact q_iret (pc := 605) dL_law_605 rfl rfl (hr (false, M255, J) rfl)
                                · rw [if_neg k239] at h
                                  by_cases k257 : (v2 &&& (nI 31)) = nI 14
                                  · rw [if_pos k257] at h
                                    refine q_tabIn (pc := 32) (tgt := 606) (off := 574) (j := 14) dL_law_32 (by rw [k257]; rfl) (by decide) (by decide) rfl (by decide) ?_
                                    refine q_aload_n (pc := 606) dL_law_606 rfl ?_
                                    refine q_aload_n (pc := 607) dL_law_607 rfl ?_
                                    refine q_iload_n (pc := 608) dL_law_608 rfl ?_
                                    refine q_iconst (pc := 609) (v := nI 1) dL_law_609 (by decide) ?_
                                    refine q_iadd (pc := 610) dL_law_610 ?_
                                    obtain ⟨v258, h259, h⟩ := Option.bind_eq_some_iff.mp h
                                    refine q_scld2 hxs hxl (pc := 611) dL_law_611 h259 ?_
                                    obtain ⟨⟨r262, M263⟩, h261, h⟩ := Option.bind_eq_some_iff.mp h
                                    try dsimp only at h
                                    refine q_callv (pc := 612) (st := []) (a_X11_drift h261) okX11_drift rfl dL_law_612 lk_L_74 sh_0 cl_10 rfl (by decide) (by decide) (Nat.le_of_ble_eq_true rfl) ⟨Nat.le_of_ble_eq_true rfl, Nat.le_of_ble_eq_true rfl⟩ rfl ?_
                                    show QW G room_1 YL_law 38 8462 615 [some (.ref 4096), some (.ref 0), some (.ref 25), some (.int c3)] [.int r262] SH M263 J _
                                    refine q_aload_n (pc := 615) dL_law_615 rfl ?_
                                    refine q_aload_n (pc := 616) dL_law_616 rfl ?_
                                    refine q_iload_n (pc := 617) dL_law_617 rfl ?_
                                    refine q_iconst (pc := 618) (v := nI 1) dL_law_618 (by decide) ?_
                                    refine q_iadd (pc := 619) dL_law_619 ?_
                                    obtain ⟨v264, h265, h⟩ := Option.bind_eq_some_iff.mp h
                                    refine q_scld2 hxs hxl (pc := 620) dL_law_620 h265 ?_
                                    obtain ⟨⟨r268, M269, J270⟩, h267, h⟩ := Option.bind_eq_some_iff.mp h
                                    try dsimp only at h
                                    refine q_callv (pc := 621) (st := [.int r262]) (a_X12_drift h267) okX12_drift rfl dL_law_621 lk_L_77 sh_25 cl_11 rfl (by decide) (by decide) (Nat.le_of_ble_eq_true rfl) ⟨Nat.le_of_ble_eq_true rfl, Nat.le_of_ble_eq_true rfl⟩ rfl ?_
                                    show QW G room_1 YL_law 38 8462 624 [some (.ref 4096), some (.ref 0), some (.ref 25), some (.int c3)] [.int r268, .int r262] SH M269 J270 _
                                    by_cases k271 : r262 = r268
                                    · rw [if_pos k271] at h
                                      refine q_icmp_eq_t (pc := 624) (tgt := 1014) dL_law_624 (by decide) k271 ?_
                                      refine q_iincW (pc := 1014) (w := nI 4) (ls' := [some (.ref 4096), some (.ref 0), some (.ref 25), some (.int (c3 + nI 4))]) dL_law_1014 rfl (by decide) (by decide) rfl rfl ?_
                                      refine q_goto (pc := 1017) (tgt := 18) dL_law_1017 (by decide) ?_
                                      exact l_L_law_L18 hxs hxl n (c3 + nI 4) M269 J270 res h hk hr
                                    · rw [if_neg k271] at h
                                      refine q_icmp_eq_f (pc := 624) (tgt := 1014) dL_law_624 (by decide) k271 ?_
                                      refine q_iconst (pc := 627) (v := nI 0) dL_law_627 (by decide) ?_
                                      obtain rfl := Option.some.inj h
                                      exact q_iret (pc := 628) dL_law_628 rfl rfl (hr (false, M269, J270) rfl)
                                  · rw [if_neg k257] at h
                                    by_cases k272 : (v2 &&& (nI 31)) = nI 15
                                    · rw [if_pos k272] at h
                                      refine q_tabIn (pc := 32) (tgt := 629) (off := 597) (j := 15) dL_law_32 (by rw [k272]; rfl) (by decide) (by decide) rfl (by decide) ?_
                                      refine q_aload_n (pc := 629) dL_law_629 rfl ?_
                                      obtain ⟨⟨r275, M276⟩, h274, h⟩ := Option.bind_eq_some_iff.mp h
                                      try dsimp only at h
                                      refine q_callv (pc := 630) (st := []) (a_X11_undo h274) okX11_undo rfl dL_law_630 lk_L_78 sh_0 cl_10 rfl (by decide) (by decide) (Nat.le_of_ble_eq_true rfl) ⟨Nat.le_of_ble_eq_true rfl, Nat.le_of_ble_eq_true rfl⟩ rfl ?_
                                      show QW G room_1 YL_law 38 8462 633 [some (.ref 4096), some (.ref 0), some (.ref 25), some (.int c3)] [.int r275] SH M276 J _
                                      refine q_aload_n (pc := 633) dL_law_633 rfl ?_
                                      obtain ⟨⟨r279, M280⟩, h278, h⟩ := Option.bind_eq_some_iff.mp h
                                      try dsimp only at h
                                      refine q_callv (pc := 634) (st := [.int r275]) (a_X12_undo h278) okX12_undo rfl dL_law_634 lk_L_81 sh_25 cl_11 rfl (by decide) (by decide) (Nat.le_of_ble_eq_true rfl) ⟨Nat.le_of_ble_eq_true rfl, Nat.le_of_ble_eq_true rfl⟩ rfl ?_
                                      show QW G room_1 YL_law 38 8462 637 [some (.ref 4096), some (.ref 0), some (.ref 25), some (.int c3)] [.int r279, .int r275] SH M280 J _
                                      by_cases k281 : r275 = r279
                                      · rw [if_pos k281] at h
                                        refine q_icmp_eq_t (pc := 637) (tgt := 1014) dL_law_637 (by decide) k281 ?_
                                        refine q_iincW (pc := 1014) (w := nI 4) (ls' := [some (.ref 4096), some (.ref 0), some (.ref 25), some (.int (c3 + nI 4))]) dL_law_1014 rfl (by decide) (by decide) rfl rfl ?_
                                        refine q_goto (pc := 1017) (tgt := 18) dL_law_1017 (by decide) ?_
                                        exact l_L_law_L18 hxs hxl n (c3 + nI 4) M280 J res h hk hr
                                      · rw [if_neg k281] at h
                                        refine q_icmp_eq_f (pc := 637) (tgt := 1014) dL_law_637 (by decide) k281 ?_
                                        refine q_iconst (pc := 640) (v := nI 0) dL_law_640 (by decide) ?_
                                        obtain rfl := Option.some.inj h
                                        exact q_iret (pc := 641) dL_law_641 rfl rfl (hr (false, M280, J) rfl)
                                    · rw [if_neg k272] at h
                                      by_cases k282 : (v2 &&& (nI 31)) = nI 16
                                      · rw [if_pos k282] at h
                                        refine q_tabIn (pc := 32) (tgt := 642) (off := 610) (j := 16) dL_law_32 (by rw [k282]; rfl) (by decide) (by decide) rfl (by decide) ?_
                                        refine q_aload_n (pc := 642) dL_law_642 rfl ?_
                                        refine q_aload_n (pc := 643) dL_law_643 rfl ?_
                                        refine q_iload_n (pc := 644) dL_law_644 rfl ?_
                                        refine q_iconst (pc := 645) (v := nI 1) dL_law_645 (by decide) ?_
                                        refine q_iadd (pc := 646) dL_law_646 ?_
                                        obtain ⟨v283, h284, h⟩ := Option.bind_eq_some_iff.mp h
                                        refine q_scld2 hxs hxl (pc := 647) dL_law_647 h284 ?_
                                        refine q_aload_n (pc := 648) dL_law_648 rfl ?_
                                        refine q_iload_n (pc := 649) dL_law_649 rfl ?_
                                        refine q_iconst (pc := 650) (v := nI 2) dL_law_650 (by decide) ?_
                                        refine q_iadd (pc := 651) dL_law_651 ?_
                                        obtain ⟨v285, h286, h⟩ := Option.bind_eq_some_iff.mp h
                                        refine q_scld2 hxs hxl (pc := 652) dL_law_652 h286 ?_
                                        obtain ⟨r289, h288, h⟩ := Option.bind_eq_some_iff.mp h
                                        refine q_callv (pc := 653) (st := []) (a_X11_soonest h288) okX11_soonest rfl dL_law_653 lk_L_82 sh_0 cl_10 rfl (by decide) (by decide) (Nat.le_of_ble_eq_true rfl) ⟨Nat.le_of_ble_eq_true rfl, Nat.le_of_ble_eq_true rfl⟩ rfl ?_
                                        show QW G room_1 YL_law 38 8462 656 [some (.ref 4096), some (.ref 0), some (.ref 25), some (.int c3)] [.int r289] SH M J _
                                        refine q_aload_n (pc := 656) dL_law_656 rfl ?_
                                        refine q_aload_n (pc := 657) dL_law_657 rfl ?_
                                        refine q_iload_n (pc := 658) dL_law_658 rfl ?_
                                        refine q_iconst (pc := 659) (v := nI 1) dL_law_659 (by decide) ?_
                                        refine q_iadd (pc := 660) dL_law_660 ?_
                                        obtain ⟨v290, h291, h⟩ := Option.bind_eq_some_iff.mp h
                                        refine q_scld2 hxs hxl (pc := 661) dL_law_661 h291 ?_
                                        refine q_aload_n (pc := 662) dL_law_662 rfl ?_
                                        refine q_iload_n (pc := 663) dL_law_663 rfl ?_
                                        refine q_iconst (pc := 664) (v := nI 2) dL_law_664 (by decide) ?_
                                        refine q_iadd (pc := 665) dL_law_665 ?_
                                        obtain ⟨v292, h293, h⟩ := Option.bind_eq_some_iff.mp h
                                        refine q_scld2 hxs hxl (pc := 666) dL_law_666 h293 ?_
                                        obtain ⟨⟨r296, M297⟩, h295, h⟩ := Option.bind_eq_some_iff.mp h
                                        try dsimp only at h
                                        refine q_callv (pc := 667) (st := [.int r289]) (a_X12_soonest h295) okX12_soonest rfl dL_law_667 lk_L_85 sh_25 cl_11 rfl (by decide) (by decide) (Nat.le_of_ble_eq_true rfl) ⟨Nat.le_of_ble_eq_true rfl, Nat.le_of_ble_eq_true rfl⟩ rfl ?_
                                        show QW G room_1 YL_law 38 8462 670 [some (.ref 4096), some (.ref 0), some (.ref 25), some (.int c3)] [.int r296, .int r289] SH M297 J _
                                        by_cases k298 : r289 = r296
                                        · rw [if_pos k298] at h
                                          refine q_icmp_eq_t (pc := 670) (tgt := 1014) dL_law_670 (by decide) k298 ?_
                                          refine q_iincW (pc := 1014) (w := nI 4) (ls' := [some (.ref 4096), some (.ref 0), some (.ref 25), some (.int (c3 + nI 4))]) dL_law_1014 rfl (by decide) (by decide) rfl rfl ?_
                                          refine q_goto (pc := 1017) (tgt := 18) dL_law_1017 (by decide) ?_
                                          exact l_L_law_L18 hxs hxl n (c3 + nI 4) M297 J res h hk hr
                                        · rw [if_neg k298] at h
                                          refine q_icmp_eq_f (pc := 670) (tgt := 1014) dL_law_670 (by decide) k298 ?_
                                          refine q_iconst (pc := 673) (v := nI 0) dL_law_673 (by decide) ?_
                                          obtain rfl := Option.some.inj h
                                          exact q_iret (pc := 674) dL_law_674 rfl rfl (hr (false, M297, J) rfl)
                                      · rw [if_neg k282] at h
                                        by_cases k299 : (v2 &&& (nI 31)) = nI 17
                                        · rw [if_pos k299] at h
                                          refine q_tabIn (pc := 32) (tgt := 675) (off := 643) (j := 17) dL_law_32 (by rw [k299]; rfl) (by decide) (by decide) rfl (by decide) ?_
                                          refine q_aload_n (pc := 675) dL_law_675 rfl ?_
                                          refine q_aload_n (pc := 676) dL_law_676 rfl ?_
                                          refine q_iload_n (pc := 677) dL_law_677 rfl ?_
                                          refine q_iconst (pc := 678) (v := nI 1) dL_law_678 (by decide) ?_
                                          refine q_iadd (pc := 679) dL_law_679 ?_
                                          obtain ⟨v300, h301, h⟩ := Option.bind_eq_some_iff.mp h
                                          refine q_scld2 hxs hxl (pc := 680) dL_law_680 h301 ?_
                                          obtain ⟨⟨r304, M305⟩, h303, h⟩ := Option.bind_eq_some_iff.mp h
                                          try dsimp only at h
                                          refine q_callv (pc := 681) (st := []) (a_X11_match h303) okX11_match rfl dL_law_681 lk_L_86 sh_0 cl_10 rfl (by decide) (by decide) (Nat.le_of_ble_eq_true rfl) ⟨Nat.le_of_ble_eq_true rfl, Nat.le_of_ble_eq_true rfl⟩ rfl ?_
                                          show QW G room_1 YL_law 38 8462 684 [some (.ref 4096), some (.ref 0), some (.ref 25), some (.int c3)] [.int r304] SH M305 J _
                                          refine q_aload_n (pc := 684) dL_law_684 rfl ?_
                                          refine q_aload_n (pc := 685) dL_law_685 rfl ?_
                                          refine q_iload_n (pc := 686) dL_law_686 rfl ?_
                                          refine q_iconst (pc := 687) (v := nI 1) dL_law_687 (by decide) ?_
                                          refine q_iadd (pc := 688) dL_law_688 ?_
                                          obtain ⟨v306, h307, h⟩ := Option.bind_eq_some_iff.mp h
                                          refine q_scld2 hxs hxl (pc := 689) dL_law_689 h307 ?_
                                          obtain ⟨⟨r310, M311⟩, h309, h⟩ := Option.bind_eq_some_iff.mp h
                                          try dsimp only at h
                                          refine q_callv (pc := 690) (st := [.int r304]) (a_X12_match h309) okX12_match rfl dL_law_690 lk_L_89 sh_25 cl_11 rfl (by decide) (by decide) (Nat.le_of_ble_eq_true rfl) ⟨Nat.le_of_ble_eq_true rfl, Nat.le_of_ble_eq_true rfl⟩ rfl ?_
                                          show QW G room_1 YL_law 38 8462 693 [some (.ref 4096), some (.ref 0), some (.ref 25), some (.int c3)] [.int r310, .int r304] SH M311 J _
                                          by_cases k312 : r304 = r310
                                          · rw [if_pos k312] at h
                                            refine q_icmp_eq_t (pc := 693) (tgt := 1014) dL_law_693 (by decide) k312 ?_
                                            refine q_iincW (pc := 1014) (w := nI 4) (ls' := [some (.ref 4096), some (.ref 0), some (.ref 25), some (.int (c3 + nI 4))]) dL_law_1014 rfl (by decide) (by decide) rfl rfl ?_
                                            refine q_goto (pc := 1017) (tgt := 18) dL_law_1017 (by decide) ?_
                                            exact l_L_law_L18 hxs hxl n (c3 + nI 4) M311 J res h hk hr
                                          · rw [if_neg k312] at h
                                            refine q_icmp_eq_f (pc := 693) (tgt := 1014) dL_law_693 (by decide) k312 ?_
                                            refine q_iconst (pc := 696) (v := nI 0) dL_law_696 (by decide) ?_
                                            obtain rfl := Option.some.inj h
                                            exact q_iret (pc := 697) dL_law_697 rfl rfl (hr (false, M311, J) rfl)
                                        · rw [if_neg k299] at h
                                          by_cases k313 : (v2 &&& (nI 31)) = nI 18
                                          · rw [if_pos k313] at h
                                            refine q_tabIn (pc := 32) (tgt := 698) (off := 666) (j := 18) dL_law_32 (by rw [k313]; rfl) (by decide) (by decide) rfl (by decide) ?_
                                            refine q_aload_n (pc := 698) dL_law_698 rfl ?_
                                            refine q_aload_n (pc := 699) dL_law_699 rfl ?_
                                            refine q_iload_n (pc := 700) dL_law_700 rfl ?_
                                            refine q_iconst (pc := 701) (v := nI 1) dL_law_701 (by decide) ?_
                                            refine q_iadd (pc := 702) dL_law_702 ?_
                                            obtain ⟨v314, h315, h⟩ := Option.bind_eq_some_iff.mp h
                                            refine q_scld2 hxs hxl (pc := 703) dL_law_703 h315 ?_
                                            refine q_aload_n (pc := 704) dL_law_704 rfl ?_
                                            refine q_iload_n (pc := 705) dL_law_705 rfl ?_
                                            refine q_iconst (pc := 706) (v := nI 2) dL_law_706 (by decide) ?_
                                            refine q_iadd (pc := 707) dL_law_707 ?_
                                            obtain ⟨v316, h317, h⟩ := Option.bind_eq_some_iff.mp h
                                            refine q_scld2 hxs hxl (pc := 708) dL_law_708 h317 ?_
                                            refine q_aload_n (pc := 709) dL_law_709 rfl ?_
                                            refine q_iload_n (pc := 710) dL_law_710 rfl ?_
                                            refine q_iconst (pc := 711) (v := nI 3) dL_law_711 (by decide) ?_
                                            refine q_iadd (pc := 712) dL_law_712 ?_
                                            obtain ⟨v318, h319, h⟩ := Option.bind_eq_some_iff.mp h
                                            refine q_scld2 hxs hxl (pc := 713) dL_law_713 h319 ?_
                                            obtain ⟨⟨r322, M323⟩, h321, h⟩ := Option.bind_eq_some_iff.mp h
                                            try dsimp only at h
                                            refine q_callv (pc := 714) (st := []) (a_X11_rounds h321) okX11_rounds rfl dL_law_714 lk_L_90 sh_0 cl_10 rfl (by decide) (by decide) (Nat.le_of_ble_eq_true rfl) ⟨Nat.le_of_ble_eq_true rfl, Nat.le_of_ble_eq_true rfl⟩ rfl ?_
                                            show QW G room_1 YL_law 38 8462 717 [some (.ref 4096), some (.ref 0), some (.ref 25), some (.int c3)] [.int r322] SH M323 J _
                                            refine q_aload_n (pc := 717) dL_law_717 rfl ?_
                                            refine q_aload_n (pc := 718) dL_law_718 rfl ?_
                                            refine q_iload_n (pc := 719) dL_law_719 rfl ?_
                                            refine q_iconst (pc := 720) (v := nI 1) dL_law_720 (by decide) ?_
                                            refine q_iadd (pc := 721) dL_law_721 ?_
                                            obtain ⟨v324, h325, h⟩ := Option.bind_eq_some_iff.mp h
                                            refine q_scld2 hxs hxl (pc := 722) dL_law_722 h325 ?_
                                            refine q_aload_n (pc := 723) dL_law_723 rfl ?_
                                            refine q_iload_n (pc := 724) dL_law_724 rfl ?_
                                            refine q_iconst (pc := 725) (v := nI 2) dL_law_725 (by decide) ?_
                                            refine q_iadd (pc := 726) dL_law_726 ?_
                                            obtain ⟨v326, h327, h⟩ := Option.bind_eq_some_iff.mp h
                                            refine q_scld2 hxs hxl (pc := 727) dL_law_727 h327 ?_
                                            refine q_aload_n (pc := 728) dL_law_728 rfl ?_
                                            refine q_iload_n (pc := 729) dL_law_729 rfl ?_
                                            refine q_iconst (pc := 730) (v := nI 3) dL_law_730 (by decide) ?_
                                            refine q_iadd (pc := 731) dL_law_731 ?_
                                            obtain ⟨v328, h329, h⟩ := Option.bind_eq_some_iff.mp h
                                            refine q_scld2 hxs hxl (pc := 732) dL_law_732 h329 ?_
                                            obtain ⟨⟨r332, M333⟩, h331, h⟩ := Option.bind_eq_some_iff.mp h
                                            try dsimp only at h
                                            refine q_callv (pc := 733) (st := [.int r322]) (a_X12_rounds h331) okX12_rounds rfl dL_law_733 lk_L_93 sh_25 cl_11 rfl (by decide) (by decide) (Nat.le_of_ble_eq_true rfl) ⟨Nat.le_of_ble_eq_true rfl, Nat.le_of_ble_eq_true rfl⟩ rfl ?_
                                            show QW G room_1 YL_law 38 8462 736 [some (.ref 4096), some (.ref 0), some (.ref 25), some (.int c3)] [.int r332, .int r322] SH M333 J _
                                            by_cases k334 : r322 = r332
                                            · rw [if_pos k334] at h
                                              refine q_icmp_eq_t (pc := 736) (tgt := 1014) dL_law_736 (by decide) k334 ?_
                                              refine q_iincW (pc := 1014) (w := nI 4) (ls' := [some (.ref 4096), some (.ref 0), some (.ref 25), some (.int (c3 + nI 4))]) dL_law_1014 rfl (by decide) (by decide) rfl rfl ?_
                                              refine q_goto (pc := 1017) (tgt := 18) dL_law_1017 (by decide) ?_
                                              exact l_L_law_L18 hxs hxl n (c3 + nI 4) M333 J res h hk hr
                                            · rw [if_neg k334] at h
                                              refine q_icmp_eq_f (pc := 736) (tgt := 1014) dL_law_736 (by decide) k334 ?_
                                              refine q_iconst (pc := 739) (v := nI 0) dL_law_739 (by decide) ?_
                                              obtain rfl := Option.some.inj h
                                              exact q_iret (pc := 740) dL_law_740 rfl rfl (hr (false, M333, J) rfl)
                                          · rw [if_neg k313] at h
                                            by_cases k335 : (v2 &&& (nI 31)) = nI 19
                                            · rw [if_pos k335] at h
                                              refine q_tabIn (pc := 32) (tgt := 741) (off := 709) (j := 19) dL_law_32 (by rw [k335]; rfl) (by decide) (by decide) rfl (by decide) ?_
                                              refine q_aload_n (pc := 741) dL_law_741 rfl ?_
                                              refine q_aload_n (pc := 742) dL_law_742 rfl ?_
                                              refine q_iload_n (pc := 743) dL_law_743 rfl ?_
                                              refine q_iconst (pc := 744) (v := nI 1) dL_law_744 (by decide) ?_
                                              refine q_iadd (pc := 745) dL_law_745 ?_
                                              obtain ⟨v336, h337, h⟩ := Option.bind_eq_some_iff.mp h
                                              refine q_scld2 hxs hxl (pc := 746) dL_law_746 h337 ?_
                                              refine q_aload_n (pc := 747) dL_law_747 rfl ?_
                                              refine q_iload_n (pc := 748) dL_law_748 rfl ?_
                                              refine q_iconst (pc := 749) (v := nI 2) dL_law_749 (by decide) ?_
                                              refine q_iadd (pc := 750) dL_law_750 ?_
                                              obtain ⟨v338, h339, h⟩ := Option.bind_eq_some_iff.mp h
                                              refine q_scld2 hxs hxl (pc := 751) dL_law_751 h339 ?_
                                              obtain ⟨r342, h341, h⟩ := Option.bind_eq_some_iff.mp h
                                              refine q_callv (pc := 752) (st := []) (a_X11_holds h341) okX11_holds rfl dL_law_752 lk_L_94 sh_0 cl_10 rfl (by decide) (by decide) (Nat.le_of_ble_eq_true rfl) ⟨Nat.le_of_ble_eq_true rfl, Nat.le_of_ble_eq_true rfl⟩ rfl ?_
                                              show QW G room_1 YL_law 38 8462 755 [some (.ref 4096), some (.ref 0), some (.ref 25), some (.int c3)] [.int r342] SH M J _
                                              refine q_aload_n (pc := 755) dL_law_755 rfl ?_
                                              refine q_aload_n (pc := 756) dL_law_756 rfl ?_
                                              refine q_iload_n (pc := 757) dL_law_757 rfl ?_
                                              refine q_iconst (pc := 758) (v := nI 1) dL_law_758 (by decide) ?_
                                              refine q_iadd (pc := 759) dL_law_759 ?_
                                              obtain ⟨v343, h344, h⟩ := Option.bind_eq_some_iff.mp h
                                              refine q_scld2 hxs hxl (pc := 760) dL_law_760 h344 ?_
                                              refine q_aload_n (pc := 761) dL_law_761 rfl ?_
                                              refine q_iload_n (pc := 762) dL_law_762 rfl ?_
                                              refine q_iconst (pc := 763) (v := nI 2) dL_law_763 (by decide) ?_
                                              refine q_iadd (pc := 764) dL_law_764 ?_
                                              obtain ⟨v345, h346, h⟩ := Option.bind_eq_some_iff.mp h
                                              refine q_scld2 hxs hxl (pc := 765) dL_law_765 h346 ?_
                                              obtain ⟨r349, h348, h⟩ := Option.bind_eq_some_iff.mp h
                                              refine q_callv (pc := 766) (st := [.int r342]) (a_X12_holds h348) okX12_holds rfl dL_law_766 lk_L_97 sh_25 cl_11 rfl (by decide) (by decide) (Nat.le_of_ble_eq_true rfl) ⟨Nat.le_of_ble_eq_true rfl, Nat.le_of_ble_eq_true rfl⟩ rfl ?_
                                              show QW G room_1 YL_law 38 8462 769 [some (.ref 4096), some (.ref 0), some (.ref 25), some (.int c3)] [.int r349, .int r342] SH M J _
                                              by_cases k350 : r342 = r349
                                              · rw [if_pos k350] at h
                                                refine q_icmp_eq_t (pc := 769) (tgt := 1014) dL_law_769 (by decide) k350 ?_
                                                refine q_iincW (pc := 1014) (w := nI 4) (ls' := [some (.ref 4096), some (.ref 0), some (.ref 25), some (.int (c3 + nI 4))]) dL_law_1014 rfl (by decide) (by decide) rfl rfl ?_
                                                refine q_goto (pc := 1017) (tgt := 18) dL_law_1017 (by decide) ?_
                                                exact l_L_law_L18 hxs hxl n (c3 + nI 4) M J res h hk hr
                                              · rw [if_neg k350] at h
                                                refine q_icmp_eq_f (pc := 769) (tgt := 1014) dL_law_769 (by decide) k350 ?_
                                                refine q_iconst (pc := 772) (v := nI 0) dL_law_772 (by decide) ?_
                                                obtain rfl := Option.some.inj h
                                                exact q_iret (pc := 773) dL_law_773 rfl rfl (hr (false, M, J) rfl)
                                            · rw [if_neg k335] at h
                                              by_cases k351 : (v2 &&& (nI 31)) = nI 20
                                              · rw [if_pos k351] at h
                                                refine q_tabIn (pc := 32) (tgt := 774) (off := 742) (j := 20) dL_law_32 (by rw [k351]; rfl) (by decide) (by decide) rfl (by decide) ?_
                                                refine q_aload_n (pc := 774) dL_law_774 rfl ?_
                                                refine q_aload_n (pc := 775) dL_law_775 rfl ?_
                                                refine q_iload_n (pc := 776) dL_law_776 rfl ?_
                                                refine q_iconst (pc := 777) (v := nI 1) dL_law_777 (by decide) ?_
                                                refine q_iadd (pc := 778) dL_law_778 ?_
                                                obtain ⟨v352, h353, h⟩ := Option.bind_eq_some_iff.mp h
                                                refine q_scld2 hxs hxl (pc := 779) dL_law_779 h353 ?_
                                                refine q_aload_n (pc := 780) dL_law_780 rfl ?_
                                                refine q_iload_n (pc := 781) dL_law_781 rfl ?_
                                                refine q_iconst (pc := 782) (v := nI 2) dL_law_782 (by decide) ?_
                                                refine q_iadd (pc := 783) dL_law_783 ?_
                                                obtain ⟨v354, h355, h⟩ := Option.bind_eq_some_iff.mp h
                                                refine q_scld2 hxs hxl (pc := 784) dL_law_784 h355 ?_
                                                obtain ⟨r358, h357, h⟩ := Option.bind_eq_some_iff.mp h
                                                refine q_callv (pc := 785) (st := []) (a_X11_dry h357) okX11_dry rfl dL_law_785 lk_L_98 sh_0 cl_10 rfl (by decide) (by decide) (Nat.le_of_ble_eq_true rfl) ⟨Nat.le_of_ble_eq_true rfl, Nat.le_of_ble_eq_true rfl⟩ rfl ?_
                                                show QW G room_1 YL_law 38 8462 788 [some (.ref 4096), some (.ref 0), some (.ref 25), some (.int c3)] [.int r358] SH M J _
                                                refine q_aload_n (pc := 788) dL_law_788 rfl ?_
                                                refine q_aload_n (pc := 789) dL_law_789 rfl ?_
                                                refine q_iload_n (pc := 790) dL_law_790 rfl ?_
                                                refine q_iconst (pc := 791) (v := nI 1) dL_law_791 (by decide) ?_
                                                refine q_iadd (pc := 792) dL_law_792 ?_
                                                obtain ⟨v359, h360, h⟩ := Option.bind_eq_some_iff.mp h
                                                refine q_scld2 hxs hxl (pc := 793) dL_law_793 h360 ?_
                                                refine q_aload_n (pc := 794) dL_law_794 rfl ?_
                                                refine q_iload_n (pc := 795) dL_law_795 rfl ?_
                                                refine q_iconst (pc := 796) (v := nI 2) dL_law_796 (by decide) ?_
                                                refine q_iadd (pc := 797) dL_law_797 ?_
                                                obtain ⟨v361, h362, h⟩ := Option.bind_eq_some_iff.mp h
                                                refine q_scld2 hxs hxl (pc := 798) dL_law_798 h362 ?_
                                                obtain ⟨r365, h364, h⟩ := Option.bind_eq_some_iff.mp h
                                                refine q_callv (pc := 799) (st := [.int r358]) (a_X12_dry h364) okX12_dry rfl dL_law_799 lk_L_101 sh_25 cl_11 rfl (by decide) (by decide) (Nat.le_of_ble_eq_true rfl) ⟨Nat.le_of_ble_eq_true rfl, Nat.le_of_ble_eq_true rfl⟩ rfl ?_
                                                show QW G room_1 YL_law 38 8462 802 [some (.ref 4096), some (.ref 0), some (.ref 25), some (.int c3)] [.int r365, .int r358] SH M J _
                                                by_cases k366 : r358 = r365
                                                · rw [if_pos k366] at h
                                                  refine q_icmp_eq_t (pc := 802) (tgt := 1014) dL_law_802 (by decide) k366 ?_
                                                  refine q_iincW (pc := 1014) (w := nI 4) (ls' := [some (.ref 4096), some (.ref 0), some (.ref 25), some (.int (c3 + nI 4))]) dL_law_1014 rfl (by decide) (by decide) rfl rfl ?_
                                                  refine q_goto (pc := 1017) (tgt := 18) dL_law_1017 (by decide) ?_
                                                  exact l_L_law_L18 hxs hxl n (c3 + nI 4) M J res h hk hr
                                                · rw [if_neg k366] at h
                                                  refine q_icmp_eq_f (pc := 802) (tgt := 1014) dL_law_802 (by decide) k366 ?_
                                                  refine q_iconst (pc := 805) (v := nI 0) dL_law_805 (by decide) ?_
                                                  obtain rfl := Option.some.inj h
                                                  exact q_iret (pc := 806) dL_law_806 rfl rfl (hr (false, M, J) rfl)
                                              · rw [if_neg k351] at h
                                                by_cases k367 : (v2 &&& (nI 31)) = nI 21
                                                · rw [if_pos k367] at h
                                                  refine q_tabIn (pc := 32) (tgt := 807) (off := 775) (j := 21) dL_law_32 (by rw [k367]; rfl) (by decide) (by decide) rfl (by decide) ?_
                                                  refine q_aload_n (pc := 807) dL_law_807 rfl ?_
                                                  refine q_aload_n (pc := 808) dL_law_808 rfl ?_
                                                  refine q_iload_n (pc := 809) dL_law_809 rfl ?_
                                                  refine q_iconst (pc := 810) (v := nI 1) dL_law_810 (by decide) ?_
                                                  refine q_iadd (pc := 811) dL_law_811 ?_
                                                  obtain ⟨v368, h369, h⟩ := Option.bind_eq_some_iff.mp h
                                                  refine q_scld2 hxs hxl (pc := 812) dL_law_812 h369 ?_
                                                  refine q_aload_n (pc := 813) dL_law_813 rfl ?_
                                                  refine q_iload_n (pc := 814) dL_law_814 rfl ?_
                                                  refine q_iconst (pc := 815) (v := nI 2) dL_law_815 (by decide) ?_
                                                  refine q_iadd (pc := 816) dL_law_816 ?_
                                                  obtain ⟨v370, h371, h⟩ := Option.bind_eq_some_iff.mp h
                                                  refine q_scld2 hxs hxl (pc := 817) dL_law_817 h371 ?_
                                                  refine q_aload_n (pc := 818) dL_law_818 rfl ?_
                                                  refine q_iload_n (pc := 819) dL_law_819 rfl ?_
                                                  refine q_iconst (pc := 820) (v := nI 3) dL_law_820 (by decide) ?_
                                                  refine q_iadd (pc := 821) dL_law_821 ?_
                                                  obtain ⟨v372, h373, h⟩ := Option.bind_eq_some_iff.mp h
                                                  refine q_scld2 hxs hxl (pc := 822) dL_law_822 h373 ?_
                                                  obtain ⟨⟨r376, M377⟩, h375, h⟩ := Option.bind_eq_some_iff.mp h
                                                  try dsimp only at h
                                                  refine q_callv (pc := 823) (st := []) (a_X11_say h375) okX11_say rfl dL_law_823 lk_L_102 sh_0 cl_10 rfl (by decide) (by decide) (Nat.le_of_ble_eq_true rfl) ⟨Nat.le_of_ble_eq_true rfl, Nat.le_of_ble_eq_true rfl⟩ rfl ?_
                                                  show QW G room_1 YL_law 38 8462 826 [some (.ref 4096), some (.ref 0), some (.ref 25), some (.int c3)] [.int r376] SH M377 J _
                                                  refine q_aload_n (pc := 826) dL_law_826 rfl ?_
                                                  refine q_aload_n (pc := 827) dL_law_827 rfl ?_
                                                  refine q_iload_n (pc := 828) dL_law_828 rfl ?_
                                                  refine q_iconst (pc := 829) (v := nI 1) dL_law_829 (by decide) ?_
                                                  refine q_iadd (pc := 830) dL_law_830 ?_
                                                  obtain ⟨v378, h379, h⟩ := Option.bind_eq_some_iff.mp h
                                                  refine q_scld2 hxs hxl (pc := 831) dL_law_831 h379 ?_
                                                  refine q_aload_n (pc := 832) dL_law_832 rfl ?_
                                                  refine q_iload_n (pc := 833) dL_law_833 rfl ?_
                                                  refine q_iconst (pc := 834) (v := nI 2) dL_law_834 (by decide) ?_
                                                  refine q_iadd (pc := 835) dL_law_835 ?_
                                                  obtain ⟨v380, h381, h⟩ := Option.bind_eq_some_iff.mp h
                                                  refine q_scld2 hxs hxl (pc := 836) dL_law_836 h381 ?_
                                                  refine q_aload_n (pc := 837) dL_law_837 rfl ?_
                                                  refine q_iload_n (pc := 838) dL_law_838 rfl ?_
                                                  refine q_iconst (pc := 839) (v := nI 3) dL_law_839 (by decide) ?_
                                                  refine q_iadd (pc := 840) dL_law_840 ?_
                                                  obtain ⟨v382, h383, h⟩ := Option.bind_eq_some_iff.mp h
                                                  refine q_scld2 hxs hxl (pc := 841) dL_law_841 h383 ?_
                                                  obtain ⟨⟨r386, M387⟩, h385, h⟩ := Option.bind_eq_some_iff.mp h
                                                  try dsimp only at h
                                                  refine q_callv (pc := 842) (st := [.int r376]) (a_X12_say h385) okX12_say rfl dL_law_842 lk_L_105 sh_25 cl_11 rfl (by decide) (by decide) (Nat.le_of_ble_eq_true rfl) ⟨Nat.le_of_ble_eq_true rfl, Nat.le_of_ble_eq_true rfl⟩ rfl ?_
                                                  show QW G room_1 YL_law 38 8462 845 [some (.ref 4096), some (.ref 0), some (.ref 25), some (.int c3)] [.int r386, .int r376] SH M387 J _
                                                  by_cases k388 : r376 = r386
                                                  · rw [if_pos k388] at h
                                                    refine q_icmp_eq_t (pc := 845) (tgt := 1014) dL_law_845 (by decide) k388 ?_
                                                    refine q_iincW (pc := 1014) (w := nI 4) (ls' := [some (.ref 4096), some (.ref 0), some (.ref 25), some (.int (c3 + nI 4))]) dL_law_1014 rfl (by decide) (by decide) rfl rfl ?_
                                                    refine q_goto (pc := 1017) (tgt := 18) dL_law_1017 (by decide) ?_
                                                    exact l_L_law_L18 hxs hxl n (c3 + nI 4) M387 J res h hk hr
                                                  · rw [if_neg k388] at h
                                                    refine q_icmp_eq_f (pc := 845) (tgt := 1014) dL_law_845 (by decide) k388 ?_
                                                    refine q_iconst (pc := 848) (v := nI 0) dL_law_848 (by decide) ?_
                                                    obtain rfl := Option.some.inj h
                                                    exact q_iret (pc := 849) dL_law_849 rfl rfl (hr (false, M387, J) rfl)
                                                · rw [if_neg k367] at h
                                                  by_cases k389 : (v2 &&& (nI 31)) = nI 22
                                                  · rw [if_pos k389] at h
                                                    refine q_tabIn (pc := 32) (tgt := 850) (off := 818) (j := 22) dL_law_32 (by rw [k389]; rfl) (by decide) (by decide) rfl (by decide) ?_
                                                    refine q_aload_n (pc := 850) dL_law_850 rfl ?_
                                                    refine q_aload_n (pc := 851) dL_law_851 rfl ?_
                                                    refine q_iload_n (pc := 852) dL_law_852 rfl ?_
                                                    refine q_iconst (pc := 853) (v := nI 1) dL_law_853 (by decide) ?_
                                                    refine q_iadd (pc := 854) dL_law_854 ?_
                                                    obtain ⟨v390, h391, h⟩ := Option.bind_eq_some_iff.mp h
                                                    refine q_scld2 hxs hxl (pc := 855) dL_law_855 h391 ?_
                                                    obtain ⟨r394, h393, h⟩ := Option.bind_eq_some_iff.mp h
                                                    refine q_callv (pc := 856) (st := []) (a_X11_weights h393) okX11_weights rfl dL_law_856 lk_L_106 sh_0 cl_10 rfl (by decide) (by decide) (Nat.le_of_ble_eq_true rfl) ⟨Nat.le_of_ble_eq_true rfl, Nat.le_of_ble_eq_true rfl⟩ rfl ?_
                                                    show QW G room_1 YL_law 38 8462 859 [some (.ref 4096), some (.ref 0), some (.ref 25), some (.int c3)] [.int r394] SH M J _
                                                    refine q_aload_n (pc := 859) dL_law_859 rfl ?_
                                                    refine q_aload_n (pc := 860) dL_law_860 rfl ?_
                                                    refine q_iload_n (pc := 861) dL_law_861 rfl ?_
                                                    refine q_iconst (pc := 862) (v := nI 1) dL_law_862 (by decide) ?_
                                                    refine q_iadd (pc := 863) dL_law_863 ?_
                                                    obtain ⟨v395, h396, h⟩ := Option.bind_eq_some_iff.mp h
                                                    refine q_scld2 hxs hxl (pc := 864) dL_law_864 h396 ?_
                                                    obtain ⟨r399, h398, h⟩ := Option.bind_eq_some_iff.mp h
                                                    refine q_callv (pc := 865) (st := [.int r394]) (a_X12_weights h398) okX12_weights rfl dL_law_865 lk_L_109 sh_25 cl_11 rfl (by decide) (by decide) (Nat.le_of_ble_eq_true rfl) ⟨Nat.le_of_ble_eq_true rfl, Nat.le_of_ble_eq_true rfl⟩ rfl ?_
                                                    show QW G room_1 YL_law 38 8462 868 [some (.ref 4096), some (.ref 0), some (.ref 25), some (.int c3)] [.int r399, .int r394] SH M J _
                                                    by_cases k400 : r394 = r399
                                                    · rw [if_pos k400] at h
                                                      refine q_icmp_eq_t (pc := 868) (tgt := 1014) dL_law_868 (by decide) k400 ?_
                                                      refine q_iincW (pc := 1014) (w := nI 4) (ls' := [some (.ref 4096), some (.ref 0), some (.ref 25), some (.int (c3 + nI 4))]) dL_law_1014 rfl (by decide) (by decide) rfl rfl ?_
                                                      refine q_goto (pc := 1017) (tgt := 18) dL_law_1017 (by decide) ?_
                                                      exact l_L_law_L18 hxs hxl n (c3 + nI 4) M J res h hk hr
                                                    · rw [if_neg k400] at h
                                                      refine q_icmp_eq_f (pc := 868) (tgt := 1014) dL_law_868 (by decide) k400 ?_
                                                      refine q_iconst (pc := 871) (v := nI 0) dL_law_871 (by decide) ?_
                                                      obtain rfl := Option.some.inj h
                                                      exact q_iret (pc := 872) dL_law_872 rfl rfl (hr (false, M, J) rfl)
                                                  · rw [if_neg k389] at h
                                                    by_cases k401 : (v2 &&& (nI 31)) = nI 23
                                                    · rw [if_pos k401] at h
                                                      refine q_tabIn (pc := 32) (tgt := 873) (off := 841) (j := 23) dL_law_32 (by rw [k401]; rfl) (by decide) (by decide) rfl (by decide) ?_
                                                      refine q_aload_n (pc := 873) dL_law_873 rfl ?_
                                                      obtain ⟨r404, h403, h⟩ := Option.bind_eq_some_iff.mp h
                                                      refine q_callv (pc := 874) (st := []) (a_X11_ask h403) okX11_ask rfl dL_law_874 lk_L_110 sh_0 cl_10 rfl (by decide) (by decide) (Nat.le_of_ble_eq_true rfl) ⟨Nat.le_of_ble_eq_true rfl, Nat.le_of_ble_eq_true rfl⟩ rfl ?_
                                                      show QW G room_1 YL_law 38 8462 877 [some (.ref 4096), some (.ref 0), some (.ref 25), some (.int c3)] [.int r404] SH M J _
                                                      refine q_aload_n (pc := 877) dL_law_877 rfl ?_
                                                      obtain ⟨r407, h406, h⟩ := Option.bind_eq_some_iff.mp h
                                                      refine q_callv (pc := 878) (st := [.int r404]) (a_X12_ask h406) okX12_ask rfl dL_law_878 lk_L_113 sh_25 cl_11 rfl (by decide) (by decide) (Nat.le_of_ble_eq_true rfl) ⟨Nat.le_of_ble_eq_true rfl, Nat.le_of_ble_eq_true rfl⟩ rfl ?_
                                                      show QW G room_1 YL_law 38 8462 881 [some (.ref 4096), some (.ref 0), some (.ref 25), some (.int c3)] [.int r407, .int r404] SH M J _
                                                      by_cases k408 : r404 = r407
                                                      · rw [if_pos k408] at h
                                                        refine q_icmp_eq_t (pc := 881) (tgt := 1014) dL_law_881 (by decide) k408 ?_
                                                        refine q_iincW (pc := 1014) (w := nI 4) (ls' := [some (.ref 4096), some (.ref 0), some (.ref 25), some (.int (c3 + nI 4))]) dL_law_1014 rfl (by decide) (by decide) rfl rfl ?_
                                                        refine q_goto (pc := 1017) (tgt := 18) dL_law_1017 (by decide) ?_
                                                        exact l_L_law_L18 hxs hxl n (c3 + nI 4) M J res h hk hr
                                                      · rw [if_neg k408] at h
                                                        refine q_icmp_eq_f (pc := 881) (tgt := 1014) dL_law_881 (by decide) k408 ?_
                                                        refine q_iconst (pc := 884) (v := nI 0) dL_law_884 (by decide) ?_
                                                        obtain rfl := Option.some.inj h
                                                        exact q_iret (pc := 885) dL_law_885 rfl rfl (hr (false, M, J) rfl)
                                                    · rw [if_neg k401] at h
                                                      by_cases k409 : (v2 &&& (nI 31)) = nI 24
                                                      · rw [if_pos k409] at h
                                                        refine q_tabIn (pc := 32) (tgt := 886) (off := 854) (j := 24) dL_law_32 (by rw [k409]; rfl) (by decide) (by decide) rfl (by decide) ?_
                                                        refine q_aload_n (pc := 886) dL_law_886 rfl ?_
                                                        refine q_aload_n (pc := 887) dL_law_887 rfl ?_
                                                        refine q_iload_n (pc := 888) dL_law_888 rfl ?_
                                                        refine q_iconst (pc := 889) (v := nI 1) dL_law_889 (by decide) ?_
                                                        refine q_iadd (pc := 890) dL_law_890 ?_
                                                        obtain ⟨v410, h411, h⟩ := Option.bind_eq_some_iff.mp h
                                                        refine q_scld2 hxs hxl (pc := 891) dL_law_891 h411 ?_
                                                        refine q_aload_n (pc := 892) dL_law_892 rfl ?_
                                                        refine q_iload_n (pc := 893) dL_law_893 rfl ?_
                                                        refine q_iconst (pc := 894) (v := nI 2) dL_law_894 (by decide) ?_
                                                        refine q_iadd (pc := 895) dL_law_895 ?_
                                                        obtain ⟨v412, h413, h⟩ := Option.bind_eq_some_iff.mp h
                                                        refine q_scld2 hxs hxl (pc := 896) dL_law_896 h413 ?_
                                                        obtain ⟨⟨r416, M417⟩, h415, h⟩ := Option.bind_eq_some_iff.mp h
                                                        try dsimp only at h
                                                        refine q_callv (pc := 897) (st := []) (a_X11_write h415) okX11_write rfl dL_law_897 lk_L_114 sh_0 cl_10 rfl (by decide) (by decide) (Nat.le_of_ble_eq_true rfl) ⟨Nat.le_of_ble_eq_true rfl, Nat.le_of_ble_eq_true rfl⟩ rfl ?_
                                                        show QW G room_1 YL_law 38 8462 900 [some (.ref 4096), some (.ref 0), some (.ref 25), some (.int c3)] [.int r416] SH M417 J _
                                                        refine q_aload_n (pc := 900) dL_law_900 rfl ?_
                                                        refine q_aload_n (pc := 901) dL_law_901 rfl ?_
                                                        refine q_iload_n (pc := 902) dL_law_902 rfl ?_
                                                        refine q_iconst (pc := 903) (v := nI 1) dL_law_903 (by decide) ?_
                                                        refine q_iadd (pc := 904) dL_law_904 ?_
                                                        obtain ⟨v418, h419, h⟩ := Option.bind_eq_some_iff.mp h
                                                        refine q_scld2 hxs hxl (pc := 905) dL_law_905 h419 ?_
                                                        refine q_aload_n (pc := 906) dL_law_906 rfl ?_
                                                        refine q_iload_n (pc := 907) dL_law_907 rfl ?_
                                                        refine q_iconst (pc := 908) (v := nI 2) dL_law_908 (by decide) ?_
                                                        refine q_iadd (pc := 909) dL_law_909 ?_
                                                        obtain ⟨v420, h421, h⟩ := Option.bind_eq_some_iff.mp h
                                                        refine q_scld2 hxs hxl (pc := 910) dL_law_910 h421 ?_
                                                        obtain ⟨⟨r424, M425⟩, h423, h⟩ := Option.bind_eq_some_iff.mp h
                                                        try dsimp only at h
                                                        refine q_callv (pc := 911) (st := [.int r416]) (a_X12_write h423) okX12_write rfl dL_law_911 lk_L_117 sh_25 cl_11 rfl (by decide) (by decide) (Nat.le_of_ble_eq_true rfl) ⟨Nat.le_of_ble_eq_true rfl, Nat.le_of_ble_eq_true rfl⟩ rfl ?_
                                                        show QW G room_1 YL_law 38 8462 914 [some (.ref 4096), some (.ref 0), some (.ref 25), some (.int c3)] [.int r424, .int r416] SH M425 J _
                                                        by_cases k426 : r416 = r424
                                                        · rw [if_pos k426] at h
                                                          refine q_icmp_eq_t (pc := 914) (tgt := 1014) dL_law_914 (by decide) k426 ?_
                                                          refine q_iincW (pc := 1014) (w := nI 4) (ls' := [some (.ref 4096), some (.ref 0), some (.ref 25), some (.int (c3 + nI 4))]) dL_law_1014 rfl (by decide) (by decide) rfl rfl ?_
                                                          refine q_goto (pc := 1017) (tgt := 18) dL_law_1017 (by decide) ?_
                                                          exact l_L_law_L18 hxs hxl n (c3 + nI 4) M425 J res h hk hr
                                                        · rw [if_neg k426] at h
                                                          refine q_icmp_eq_f (pc := 914) (tgt := 1014) dL_law_914 (by decide) k426 ?_
                                                          refine q_iconst (pc := 917) (v := nI 0) dL_law_917 (by decide) ?_
                                                          obtain rfl := Option.some.inj h
                                                          exact q_iret (pc := 918) dL_law_918 rfl rfl (hr (false, M425, J) rfl)
                                                      · rw [if_neg k409] at h
                                                        by_cases k427 : (v2 &&& (nI 31)) = nI 25
                                                        · rw [if_pos k427] at h
                                                          refine q_tabIn (pc := 32) (tgt := 919) (off := 887) (j := 25) dL_law_32 (by rw [k427]; rfl) (by decide) (by decide) rfl (by decide) ?_
                                                          refine q_aload_n (pc := 919) dL_law_919 rfl ?_
                                                          obtain ⟨⟨r430, M431⟩, h429, h⟩ := Option.bind_eq_some_iff.mp h
                                                          try dsimp only at h
                                                          refine q_callv (pc := 920) (st := []) (a_X11_tear h429) okX11_tear rfl dL_law_920 lk_L_118 sh_0 cl_10 rfl (by decide) (by decide) (Nat.le_of_ble_eq_true rfl) ⟨Nat.le_of_ble_eq_true rfl, Nat.le_of_ble_eq_true rfl⟩ rfl ?_
                                                          show QW G room_1 YL_law 38 8462 923 [some (.ref 4096), some (.ref 0), some (.ref 25), some (.int c3)] [.int r430] SH M431 J _
                                                          refine q_aload_n (pc := 923) dL_law_923 rfl ?_
                                                          obtain ⟨⟨r434, M435⟩, h433, h⟩ := Option.bind_eq_some_iff.mp h
                                                          try dsimp only at h
                                                          refine q_callv (pc := 924) (st := [.int r430]) (a_X12_tear h433) okX12_tear rfl dL_law_924 lk_L_121 sh_25 cl_11 rfl (by decide) (by decide) (Nat.le_of_ble_eq_true rfl) ⟨Nat.le_of_ble_eq_true rfl, Nat.le_of_ble_eq_true rfl⟩ rfl ?_
                                                          show QW G room_1 YL_law 38 8462 927 [some (.ref 4096), some (.ref 0), some (.ref 25), some (.int c3)] [.int r434, .int r430] SH M435 J _
                                                          by_cases k436 : r430 = r434
                                                          · rw [if_pos k436] at h
                                                            refine q_icmp_eq_t (pc := 927) (tgt := 1014) dL_law_927 (by decide) k436 ?_
                                                            refine q_iincW (pc := 1014) (w := nI 4) (ls' := [some (.ref 4096), some (.ref 0), some (.ref 25), some (.int (c3 + nI 4))]) dL_law_1014 rfl (by decide) (by decide) rfl rfl ?_
                                                            refine q_goto (pc := 1017) (tgt := 18) dL_law_1017 (by decide) ?_
                                                            exact l_L_law_L18 hxs hxl n (c3 + nI 4) M435 J res h hk hr
                                                          · rw [if_neg k436] at h
                                                            refine q_icmp_eq_f (pc := 927) (tgt := 1014) dL_law_927 (by decide) k436 ?_
                                                            refine q_iconst (pc := 930) (v := nI 0) dL_law_930 (by decide) ?_
                                                            obtain rfl := Option.some.inj h
                                                            exact q_iret (pc := 931) dL_law_931 rfl rfl (hr (false, M435, J) rfl)
                                                        · rw [if_neg k427] at h
                                                          by_cases k437 : (v2 &&& (nI 31)) = nI 26
                                                          · rw [if_pos k437] at h
                                                            refine q_tabIn (pc := 32) (tgt := 932) (off := 900) (j := 26) dL_law_32 (by rw [k437]; rfl) (by decide) (by decide) rfl (by decide) ?_
                                                            refine q_aload_n (pc := 932) dL_law_932 rfl ?_
                                                            obtain ⟨r440, h439, h⟩ := Option.bind_eq_some_iff.mp h
                                                            refine q_callv (pc := 933) (st := []) (a_X11_judge h439) okX11_judge rfl dL_law_933 lk_L_122 sh_0 cl_10 rfl (by decide) (by decide) (Nat.le_of_ble_eq_true rfl) ⟨Nat.le_of_ble_eq_true rfl, Nat.le_of_ble_eq_true rfl⟩ rfl ?_
                                                            show QW G room_1 YL_law 38 8462 936 [some (.ref 4096), some (.ref 0), some (.ref 25), some (.int c3)] [.int r440] SH M J _
                                                            refine q_aload_n (pc := 936) dL_law_936 rfl ?_
                                                            obtain ⟨r443, h442, h⟩ := Option.bind_eq_some_iff.mp h
                                                            refine q_callv (pc := 937) (st := [.int r440]) (a_X12_judge h442) okX12_judge rfl dL_law_937 lk_L_125 sh_25 cl_11 rfl (by decide) (by decide) (Nat.le_of_ble_eq_true rfl) ⟨Nat.le_of_ble_eq_true rfl, Nat.le_of_ble_eq_true rfl⟩ rfl ?_
                                                            show QW G room_1 YL_law 38 8462 940 [some (.ref 4096), some (.ref 0), some (.ref 25), some (.int c3)] [.int r443, .int r440] SH M J _
                                                            by_cases k444 : r440 = r443
                                                            · rw [if_pos k444] at h
                                                              refine q_icmp_eq_t (pc := 940) (tgt := 1014) dL_law_940 (by decide) k444 ?_
                                                              refine q_iincW (pc := 1014) (w := nI 4) (ls' := [some (.ref 4096), some (.ref 0), some (.ref 25), some (.int (c3 + nI 4))]) dL_law_1014 rfl (by decide) (by decide) rfl rfl ?_
                                                              refine q_goto (pc := 1017) (tgt := 18) dL_law_1017 (by decide) ?_
                                                              exact l_L_law_L18 hxs hxl n (c3 + nI 4) M J res h hk hr
                                                            · rw [if_neg k444] at h
                                                              refine q_icmp_eq_f (pc := 940) (tgt := 1014) dL_law_940 (by decide) k444 ?_
                                                              refine q_iconst (pc := 943) (v := nI 0) dL_law_943 (by decide) ?_
                                                              obtain rfl := Option.some.inj h
                                                              exact q_iret (pc := 944) dL_law_944 rfl rfl (hr (false, M, J) rfl)
                                                          · rw [if_neg k437] at h
                                                            by_cases k445 : (v2 &&& (nI 31)) = nI 27
                                                            · rw [if_pos k445] at h
                                                              refine q_tabIn (pc := 32) (tgt := 945) (off := 913) (j := 27) dL_law_32 (by rw [k445]; rfl) (by decide) (by decide) rfl (by decide) ?_
                                                              refine q_aload_n (pc := 945) dL_law_945 rfl ?_
                                                              refine q_aload_n (pc := 946) dL_law_946 rfl ?_
                                                              refine q_iload_n (pc := 947) dL_law_947 rfl ?_
                                                              refine q_iconst (pc := 948) (v := nI 1) dL_law_948 (by decide) ?_
                                                              refine q_iadd (pc := 949) dL_law_949 ?_
                                                              obtain ⟨v446, h447, h⟩ := Option.bind_eq_some_iff.mp h
                                                              refine q_scld2 hxs hxl (pc := 950) dL_law_950 h447 ?_
                                                              obtain ⟨⟨r450, M451⟩, h449, h⟩ := Option.bind_eq_some_iff.mp h
                                                              try dsimp only at h
                                                              refine q_callv (pc := 951) (st := []) (a_X11_seed h449) okX11_seed rfl dL_law_951 lk_L_126 sh_0 cl_10 rfl (by decide) (by decide) (Nat.le_of_ble_eq_true rfl) ⟨Nat.le_of_ble_eq_true rfl, Nat.le_of_ble_eq_true rfl⟩ rfl ?_
                                                              show QW G room_1 YL_law 38 8462 954 [some (.ref 4096), some (.ref 0), some (.ref 25), some (.int c3)] [.int r450] SH M451 J _
                                                              refine q_aload_n (pc := 954) dL_law_954 rfl ?_
                                                              refine q_aload_n (pc := 955) dL_law_955 rfl ?_
                                                              refine q_iload_n (pc := 956) dL_law_956 rfl ?_
                                                              refine q_iconst (pc := 957) (v := nI 1) dL_law_957 (by decide) ?_
                                                              refine q_iadd (pc := 958) dL_law_958 ?_
                                                              obtain ⟨v452, h453, h⟩ := Option.bind_eq_some_iff.mp h
                                                              refine q_scld2 hxs hxl (pc := 959) dL_law_959 h453 ?_
                                                              obtain ⟨⟨r456, J457⟩, h455, h⟩ := Option.bind_eq_some_iff.mp h
                                                              try dsimp only at h
                                                              refine q_callv (pc := 960) (st := [.int r450]) (a_X12_seed h455) okX12_seed rfl dL_law_960 lk_L_129 sh_25 cl_11 rfl (by decide) (by decide) (Nat.le_of_ble_eq_true rfl) ⟨Nat.le_of_ble_eq_true rfl, Nat.le_of_ble_eq_true rfl⟩ rfl ?_
                                                              show QW G room_1 YL_law 38 8462 963 [some (.ref 4096), some (.ref 0), some (.ref 25), some (.int c3)] [.int r456, .int r450] SH M451 J457 _
                                                              by_cases k458 : r450 = r456
                                                              · rw [if_pos k458] at h
                                                                refine q_icmp_eq_t (pc := 963) (tgt := 1014) dL_law_963 (by decide) k458 ?_
                                                                refine q_iincW (pc := 1014) (w := nI 4) (ls' := [some (.ref 4096), some (.ref 0), some (.ref 25), some (.int (c3 + nI 4))]) dL_law_1014 rfl (by decide) (by decide) rfl rfl ?_
                                                                refine q_goto (pc := 1017) (tgt := 18) dL_law_1017 (by decide) ?_
                                                                exact l_L_law_L18 hxs hxl n (c3 + nI 4) M451 J457 res h hk hr
                                                              · rw [if_neg k458] at h
                                                                refine q_icmp_eq_f (pc := 963) (tgt := 1014) dL_law_963 (by decide) k458 ?_
                                                                refine q_iconst (pc := 966) (v := nI 0) dL_law_966 (by decide) ?_
                                                                obtain rfl := Option.some.inj h
                                                                exact q_iret (pc := 967) dL_law_967 rfl rfl (hr (false, M451, J457) rfl)
                                                            · rw [if_neg k445] at h
                                                              by_cases k459 : (v2 &&& (nI 31)) = nI 28
                                                              · rw [if_pos k459] at h
                                                                refine q_tabIn (pc := 32) (tgt := 968) (off := 936) (j := 28) dL_law_32 (by rw [k459]; rfl) (by decide) (by decide) rfl (by decide) ?_
                                                                refine q_aload_n (pc := 968) dL_law_968 rfl ?_
                                                                refine q_aload_n (pc := 969) dL_law_969 rfl ?_
                                                                refine q_iload_n (pc := 970) dL_law_970 rfl ?_
                                                                refine q_iconst (pc := 971) (v := nI 1) dL_law_971 (by decide) ?_
                                                                refine q_iadd (pc := 972) dL_law_972 ?_
                                                                obtain ⟨v460, h461, h⟩ := Option.bind_eq_some_iff.mp h
                                                                refine q_scld2 hxs hxl (pc := 973) dL_law_973 h461 ?_
                                                                obtain ⟨⟨r464, M465⟩, h463, h⟩ := Option.bind_eq_some_iff.mp h
                                                                try dsimp only at h
                                                                refine q_callv (pc := 974) (st := []) (a_X11_keep h463) okX11_keep rfl dL_law_974 lk_L_130 sh_0 cl_10 rfl (by decide) (by decide) (Nat.le_of_ble_eq_true rfl) ⟨Nat.le_of_ble_eq_true rfl, Nat.le_of_ble_eq_true rfl⟩ rfl ?_
                                                                show QW G room_1 YL_law 38 8462 977 [some (.ref 4096), some (.ref 0), some (.ref 25), some (.int c3)] [.int r464] SH M465 J _
                                                                refine q_aload_n (pc := 977) dL_law_977 rfl ?_
                                                                refine q_aload_n (pc := 978) dL_law_978 rfl ?_
                                                                refine q_iload_n (pc := 979) dL_law_979 rfl ?_
                                                                refine q_iconst (pc := 980) (v := nI 1) dL_law_980 (by decide) ?_
                                                                refine q_iadd (pc := 981) dL_law_981 ?_
                                                                obtain ⟨v466, h467, h⟩ := Option.bind_eq_some_iff.mp h
                                                                refine q_scld2 hxs hxl (pc := 982) dL_law_982 h467 ?_
                                                                obtain ⟨⟨r470, M471⟩, h469, h⟩ := Option.bind_eq_some_iff.mp h
                                                                try dsimp only at h
                                                                refine q_callv (pc := 983) (st := [.int r464]) (a_X12_keep h469) okX12_keep rfl dL_law_983 lk_L_133 sh_25 cl_11 rfl (by decide) (by decide) (Nat.le_of_ble_eq_true rfl) ⟨Nat.le_of_ble_eq_true rfl, Nat.le_of_ble_eq_true rfl⟩ rfl ?_
                                                                show QW G room_1 YL_law 38 8462 986 [some (.ref 4096), some (.ref 0), some (.ref 25), some (.int c3)] [.int r470, .int r464] SH M471 J _
                                                                by_cases k472 : r464 = r470
                                                                · rw [if_pos k472] at h
                                                                  refine q_icmp_eq_t (pc := 986) (tgt := 1014) dL_law_986 (by decide) k472 ?_
                                                                  refine q_iincW (pc := 1014) (w := nI 4) (ls' := [some (.ref 4096), some (.ref 0), some (.ref 25), some (.int (c3 + nI 4))]) dL_law_1014 rfl (by decide) (by decide) rfl rfl ?_
                                                                  refine q_goto (pc := 1017) (tgt := 18) dL_law_1017 (by decide) ?_
                                                                  exact l_L_law_L18 hxs hxl n (c3 + nI 4) M471 J res h hk hr
                                                                · rw [if_neg k472] at h
                                                                  refine q_icmp_eq_f (pc := 986) (tgt := 1014) dL_law_986 (by decide) k472 ?_
                                                                  refine q_iconst (pc := 989) (v := nI 0) dL_law_989 (by decide) ?_
                                                                  obtain rfl := Option.some.inj h
                                                                  exact q_iret (pc := 990) dL_law_990 rfl rfl (hr (false, M471, J) rfl)
                                                              · rw [if_neg k459] at h
                                                                by_cases k473 : (v2 &&& (nI 31)) = nI 29
                                                                · rw [if_pos k473] at h
                                                                  refine q_tabIn (pc := 32) (tgt := 991) (off := 959) (j := 29) dL_law_32 (by rw [k473]; rfl) (by decide) (by decide) rfl (by decide) ?_
                                                                  refine q_aload_n (pc := 991) dL_law_991 rfl ?_
                                                                  refine q_aload_n (pc := 992) dL_law_992 rfl ?_
                                                                  refine q_iload_n (pc := 993) dL_law_993 rfl ?_
                                                                  refine q_iconst (pc := 994) (v := nI 1) dL_law_994 (by decide) ?_
                                                                  refine q_iadd (pc := 995) dL_law_995 ?_
                                                                  obtain ⟨v474, h475, h⟩ := Option.bind_eq_some_iff.mp h
                                                                  refine q_scld2 hxs hxl (pc := 996) dL_law_996 h475 ?_
                                                                  obtain ⟨⟨r478, M479⟩, h477, h⟩ := Option.bind_eq_some_iff.mp h
                                                                  try dsimp only at h
                                                                  refine q_callv (pc := 997) (st := []) (a_X11_goBack h477) okX11_goBack rfl dL_law_997 lk_L_134 sh_0 cl_10 rfl (by decide) (by decide) (Nat.le_of_ble_eq_true rfl) ⟨Nat.le_of_ble_eq_true rfl, Nat.le_of_ble_eq_true rfl⟩ rfl ?_
                                                                  show QW G room_1 YL_law 38 8462 1000 [some (.ref 4096), some (.ref 0), some (.ref 25), some (.int c3)] [.int r478] SH M479 J _
                                                                  refine q_aload_n (pc := 1000) dL_law_1000 rfl ?_
                                                                  refine q_aload_n (pc := 1001) dL_law_1001 rfl ?_
                                                                  refine q_iload_n (pc := 1002) dL_law_1002 rfl ?_
                                                                  refine q_iconst (pc := 1003) (v := nI 1) dL_law_1003 (by decide) ?_
                                                                  refine q_iadd (pc := 1004) dL_law_1004 ?_
                                                                  obtain ⟨v480, h481, h⟩ := Option.bind_eq_some_iff.mp h
                                                                  refine q_scld2 hxs hxl (pc := 1005) dL_law_1005 h481 ?_
                                                                  obtain ⟨⟨r484, M485, J486⟩, h483, h⟩ := Option.bind_eq_some_iff.mp h
                                                                  try dsimp only at h
                                                                  refine q_callv (pc := 1006) (st := [.int r478]) (a_X12_goBack h483) okX12_goBack rfl dL_law_1006 lk_L_137 sh_25 cl_11 rfl (by decide) (by decide) (Nat.le_of_ble_eq_true rfl) ⟨Nat.le_of_ble_eq_true rfl, Nat.le_of_ble_eq_true rfl⟩ rfl ?_
                                                                  show QW G room_1 YL_law 38 8462 1009 [some (.ref 4096), some (.ref 0), some (.ref 25), some (.int c3)] [.int r484, .int r478] SH M485 J486 _
                                                                  by_cases k487 : r478 = r484
                                                                  · rw [if_pos k487] at h
                                                                    refine q_icmp_eq_t (pc := 1009) (tgt := 1014) dL_law_1009 (by decide) k487 ?_
                                                                    refine q_iincW (pc := 1014) (w := nI 4) (ls' := [some (.ref 4096), some (.ref 0), some (.ref 25), some (.int (c3 + nI 4))]) dL_law_1014 rfl (by decide) (by decide) rfl rfl ?_
                                                                    refine q_goto (pc := 1017) (tgt := 18) dL_law_1017 (by decide) ?_
                                                                    exact l_L_law_L18 hxs hxl n (c3 + nI 4) M485 J486 res h hk hr
                                                                  · rw [if_neg k487] at h
                                                                    refine q_icmp_eq_f (pc := 1009) (tgt := 1014) dL_law_1009 (by decide) k487 ?_
                                                                    refine q_iconst (pc := 1012) (v := nI 0) dL_law_1012 (by decide) ?_
                                                                    obtain rfl := Option.some.inj h
                                                                    exact q_iret (pc := 1013) dL_law_1013 rfl rfl (hr (false, M485, J486) rfl)
                                                                · rw [if_neg k473] at h
                                                                  have hsw : (v2 &&& (nI 31)).toInt < (0) ∨ (29) < (v2 &&& (nI 31)).toInt := by
                                                                    have := lv_neT k4 (show (nI 0).toInt = 0 from rfl)
                                                                    have := lv_neT k18 (show (nI 1).toInt = 1 from rfl)
                                                                    have := lv_neT k28 (show (nI 2).toInt = 2 from rfl)
                                                                    have := lv_neT k36 (show (nI 3).toInt = 3 from rfl)
                                                                    have := lv_neT k49 (show (nI 4).toInt = 4 from rfl)
                                                                    have := lv_neT k65 (show (nI 5).toInt = 5 from rfl)
                                                                    have := lv_neT k81 (show (nI 6).toInt = 6 from rfl)
                                                                    have := lv_neT k97 (show (nI 7).toInt = 7 from rfl)
                                                                    have := lv_neT k117 (show (nI 8).toInt = 8 from rfl)
                                                                    have := lv_neT k135 (show (nI 9).toInt = 9 from rfl)
                                                                    have := lv_neT k149 (show (nI 10).toInt = 10 from rfl)
                                                                    have := lv_neT k199 (show (nI 11).toInt = 11 from rfl)
                                                                    have := lv_neT k221 (show (nI 12).toInt = 12 from rfl)
                                                                    have := lv_neT k239 (show (nI 13).toInt = 13 from rfl)
                                                                    have := lv_neT k257 (show (nI 14).toInt = 14 from rfl)
                                                                    have := lv_neT k272 (show (nI 15).toInt = 15 from rfl)
                                                                    have := lv_neT k282 (show (nI 16).toInt = 16 from rfl)
                                                                    have := lv_neT k299 (show (nI 17).toInt = 17 from rfl)
                                                                    have := lv_neT k313 (show (nI 18).toInt = 18 from rfl)
                                                                    have := lv_neT k335 (show (nI 19).toInt = 19 from rfl)
                                                                    have := lv_neT k351 (show (nI 20).toInt = 20 from rfl)
                                                                    have := lv_neT k367 (show (nI 21).toInt = 21 from rfl)
                                                                    have := lv_neT k389 (show (nI 22).toInt = 22 from rfl)
                                                                    have := lv_neT k401 (show (nI 23).toInt = 23 from rfl)
                                                                    have := lv_neT k409 (show (nI 24).toInt = 24 from rfl)
                                                                    have := lv_neT k427 (show (nI 25).toInt = 25 from rfl)
                                                                    have := lv_neT k437 (show (nI 26).toInt = 26 from rfl)
                                                                    have := lv_neT k445 (show (nI 27).toInt = 27 from rfl)
                                                                    have := lv_neT k459 (show (nI 28).toInt = 28 from rfl)
                                                                    have := lv_neT k473 (show (nI 29).toInt = 29 from rfl)
                                                                    omega
                                                                  refine q_tabOut (pc := 32) (tgt := 1014) dL_law_32 hsw (by decide) ?_
                                                                  refine q_iincW (pc := 1014) (w := nI 4) (ls' := [some (.ref 4096), some (.ref 0), some (.ref 25), some (.int (c3 + nI 4))]) dL_law_1014 rfl (by decide) (by decide) rfl rfl ?_
                                                                  refine q_goto (pc := 1017) (tgt := 18) dL_law_1017 (by decide) ?_
                                                                  exact l_L_law_L18 hxs hxl n (c3 + nI 4) M J res h hk hr
