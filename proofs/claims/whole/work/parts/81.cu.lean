/-! copies of rows for a world of the first 67 cells, laid by wip/whole/cop.py -/
def CU (w : xW) : Prop := w.length < xP ∧ ∀ i, i < 67 → ∃ c, w[i]? = some c ∧ cshp i c
theorem CU.setHi {w : xW} {i : Nat} {c : xC} (h : CU w) (hi : 67 ≤ i) : CU (w.set i c) := by
  refine ⟨by rw [List.length_set]; exact h.1, fun j hj => ?_⟩
  obtain ⟨d, h1, h2⟩ := h.2 j hj
  rw [List.getElem?_set, if_neg (by omega)]
  exact ⟨d, h1, h2⟩
theorem CU.set {w : xW} {i : Nat} {c : xC} (h : CU w) (hc : cshp i c) : CU (w.set i c) := by
  refine ⟨by rw [List.length_set]; exact h.1, fun j hj => ?_⟩
  obtain ⟨d, h1, h2⟩ := h.2 j hj
  rw [List.getElem?_set]
  by_cases e : i = j
  · subst e
    rw [if_pos rfl, if_pos (List.getElem?_eq_some_iff.mp h1).1]
    exact ⟨c, rfl, hc⟩
  · rw [if_neg e]
    exact ⟨d, h1, h2⟩
theorem ko_39u {w : xW} (hC : CU w) : isO w 39 12 := by
  obtain ⟨c, h1, h2⟩ := hC.2 39 (by decide)
  obtain ⟨x0, x1, x2, x3, x4, x5, x6, rfl⟩ := h2
  exact ⟨_, h1⟩
theorem kr_39_5u {w : xW} (hC : CU w) : fR w 39 12 5 43 := by
  obtain ⟨c, h1, h2⟩ := hC.2 39 (by decide)
  obtain ⟨x0, x1, x2, x3, x4, x5, x6, rfl⟩ := h2
  exact ⟨_, h1, rfl⟩
theorem kf_39_8u {w : xW} (hC : CU w) : hasF w 39 12 8 := by
  obtain ⟨c, h1, h2⟩ := hC.2 39 (by decide)
  obtain ⟨x0, x1, x2, x3, x4, x5, x6, rfl⟩ := h2
  exact ⟨_, h1, Nat.le_of_ble_eq_true rfl⟩
theorem ks_39_8u {w : xW} {v : Int64} (hC : CU w) : CU (pF w 39 8 (.long v)) := by
  have hC2 := hC
  obtain ⟨c, h1, h2⟩ := hC.2 39 (by decide)
  obtain ⟨x0, x1, x2, x3, x4, x5, x6, rfl⟩ := h2
  rw [pF_of h1]
  exact hC2.set (⟨_, _, _, _, _, _, _, rfl⟩)
theorem kf_39_9u {w : xW} (hC : CU w) : hasF w 39 12 9 := by
  obtain ⟨c, h1, h2⟩ := hC.2 39 (by decide)
  obtain ⟨x0, x1, x2, x3, x4, x5, x6, rfl⟩ := h2
  exact ⟨_, h1, Nat.le_of_ble_eq_true rfl⟩
theorem ks_39_9u {w : xW} {v : Int64} (hC : CU w) : CU (pF w 39 9 (.long v)) := by
  have hC2 := hC
  obtain ⟨c, h1, h2⟩ := hC.2 39 (by decide)
  obtain ⟨x0, x1, x2, x3, x4, x5, x6, rfl⟩ := h2
  rw [pF_of h1]
  exact hC2.set (⟨_, _, _, _, _, _, _, rfl⟩)
theorem CU.putL {w : xW} {a i : Nat} {v : Int64} (hC : CU w) : CU (pL w a i v) := by
  unfold pL
  split
  · rename_i n f h
    by_cases ha : a < 67
    · obtain ⟨c, h1, h2⟩ := hC.2 a ha
      rw [h] at h1
      have e := Option.some.inj h1
      subst e
      exact hC.set (cshp_aL a h2)
    · exact hC.setHi (by omega)
  · exact hC
theorem Z_189_0u {a0 : Nat} {z1 : Int} {z2 : Int} {z4 : Int} {z6 : Int} {w : xW} {r : Option Value × xW} (hC : CU w) (h : ((0 : Int) ≤ 3 * z1 ∧ hasL w a0 (3 * z1).toNat) ∧ ∀ w3, w3 = pL w a0 (3 * z1).toNat (jL z2) → CU w3 → ((0 : Int) ≤ (3 * z1) + 1 ∧ hasL w3 a0 ((3 * z1) + 1).toNat) ∧ ∀ w7, w7 = pL w3 a0 ((3 * z1) + 1).toNat (jL z4) → CU w7 → ((0 : Int) ≤ (3 * z1) + 2 ∧ hasL w7 a0 ((3 * z1) + 2).toNat) ∧ ∀ w11, w11 = pL w7 a0 ((3 * z1) + 2).toNat (jL z6) → CU w11 → r = (none, w11)) : xGo 189 0 [some (.ref a0), some (.int (jI z1)), some (.long (jL z2)), none, some (.long (jL z4)), none, some (.long (jL z6)), none] [] w r := by
  refine g_aloadn (pc' := 1) d_189_0 rfl rfl ?_
  refine g_iconst (pc' := 2) d_189_1 rfl rfl ?_
  refine g_iloadn (pc' := 3) d_189_2 rfl rfl ?_
  refine gz_imul (pc' := 4) d_189_3 rfl ?_
  refine g_lloadn (pc' := 5) d_189_4 rfl rfl ?_
  obtain ⟨hc1, h⟩ := h
  have hs2 := hc1
  have hC4 : CU (pL w a0 (3 * z1).toNat (jL z2)) := hC.putL
  have h := h _ rfl hC4
  refine gz_last (pc' := 6) d_189_5 rfl hs2 ?_
  refine g_aloadn (pc' := 7) d_189_6 rfl rfl ?_
  refine g_iconst (pc' := 8) d_189_7 rfl rfl ?_
  refine g_iloadn (pc' := 9) d_189_8 rfl rfl ?_
  refine gz_imul (pc' := 10) d_189_9 rfl ?_
  refine g_iconst (pc' := 11) d_189_10 rfl rfl ?_
  refine gz_iadd (pc' := 12) d_189_11 rfl ?_
  refine g_lload (pc' := 14) d_189_12 rfl rfl ?_
  obtain ⟨hc5, h⟩ := h
  have hs6 := hc5
  have hC8 : CU (pL (pL w a0 (3 * z1).toNat (jL z2)) a0 ((3 * z1) + 1).toNat (jL z4)) := hC4.putL
  have h := h _ rfl hC8
  refine gz_last (pc' := 15) d_189_14 rfl hs6 ?_
  refine g_aloadn (pc' := 16) d_189_15 rfl rfl ?_
  refine g_iconst (pc' := 17) d_189_16 rfl rfl ?_
  refine g_iloadn (pc' := 18) d_189_17 rfl rfl ?_
  refine gz_imul (pc' := 19) d_189_18 rfl ?_
  refine g_iconst (pc' := 20) d_189_19 rfl rfl ?_
  refine gz_iadd (pc' := 21) d_189_20 rfl ?_
  refine g_lload (pc' := 23) d_189_21 rfl rfl ?_
  obtain ⟨hc9, h⟩ := h
  have hs10 := hc9
  have hC12 : CU (pL (pL (pL w a0 (3 * z1).toNat (jL z2)) a0 ((3 * z1) + 1).toNat (jL z4)) a0 ((3 * z1) + 2).toNat (jL z6)) := hC8.putL
  have h := h _ rfl hC12
  refine gz_last (pc' := 24) d_189_23 rfl hs10 ?_
  exact g_vret d_189_24 rt_189 h
theorem Z_189u {a0 : Nat} {z1 : Int} {z2 : Int} {z4 : Int} {z6 : Int} {w : xW} {r : Option Value × xW} (hC : CU w) (h : ((0 : Int) ≤ 3 * z1 ∧ hasL w a0 (3 * z1).toNat) ∧ ∀ w3, w3 = pL w a0 (3 * z1).toNat (jL z2) → CU w3 → ((0 : Int) ≤ (3 * z1) + 1 ∧ hasL w3 a0 ((3 * z1) + 1).toNat) ∧ ∀ w7, w7 = pL w3 a0 ((3 * z1) + 1).toNat (jL z4) → CU w7 → ((0 : Int) ≤ (3 * z1) + 2 ∧ hasL w7 a0 ((3 * z1) + 2).toNat) ∧ ∀ w11, w11 = pL w7 a0 ((3 * z1) + 2).toNat (jL z6) → CU w11 → r = (none, w11)) : xCall 189 [.ref a0, .int (jI z1), .long (jL z2), .long (jL z4), .long (jL z6)] w r := E_189 (Z_189_0u hC h)
theorem Z_190_0u {a1 : Nat} {z2 : Int} {z3 : Int} {w : xW} {r : Option Value × xW} (hC : CU w) (h : ∀ w2, w2 = pF w 39 8 (.long (jL 0)) → CU w2 → ∀ w5, w5 = pF w2 39 9 (.long (jL 0)) → CU w5 → xGo 190 13 [some (.ref 39), some (.ref a1), some (.int (jI z2)), some (.int (jI z3)), some (.int (jI 0))] [] w5 r) : xGo 190 0 [some (.ref 39), some (.ref a1), some (.int (jI z2)), some (.int (jI z3)), none] [] w r := by
  refine g_aloadn (pc' := 1) d_190_0 rfl rfl ?_
  refine g_lconst (pc' := 2) (v := jL 0) d_190_1 rfl cl_0 ?_
  have hpf1 := (kf_39_8u hC)
  have hC3 : CU (pF w 39 8 (.long (jL 0))) := ks_39_8u hC
  have h := h _ rfl hC3
  refine gz_putf (pc' := 5) d_190_2 rfl st_190_107 ft_12_8 ff_12_8 rfl (Or.inl rfl) hpf1 ?_
  refine g_aloadn (pc' := 6) d_190_5 rfl rfl ?_
  refine g_lconst (pc' := 7) (v := jL 0) d_190_6 rfl cl_0 ?_
  have hpf4 := (kf_39_9u hC3)
  have hC6 : CU (pF (pF w 39 8 (.long (jL 0))) 39 9 (.long (jL 0))) := ks_39_9u hC3
  have h := h _ rfl hC6
  refine gz_putf (pc' := 10) d_190_7 rfl st_190_111 ft_12_9 ff_12_9 rfl (Or.inl rfl) hpf4 ?_
  refine g_iconst (pc' := 11) d_190_10 rfl rfl ?_
  refine g_istore (pc' := 13) (l' := [some (.ref 39), some (.ref a1), some (.int (jI z2)), some (.int (jI z3)), some (.int (jI 0))]) d_190_11 rfl ml_190 rfl rfl ?_
  exact h
theorem Z_190u {a1 : Nat} {z2 : Int} {z3 : Int} {w : xW} {r : Option Value × xW} (hC : CU w) (h : ∀ w2, w2 = pF w 39 8 (.long (jL 0)) → CU w2 → ∀ w5, w5 = pF w2 39 9 (.long (jL 0)) → CU w5 → xGo 190 13 [some (.ref 39), some (.ref a1), some (.int (jI z2)), some (.int (jI z3)), some (.int (jI 0))] [] w5 r) : xCall 190 [.ref 39, .ref a1, .int (jI z2), .int (jI z3)] w r := E_190 (Z_190_0u hC h)
theorem Z_190_13u {a1 : Nat} {z2 : Int} {z3 : Int} {z4 : Int} {w : xW} {r : Option Value × xW} (hC : CU w) (h : in32 z4 ∧ in32 z3 ∧ (z3 < z4 → ∃ x3, fJ w 39 12 8 x3 ∧ ∃ x5, fJ w 39 12 9 x5 ∧ in64 x5 ∧ ∃ y8, Int.tdiv x5 7420738134810 = y8 ∧ ∀ w11, w11 = pF w 39 8 (.long (jL (x3 + y8))) → CU w11 → ∃ x13, fJ w11 39 12 9 x13 ∧ in64 x13 ∧ ∃ y16, Int.tmod x13 7420738134810 = y16 ∧ ∀ w19, w19 = pF w11 39 9 (.long (jL y16)) → CU w19 → r = (none, w19)) ∧ (z4 ≤ z3 → 0 ≤ (40 * z2) + z4 ∧ ∃ x22, rL w 43 ((40 * z2) + z4).toNat x22 ∧ ∃ w24, xCall 191 [.ref 39, .ref a1, .long (jL x22), .int (jI z4)] w (none, w24) ∧ CU w24 ∧ xGo 190 13 [some (.ref 39), some (.ref a1), some (.int (jI z2)), some (.int (jI z3)), some (.int (jI (z4 + 1)))] [] w24 r)) : xGo 190 13 [some (.ref 39), some (.ref a1), some (.int (jI z2)), some (.int (jI z3)), some (.int (jI z4))] [] w r := by
  refine g_iload (pc' := 15) d_190_13 rfl rfl ?_
  refine g_iloadn (pc' := 16) d_190_15 rfl rfl ?_
  obtain ⟨hc1, h⟩ := h
  obtain ⟨hc2, h⟩ := h
  refine gz_ic_gt (pc' := 19) (pt := 44) d_190_16 (by decide) rfl hc1 hc2 (fun c => ?_) (fun c => ?_)
  · replace h := h.1 c
    refine g_aloadn (pc' := 45) d_190_44 rfl rfl ?_
    refine g_dup (pc' := 46) d_190_45 rfl rfl ?_
    obtain ⟨x3, hv4, h⟩ := h
    refine gz_getJ (pc' := 49) d_190_46 rfl st_190_107 hv4 ?_
    refine g_aloadn (pc' := 50) d_190_49 rfl rfl ?_
    obtain ⟨x5, hv6, h⟩ := h
    refine gz_getJ (pc' := 53) d_190_50 rfl st_190_111 hv6 ?_
    refine g_ldc2 (pc' := 56) d_190_53 rfl st_190_125 rfl ?_
    obtain ⟨hc7, h⟩ := h
    obtain ⟨y8, hz9, h⟩ := h
    refine gz_ldiv (pc' := 57) d_190_56 rfl hc7 (s64 (z := 7420738134810)) (by decide) hz9 ?_
    refine gz_ladd (pc' := 58) d_190_57 rfl ?_
    have hpf10 := (kf_39_8u hC)
    have hC12 : CU (pF w 39 8 (.long (jL (x3 + y8)))) := ks_39_8u hC
    have h := h _ rfl hC12
    refine gz_putf (pc' := 61) d_190_58 rfl st_190_107 ft_12_8 ff_12_8 rfl (Or.inl rfl) hpf10 ?_
    refine g_aloadn (pc' := 62) d_190_61 rfl rfl ?_
    refine g_aloadn (pc' := 63) d_190_62 rfl rfl ?_
    obtain ⟨x13, hv14, h⟩ := h
    refine gz_getJ (pc' := 66) d_190_63 rfl st_190_111 hv14 ?_
    refine g_ldc2 (pc' := 69) d_190_66 rfl st_190_125 rfl ?_
    obtain ⟨hc15, h⟩ := h
    obtain ⟨y16, hz17, h⟩ := h
    refine gz_lrem (pc' := 70) d_190_69 rfl hc15 (s64 (z := 7420738134810)) (by decide) hz17 ?_
    have hpf18 := (kf_39_9u hC12)
    have hC20 : CU (pF (pF w 39 8 (.long (jL (x3 + y8)))) 39 9 (.long (jL y16))) := ks_39_9u hC12
    have h := h _ rfl hC20
    refine gz_putf (pc' := 73) d_190_70 rfl st_190_111 ft_12_9 ff_12_9 rfl (Or.inl rfl) hpf18 ?_
    exact g_vret d_190_73 rt_190 h
  · replace h := h.2 c
    refine g_aloadn (pc' := 20) d_190_19 rfl rfl ?_
    refine g_aloadn (pc' := 21) d_190_20 rfl rfl ?_
    refine g_aloadn (pc' := 22) d_190_21 rfl rfl ?_
    refine gz_getR (pc' := 25) d_190_22 rfl st_190_24 (kr_39_5u hC) ?_
    refine g_bipush (pc' := 27) (v := jI 40) d_190_25 rfl (by decide) ?_
    refine g_iloadn (pc' := 28) d_190_27 rfl rfl ?_
    refine gz_imul (pc' := 29) d_190_28 rfl ?_
    refine g_iload (pc' := 31) d_190_29 rfl rfl ?_
    refine gz_iadd (pc' := 32) d_190_31 rfl ?_
    obtain ⟨hc21, h⟩ := h
    obtain ⟨x22, hv23, h⟩ := h
    refine gz_lald (pc' := 33) d_190_32 rfl hc21 hv23 ?_
    refine g_iload (pc' := 35) d_190_33 rfl rfl ?_
    obtain ⟨w24, hk25, hC26, h⟩ := h
    refine gz_callV (pc' := 38) d_190_35 rfl st_190_127 na_191 ml_191 rfl rfl rfl rm_190_191 rfl rfl ow_191 (ko_39u hC) hk25 ?_
    refine gz_iinc (pc' := 41) (l' := [some (.ref 39), some (.ref a1), some (.int (jI z2)), some (.int (jI z3)), some (.int (jI (z4 + 1)))]) d_190_38 rfl rfl ml_190 rfl rfl ?_
    refine g_goto (pt := 13) d_190_41 (by decide) ?_
    exact h
theorem Z_191_0u {a1 : Nat} {z2 : Int} {z4 : Int} {w : xW} {r : Option Value × xW} (hC : CU w) (h : 0 ≤ (3 * z4) + 1 ∧ ∃ x2, rL w a1 ((3 * z4) + 1).toNat x2 ∧ ∃ x4, fJ w 39 12 8 x4 ∧ 0 ≤ 3 * z4 ∧ ∃ x7, rL w a1 (3 * z4).toNat x7 ∧ 0 ≤ (3 * z4) + 2 ∧ ∃ x10, rL w a1 ((3 * z4) + 2).toNat x10 ∧ in64 (z2 * x2) ∧ in64 x10 ∧ x10 ≠ 0 ∧ ∃ y15, Int.tdiv (z2 * x2) x10 = y15 ∧ ∀ w18, w18 = pF w 39 8 (.long (jL (x4 + ((z2 * x7) + y15)))) → CU w18 → ∃ x20, fJ w18 39 12 9 x20 ∧ 0 ≤ (3 * z4) + 2 ∧ ∃ x23, rL w18 a1 ((3 * z4) + 2).toNat x23 ∧ in64 x23 ∧ x23 ≠ 0 ∧ ∃ y27, Int.tmod (z2 * x2) x23 = y27 ∧ 0 ≤ (3 * z4) + 2 ∧ ∃ x30, rL w18 a1 ((3 * z4) + 2).toNat x30 ∧ in64 x30 ∧ x30 ≠ 0 ∧ ∃ y34, Int.tdiv 7420738134810 x30 = y34 ∧ ∀ w37, w37 = pF w18 39 9 (.long (jL (x20 + (y27 * y34)))) → CU w37 → r = (none, w37)) : xGo 191 0 [some (.ref 39), some (.ref a1), some (.long (jL z2)), none, some (.int (jI z4)), none, none] [] w r := by
  refine g_lloadn (pc' := 1) d_191_0 rfl rfl ?_
  refine g_aloadn (pc' := 2) d_191_1 rfl rfl ?_
  refine g_iconst (pc' := 3) d_191_2 rfl rfl ?_
  refine g_iload (pc' := 5) d_191_3 rfl rfl ?_
  refine gz_imul (pc' := 6) d_191_5 rfl ?_
  refine g_iconst (pc' := 7) d_191_6 rfl rfl ?_
  refine gz_iadd (pc' := 8) d_191_7 rfl ?_
  obtain ⟨hc1, h⟩ := h
  obtain ⟨x2, hv3, h⟩ := h
  refine gz_lald (pc' := 9) d_191_8 rfl hc1 hv3 ?_
  refine gz_lmul (pc' := 10) d_191_9 rfl ?_
  refine g_lstore (pc' := 12) (l' := [some (.ref 39), some (.ref a1), some (.long (jL z2)), none, some (.int (jI z4)), some (.long (jL (z2 * x2))), none]) d_191_10 rfl ml_191 rfl rfl ?_
  refine g_aloadn (pc' := 13) d_191_12 rfl rfl ?_
  refine g_dup (pc' := 14) d_191_13 rfl rfl ?_
  obtain ⟨x4, hv5, h⟩ := h
  refine gz_getJ (pc' := 17) d_191_14 rfl st_191_107 hv5 ?_
  refine g_lloadn (pc' := 18) d_191_17 rfl rfl ?_
  refine g_aloadn (pc' := 19) d_191_18 rfl rfl ?_
  refine g_iconst (pc' := 20) d_191_19 rfl rfl ?_
  refine g_iload (pc' := 22) d_191_20 rfl rfl ?_
  refine gz_imul (pc' := 23) d_191_22 rfl ?_
  obtain ⟨hc6, h⟩ := h
  obtain ⟨x7, hv8, h⟩ := h
  refine gz_lald (pc' := 24) d_191_23 rfl hc6 hv8 ?_
  refine gz_lmul (pc' := 25) d_191_24 rfl ?_
  refine g_lload (pc' := 27) d_191_25 rfl rfl ?_
  refine g_aloadn (pc' := 28) d_191_27 rfl rfl ?_
  refine g_iconst (pc' := 29) d_191_28 rfl rfl ?_
  refine g_iload (pc' := 31) d_191_29 rfl rfl ?_
  refine gz_imul (pc' := 32) d_191_31 rfl ?_
  refine g_iconst (pc' := 33) d_191_32 rfl rfl ?_
  refine gz_iadd (pc' := 34) d_191_33 rfl ?_
  obtain ⟨hc9, h⟩ := h
  obtain ⟨x10, hv11, h⟩ := h
  refine gz_lald (pc' := 35) d_191_34 rfl hc9 hv11 ?_
  obtain ⟨hc12, h⟩ := h
  obtain ⟨hc13, h⟩ := h
  obtain ⟨hc14, h⟩ := h
  obtain ⟨y15, hz16, h⟩ := h
  refine gz_ldiv (pc' := 36) d_191_35 rfl hc12 hc13 hc14 hz16 ?_
  refine gz_ladd (pc' := 37) d_191_36 rfl ?_
  refine gz_ladd (pc' := 38) d_191_37 rfl ?_
  have hpf17 := (kf_39_8u hC)
  have hC19 : CU (pF w 39 8 (.long (jL (x4 + ((z2 * x7) + y15))))) := ks_39_8u hC
  have h := h _ rfl hC19
  refine gz_putf (pc' := 41) d_191_38 rfl st_191_107 ft_12_8 ff_12_8 rfl (Or.inl rfl) hpf17 ?_
  refine g_aloadn (pc' := 42) d_191_41 rfl rfl ?_
  refine g_dup (pc' := 43) d_191_42 rfl rfl ?_
  obtain ⟨x20, hv21, h⟩ := h
  refine gz_getJ (pc' := 46) d_191_43 rfl st_191_111 hv21 ?_
  refine g_lload (pc' := 48) d_191_46 rfl rfl ?_
  refine g_aloadn (pc' := 49) d_191_48 rfl rfl ?_
  refine g_iconst (pc' := 50) d_191_49 rfl rfl ?_
  refine g_iload (pc' := 52) d_191_50 rfl rfl ?_
  refine gz_imul (pc' := 53) d_191_52 rfl ?_
  refine g_iconst (pc' := 54) d_191_53 rfl rfl ?_
  refine gz_iadd (pc' := 55) d_191_54 rfl ?_
  obtain ⟨hc22, h⟩ := h
  obtain ⟨x23, hv24, h⟩ := h
  refine gz_lald (pc' := 56) d_191_55 rfl hc22 hv24 ?_
  obtain ⟨hc25, h⟩ := h
  obtain ⟨hc26, h⟩ := h
  obtain ⟨y27, hz28, h⟩ := h
  refine gz_lrem (pc' := 57) d_191_56 rfl hc12 hc25 hc26 hz28 ?_
  refine g_ldc2 (pc' := 60) d_191_57 rfl st_191_125 rfl ?_
  refine g_aloadn (pc' := 61) d_191_60 rfl rfl ?_
  refine g_iconst (pc' := 62) d_191_61 rfl rfl ?_
  refine g_iload (pc' := 64) d_191_62 rfl rfl ?_
  refine gz_imul (pc' := 65) d_191_64 rfl ?_
  refine g_iconst (pc' := 66) d_191_65 rfl rfl ?_
  refine gz_iadd (pc' := 67) d_191_66 rfl ?_
  obtain ⟨hc29, h⟩ := h
  obtain ⟨x30, hv31, h⟩ := h
  refine gz_lald (pc' := 68) d_191_67 rfl hc29 hv31 ?_
  obtain ⟨hc32, h⟩ := h
  obtain ⟨hc33, h⟩ := h
  obtain ⟨y34, hz35, h⟩ := h
  refine gz_ldiv (pc' := 69) d_191_68 rfl (s64 (z := 7420738134810)) hc32 hc33 hz35 ?_
  refine gz_lmul (pc' := 70) d_191_69 rfl ?_
  refine gz_ladd (pc' := 71) d_191_70 rfl ?_
  have hpf36 := (kf_39_9u hC19)
  have hC38 : CU (pF (pF w 39 8 (.long (jL (x4 + ((z2 * x7) + y15))))) 39 9 (.long (jL (x20 + (y27 * y34))))) := ks_39_9u hC19
  have h := h _ rfl hC38
  refine gz_putf (pc' := 74) d_191_71 rfl st_191_111 ft_12_9 ff_12_9 rfl (Or.inl rfl) hpf36 ?_
  exact g_vret d_191_74 rt_191 h
theorem Z_191u {a1 : Nat} {z2 : Int} {z4 : Int} {w : xW} {r : Option Value × xW} (hC : CU w) (h : 0 ≤ (3 * z4) + 1 ∧ ∃ x2, rL w a1 ((3 * z4) + 1).toNat x2 ∧ ∃ x4, fJ w 39 12 8 x4 ∧ 0 ≤ 3 * z4 ∧ ∃ x7, rL w a1 (3 * z4).toNat x7 ∧ 0 ≤ (3 * z4) + 2 ∧ ∃ x10, rL w a1 ((3 * z4) + 2).toNat x10 ∧ in64 (z2 * x2) ∧ in64 x10 ∧ x10 ≠ 0 ∧ ∃ y15, Int.tdiv (z2 * x2) x10 = y15 ∧ ∀ w18, w18 = pF w 39 8 (.long (jL (x4 + ((z2 * x7) + y15)))) → CU w18 → ∃ x20, fJ w18 39 12 9 x20 ∧ 0 ≤ (3 * z4) + 2 ∧ ∃ x23, rL w18 a1 ((3 * z4) + 2).toNat x23 ∧ in64 x23 ∧ x23 ≠ 0 ∧ ∃ y27, Int.tmod (z2 * x2) x23 = y27 ∧ 0 ≤ (3 * z4) + 2 ∧ ∃ x30, rL w18 a1 ((3 * z4) + 2).toNat x30 ∧ in64 x30 ∧ x30 ≠ 0 ∧ ∃ y34, Int.tdiv 7420738134810 x30 = y34 ∧ ∀ w37, w37 = pF w18 39 9 (.long (jL (x20 + (y27 * y34)))) → CU w37 → r = (none, w37)) : xCall 191 [.ref 39, .ref a1, .long (jL z2), .int (jI z4)] w r := E_191 (Z_191_0u hC h)
theorem Z_192_0u {a1 : Nat} {z2 : Int} {z3 : Int} {z5 : Int} {z7 : Int} {w : xW} {r : Option Value × xW} (hC : CU w) (h : ∃ r4 w1, xCall 193 [.long (jL z5), .long (jL 7420738134810)] w (some (.long (jL r4)), w1) ∧ CU w1 ∧ ∃ r8 w5, xCall 193 [.long (jL z5), .long (jL 7420738134810)] w1 (some (.long (jL r8)), w5) ∧ CU w5 ∧ in32 z7 ∧ ∃ r13 w10, xCall 193 [.long (jL (z3 + r4)), .long (jL z7)] w5 (some (.long (jL r13)), w10) ∧ CU w10 ∧ ∃ w14, xCall 194 [.ref 39, .ref a1, .int (jI z2), .long (jL r13), .long (jL ((((z3 + r4) - (r13 * z7)) * 7420738134810) + (z5 - (r8 * 7420738134810)))), .long (jL (7420738134810 * z7))] w10 (none, w14) ∧ CU w14 ∧ r = (none, w14)) : xGo 192 0 [some (.ref 39), some (.ref a1), some (.int (jI z2)), some (.long (jL z3)), none, some (.long (jL z5)), none, some (.int (jI z7)), none, none, none, none, none, none] [] w r := by
  refine g_lloadn (pc' := 1) d_192_0 rfl rfl ?_
  refine g_lload (pc' := 3) d_192_1 rfl rfl ?_
  refine g_ldc2 (pc' := 6) d_192_3 rfl st_192_125 rfl ?_
  obtain ⟨r4, w1, hk2, hC3, h⟩ := h
  refine g_callS (pc' := 9) d_192_6 rfl st_192_131 (Or.inl rfl) na_193 ml_193 rfl rfl rfl rm_192_193 rfl rfl hk2 ?_
  refine gz_ladd (pc' := 10) d_192_9 rfl ?_
  refine g_lstore (pc' := 12) (l' := [some (.ref 39), some (.ref a1), some (.int (jI z2)), some (.long (jL z3)), none, some (.long (jL z5)), none, some (.int (jI z7)), some (.long (jL (z3 + r4))), none, none, none, none, none]) d_192_10 rfl ml_192 rfl rfl ?_
  refine g_lload (pc' := 14) d_192_12 rfl rfl ?_
  refine g_lload (pc' := 16) d_192_14 rfl rfl ?_
  refine g_ldc2 (pc' := 19) d_192_16 rfl st_192_125 rfl ?_
  obtain ⟨r8, w5, hk6, hC7, h⟩ := h
  refine g_callS (pc' := 22) d_192_19 rfl st_192_131 (Or.inl rfl) na_193 ml_193 rfl rfl rfl rm_192_193 rfl rfl hk6 ?_
  refine g_ldc2 (pc' := 25) d_192_22 rfl st_192_125 rfl ?_
  refine gz_lmul (pc' := 26) d_192_25 rfl ?_
  refine gz_lsub (pc' := 27) d_192_26 rfl ?_
  refine g_lstore (pc' := 29) (l' := [some (.ref 39), some (.ref a1), some (.int (jI z2)), some (.long (jL z3)), none, some (.long (jL z5)), none, some (.int (jI z7)), some (.long (jL (z3 + r4))), none, some (.long (jL (z5 - (r8 * 7420738134810)))), none, none, none]) d_192_27 rfl ml_192 rfl rfl ?_
  refine g_lload (pc' := 31) d_192_29 rfl rfl ?_
  refine g_iload (pc' := 33) d_192_31 rfl rfl ?_
  obtain ⟨hc9, h⟩ := h
  refine gz_i2l (pc' := 34) d_192_33 rfl hc9 ?_
  obtain ⟨r13, w10, hk11, hC12, h⟩ := h
  refine g_callS (pc' := 37) d_192_34 rfl st_192_131 (Or.inl rfl) na_193 ml_193 rfl rfl rfl rm_192_193 rfl rfl hk11 ?_
  refine g_lstore (pc' := 39) (l' := [some (.ref 39), some (.ref a1), some (.int (jI z2)), some (.long (jL z3)), none, some (.long (jL z5)), none, some (.int (jI z7)), some (.long (jL (z3 + r4))), none, some (.long (jL (z5 - (r8 * 7420738134810)))), none, some (.long (jL r13)), none]) d_192_37 rfl ml_192 rfl rfl ?_
  refine g_aloadn (pc' := 40) d_192_39 rfl rfl ?_
  refine g_aloadn (pc' := 41) d_192_40 rfl rfl ?_
  refine g_iloadn (pc' := 42) d_192_41 rfl rfl ?_
  refine g_lload (pc' := 44) d_192_42 rfl rfl ?_
  refine g_lload (pc' := 46) d_192_44 rfl rfl ?_
  refine g_lload (pc' := 48) d_192_46 rfl rfl ?_
  refine g_iload (pc' := 50) d_192_48 rfl rfl ?_
  refine gz_i2l (pc' := 51) d_192_50 rfl hc9 ?_
  refine gz_lmul (pc' := 52) d_192_51 rfl ?_
  refine gz_lsub (pc' := 53) d_192_52 rfl ?_
  refine g_ldc2 (pc' := 56) d_192_53 rfl st_192_125 rfl ?_
  refine gz_lmul (pc' := 57) d_192_56 rfl ?_
  refine g_lload (pc' := 59) d_192_57 rfl rfl ?_
  refine gz_ladd (pc' := 60) d_192_59 rfl ?_
  refine g_ldc2 (pc' := 63) d_192_60 rfl st_192_125 rfl ?_
  refine g_iload (pc' := 65) d_192_63 rfl rfl ?_
  refine gz_i2l (pc' := 66) d_192_65 rfl hc9 ?_
  refine gz_lmul (pc' := 67) d_192_66 rfl ?_
  obtain ⟨w14, hk15, hC16, h⟩ := h
  refine gz_callV (pc' := 70) d_192_67 rfl st_192_134 na_194 ml_194 rfl rfl rfl rm_192_194 rfl rfl ow_194 (ko_39u hC12) hk15 ?_
  exact g_vret d_192_70 rt_192 h
theorem Z_192u {a1 : Nat} {z2 : Int} {z3 : Int} {z5 : Int} {z7 : Int} {w : xW} {r : Option Value × xW} (hC : CU w) (h : ∃ r4 w1, xCall 193 [.long (jL z5), .long (jL 7420738134810)] w (some (.long (jL r4)), w1) ∧ CU w1 ∧ ∃ r8 w5, xCall 193 [.long (jL z5), .long (jL 7420738134810)] w1 (some (.long (jL r8)), w5) ∧ CU w5 ∧ in32 z7 ∧ ∃ r13 w10, xCall 193 [.long (jL (z3 + r4)), .long (jL z7)] w5 (some (.long (jL r13)), w10) ∧ CU w10 ∧ ∃ w14, xCall 194 [.ref 39, .ref a1, .int (jI z2), .long (jL r13), .long (jL ((((z3 + r4) - (r13 * z7)) * 7420738134810) + (z5 - (r8 * 7420738134810)))), .long (jL (7420738134810 * z7))] w10 (none, w14) ∧ CU w14 ∧ r = (none, w14)) : xCall 192 [.ref 39, .ref a1, .int (jI z2), .long (jL z3), .long (jL z5), .int (jI z7)] w r := E_192 (Z_192_0u hC h)
theorem Z_193_0u {z0 : Int} {z2 : Int} {w : xW} {r : Option Value × xW} (hC : CU w) (h : in64 z0 ∧ in64 z2 ∧ z2 ≠ 0 ∧ ∃ y4, Int.tdiv z0 z2 = y4 ∧ in64 (y4 * z2) ∧ (y4 * z2 ≤ z0 → r = (some (.long (jL y4)), w)) ∧ (z0 < y4 * z2 → r = (some (.long (jL (y4 - 1))), w))) : xGo 193 0 [some (.long (jL z0)), none, some (.long (jL z2)), none, none, none] [] w r := by
  refine g_lloadn (pc' := 1) d_193_0 rfl rfl ?_
  refine g_lloadn (pc' := 2) d_193_1 rfl rfl ?_
  obtain ⟨hc1, h⟩ := h
  obtain ⟨hc2, h⟩ := h
  obtain ⟨hc3, h⟩ := h
  obtain ⟨y4, hz5, h⟩ := h
  refine gz_ldiv (pc' := 3) d_193_2 rfl hc1 hc2 hc3 hz5 ?_
  refine g_lstore (pc' := 5) (l' := [some (.long (jL z0)), none, some (.long (jL z2)), none, some (.long (jL y4)), none]) d_193_3 rfl ml_193 rfl rfl ?_
  refine g_lload (pc' := 7) d_193_5 rfl rfl ?_
  refine g_lloadn (pc' := 8) d_193_7 rfl rfl ?_
  refine gz_lmul (pc' := 9) d_193_8 rfl ?_
  refine g_lloadn (pc' := 10) d_193_9 rfl rfl ?_
  obtain ⟨hc6, h⟩ := h
  refine gz_lc_le (pc' := 14) (pm := 11) (pt := 21) d_193_10 rfl d_193_11 (by decide) rfl hc6 hc1 (fun c => ?_) (fun c => ?_)
  · replace h := h.1 c
    refine g_lload (pc' := 23) d_193_21 rfl rfl ?_
    exact g_lret d_193_23 rt_193 h
  · replace h := h.2 c
    refine g_lload (pc' := 16) d_193_14 rfl rfl ?_
    refine g_lconst (pc' := 17) (v := jL 1) d_193_16 rfl cl_1 ?_
    refine gz_lsub (pc' := 18) d_193_17 rfl ?_
    refine g_goto (pt := 23) d_193_18 (by decide) ?_
    exact g_lret d_193_23 rt_193 h
theorem Z_193u {z0 : Int} {z2 : Int} {w : xW} {r : Option Value × xW} (hC : CU w) (h : in64 z0 ∧ in64 z2 ∧ z2 ≠ 0 ∧ ∃ y4, Int.tdiv z0 z2 = y4 ∧ in64 (y4 * z2) ∧ (y4 * z2 ≤ z0 → r = (some (.long (jL y4)), w)) ∧ (z0 < y4 * z2 → r = (some (.long (jL (y4 - 1))), w))) : xCall 193 [.long (jL z0), .long (jL z2)] w r := E_193 (Z_193_0u hC h)
theorem Z_194_0u {a1 : Nat} {z2 : Int} {z3 : Int} {z5 : Int} {z7 : Int} {w : xW} {r : Option Value × xW} (hC : CU w) (h : ∃ r4 w1, xCall 195 [.long (jL z5), .long (jL z7)] w (some (.long (jL r4)), w1) ∧ CU w1 ∧ in64 z5 ∧ in64 r4 ∧ r4 ≠ 0 ∧ ∃ y8, Int.tdiv z5 r4 = y8 ∧ in64 z7 ∧ r4 ≠ 0 ∧ ∃ y12, Int.tdiv z7 r4 = y12 ∧ ∃ w14, xCall 189 [.ref a1, .int (jI z2), .long (jL z3), .long (jL y8), .long (jL y12)] w1 (none, w14) ∧ CU w14 ∧ r = (none, w14)) : xGo 194 0 [some (.ref 39), some (.ref a1), some (.int (jI z2)), some (.long (jL z3)), none, some (.long (jL z5)), none, some (.long (jL z7)), none, none, none] [] w r := by
  refine g_lload (pc' := 2) d_194_0 rfl rfl ?_
  refine g_lload (pc' := 4) d_194_2 rfl rfl ?_
  obtain ⟨r4, w1, hk2, hC3, h⟩ := h
  refine g_callS (pc' := 7) d_194_4 rfl st_194_121 (Or.inl rfl) na_195 ml_195 rfl rfl rfl rm_194_195 rfl rfl hk2 ?_
  refine g_lstore (pc' := 9) (l' := [some (.ref 39), some (.ref a1), some (.int (jI z2)), some (.long (jL z3)), none, some (.long (jL z5)), none, some (.long (jL z7)), none, some (.long (jL r4)), none]) d_194_7 rfl ml_194 rfl rfl ?_
  refine g_aloadn (pc' := 10) d_194_9 rfl rfl ?_
  refine g_iloadn (pc' := 11) d_194_10 rfl rfl ?_
  refine g_lloadn (pc' := 12) d_194_11 rfl rfl ?_
  refine g_lload (pc' := 14) d_194_12 rfl rfl ?_
  refine g_lload (pc' := 16) d_194_14 rfl rfl ?_
  obtain ⟨hc5, h⟩ := h
  obtain ⟨hc6, h⟩ := h
  obtain ⟨hc7, h⟩ := h
  obtain ⟨y8, hz9, h⟩ := h
  refine gz_ldiv (pc' := 17) d_194_16 rfl hc5 hc6 hc7 hz9 ?_
  refine g_lload (pc' := 19) d_194_17 rfl rfl ?_
  refine g_lload (pc' := 21) d_194_19 rfl rfl ?_
  obtain ⟨hc10, h⟩ := h
  obtain ⟨hc11, h⟩ := h
  obtain ⟨y12, hz13, h⟩ := h
  refine gz_ldiv (pc' := 22) d_194_21 rfl hc10 hc6 hc11 hz13 ?_
  obtain ⟨w14, hk15, hC16, h⟩ := h
  refine g_callS (pc' := 25) d_194_22 rfl st_194_99 (Or.inl rfl) na_189 ml_189 rfl rfl rfl rm_194_189 rfl rfl hk15 ?_
  exact g_vret d_194_25 rt_194 h
theorem Z_194u {a1 : Nat} {z2 : Int} {z3 : Int} {z5 : Int} {z7 : Int} {w : xW} {r : Option Value × xW} (hC : CU w) (h : ∃ r4 w1, xCall 195 [.long (jL z5), .long (jL z7)] w (some (.long (jL r4)), w1) ∧ CU w1 ∧ in64 z5 ∧ in64 r4 ∧ r4 ≠ 0 ∧ ∃ y8, Int.tdiv z5 r4 = y8 ∧ in64 z7 ∧ r4 ≠ 0 ∧ ∃ y12, Int.tdiv z7 r4 = y12 ∧ ∃ w14, xCall 189 [.ref a1, .int (jI z2), .long (jL z3), .long (jL y8), .long (jL y12)] w1 (none, w14) ∧ CU w14 ∧ r = (none, w14)) : xCall 194 [.ref 39, .ref a1, .int (jI z2), .long (jL z3), .long (jL z5), .long (jL z7)] w r := E_194 (Z_194_0u hC h)
theorem Z_195_0u {z0 : Int} {z2 : Int} {w : xW} {r : Option Value × xW} (hC : CU w) (h : in64 z0 ∧ (0 ≤ z0 → in64 z2 ∧ (0 ≤ z2 → xGo 195 28 [some (.long (jL z0)), none, some (.long (jL z2)), none, some (.long (jL z0)), none, some (.long (jL z2)), none, none, none] [] w r) ∧ (z2 < 0 → xGo 195 28 [some (.long (jL z0)), none, some (.long (jL z2)), none, some (.long (jL z0)), none, some (.long (jL (-z2))), none, none, none] [] w r)) ∧ (z0 < 0 → in64 z2 ∧ (0 ≤ z2 → xGo 195 28 [some (.long (jL z0)), none, some (.long (jL z2)), none, some (.long (jL (-z0))), none, some (.long (jL z2)), none, none, none] [] w r) ∧ (z2 < 0 → xGo 195 28 [some (.long (jL z0)), none, some (.long (jL z2)), none, some (.long (jL (-z0))), none, some (.long (jL (-z2))), none, none, none] [] w r))) : xGo 195 0 [some (.long (jL z0)), none, some (.long (jL z2)), none, none, none, none, none, none, none] [] w r := by
  refine g_lloadn (pc' := 1) d_195_0 rfl rfl ?_
  refine g_lconst (pc' := 2) (v := jL 0) d_195_1 rfl cl_0 ?_
  obtain ⟨hc1, h⟩ := h
  refine gz_lc_ge (pc' := 6) (pm := 3) (pt := 11) d_195_2 rfl d_195_3 (by decide) rfl hc1 (s64 (z := 0)) (fun c => ?_) (fun c => ?_)
  · replace h := h.1 c
    refine g_lloadn (pc' := 12) d_195_11 rfl rfl ?_
    refine g_lstore (pc' := 14) (l' := [some (.long (jL z0)), none, some (.long (jL z2)), none, some (.long (jL z0)), none, none, none, none, none]) d_195_12 rfl ml_195 rfl rfl ?_
    refine g_lloadn (pc' := 15) d_195_14 rfl rfl ?_
    refine g_lconst (pc' := 16) (v := jL 0) d_195_15 rfl cl_0 ?_
    obtain ⟨hc2, h⟩ := h
    refine gz_lc_ge (pc' := 20) (pm := 17) (pt := 25) d_195_16 rfl d_195_17 (by decide) rfl hc2 (s64 (z := 0)) (fun c => ?_) (fun c => ?_)
    · replace h := h.1 c
      refine g_lloadn (pc' := 26) d_195_25 rfl rfl ?_
      refine g_lstore (pc' := 28) (l' := [some (.long (jL z0)), none, some (.long (jL z2)), none, some (.long (jL z0)), none, some (.long (jL z2)), none, none, none]) d_195_26 rfl ml_195 rfl rfl ?_
      exact h
    · replace h := h.2 c
      refine g_lloadn (pc' := 21) d_195_20 rfl rfl ?_
      refine gz_lneg (pc' := 22) d_195_21 rfl ?_
      refine g_goto (pt := 26) d_195_22 (by decide) ?_
      refine g_lstore (pc' := 28) (l' := [some (.long (jL z0)), none, some (.long (jL z2)), none, some (.long (jL z0)), none, some (.long (jL (-z2))), none, none, none]) d_195_26 rfl ml_195 rfl rfl ?_
      exact h
  · replace h := h.2 c
    refine g_lloadn (pc' := 7) d_195_6 rfl rfl ?_
    refine gz_lneg (pc' := 8) d_195_7 rfl ?_
    refine g_goto (pt := 12) d_195_8 (by decide) ?_
    refine g_lstore (pc' := 14) (l' := [some (.long (jL z0)), none, some (.long (jL z2)), none, some (.long (jL (-z0))), none, none, none, none, none]) d_195_12 rfl ml_195 rfl rfl ?_
    refine g_lloadn (pc' := 15) d_195_14 rfl rfl ?_
    refine g_lconst (pc' := 16) (v := jL 0) d_195_15 rfl cl_0 ?_
    obtain ⟨hc3, h⟩ := h
    refine gz_lc_ge (pc' := 20) (pm := 17) (pt := 25) d_195_16 rfl d_195_17 (by decide) rfl hc3 (s64 (z := 0)) (fun c => ?_) (fun c => ?_)
    · replace h := h.1 c
      refine g_lloadn (pc' := 26) d_195_25 rfl rfl ?_
      refine g_lstore (pc' := 28) (l' := [some (.long (jL z0)), none, some (.long (jL z2)), none, some (.long (jL (-z0))), none, some (.long (jL z2)), none, none, none]) d_195_26 rfl ml_195 rfl rfl ?_
      exact h
    · replace h := h.2 c
      refine g_lloadn (pc' := 21) d_195_20 rfl rfl ?_
      refine gz_lneg (pc' := 22) d_195_21 rfl ?_
      refine g_goto (pt := 26) d_195_22 (by decide) ?_
      refine g_lstore (pc' := 28) (l' := [some (.long (jL z0)), none, some (.long (jL z2)), none, some (.long (jL (-z0))), none, some (.long (jL (-z2))), none, none, none]) d_195_26 rfl ml_195 rfl rfl ?_
      exact h
theorem Z_195u {z0 : Int} {z2 : Int} {w : xW} {r : Option Value × xW} (hC : CU w) (h : in64 z0 ∧ (0 ≤ z0 → in64 z2 ∧ (0 ≤ z2 → xGo 195 28 [some (.long (jL z0)), none, some (.long (jL z2)), none, some (.long (jL z0)), none, some (.long (jL z2)), none, none, none] [] w r) ∧ (z2 < 0 → xGo 195 28 [some (.long (jL z0)), none, some (.long (jL z2)), none, some (.long (jL z0)), none, some (.long (jL (-z2))), none, none, none] [] w r)) ∧ (z0 < 0 → in64 z2 ∧ (0 ≤ z2 → xGo 195 28 [some (.long (jL z0)), none, some (.long (jL z2)), none, some (.long (jL (-z0))), none, some (.long (jL z2)), none, none, none] [] w r) ∧ (z2 < 0 → xGo 195 28 [some (.long (jL z0)), none, some (.long (jL z2)), none, some (.long (jL (-z0))), none, some (.long (jL (-z2))), none, none, none] [] w r))) : xCall 195 [.long (jL z0), .long (jL z2)] w r := E_195 (Z_195_0u hC h)
theorem Z_195_28u {z0 : Int} {z2 : Int} {z4 : Int} {z6 : Int} {w : xW} {r : Option Value × xW} (hC : CU w) (h : in64 z6 ∧ (z6 = 0 → r = (some (.long (jL z4)), w)) ∧ (z6 ≠ 0 → in64 z4 ∧ z6 ≠ 0 ∧ ∃ y4, Int.tmod z4 z6 = y4 ∧ xGo 195 28 [some (.long (jL z0)), none, some (.long (jL z2)), none, some (.long (jL z6)), none, some (.long (jL y4)), none, none, none] [] w r)) : xGo 195 28 [some (.long (jL z0)), none, some (.long (jL z2)), none, some (.long (jL z4)), none, some (.long (jL z6)), none, none, none] [] w r := by
  refine g_lload (pc' := 30) d_195_28 rfl rfl ?_
  refine g_lconst (pc' := 31) (v := jL 0) d_195_30 rfl cl_0 ?_
  obtain ⟨hc1, h⟩ := h
  refine gz_lc_eq (pc' := 35) (pm := 32) (pt := 53) d_195_31 rfl d_195_32 (by decide) rfl hc1 (s64 (z := 0)) (fun c => ?_) (fun c => ?_)
  · replace h := h.1 c
    refine g_lload (pc' := 55) d_195_53 rfl rfl ?_
    exact g_lret d_195_55 rt_195 h
  · replace h := h.2 c
    refine g_lload (pc' := 37) d_195_35 rfl rfl ?_
    refine g_lload (pc' := 39) d_195_37 rfl rfl ?_
    obtain ⟨hc2, h⟩ := h
    obtain ⟨hc3, h⟩ := h
    obtain ⟨y4, hz5, h⟩ := h
    refine gz_lrem (pc' := 40) d_195_39 rfl hc2 hc1 hc3 hz5 ?_
    refine g_lstore (pc' := 42) (l' := [some (.long (jL z0)), none, some (.long (jL z2)), none, some (.long (jL z4)), none, some (.long (jL z6)), none, some (.long (jL y4)), none]) d_195_40 rfl ml_195 rfl rfl ?_
    refine g_lload (pc' := 44) d_195_42 rfl rfl ?_
    refine g_lstore (pc' := 46) (l' := [some (.long (jL z0)), none, some (.long (jL z2)), none, some (.long (jL z6)), none, some (.long (jL z6)), none, some (.long (jL y4)), none]) d_195_44 rfl ml_195 rfl rfl ?_
    refine g_lload (pc' := 48) d_195_46 rfl rfl ?_
    refine g_lstore (pc' := 50) (l' := [some (.long (jL z0)), none, some (.long (jL z2)), none, some (.long (jL z6)), none, some (.long (jL y4)), none, some (.long (jL y4)), none]) d_195_48 rfl ml_195 rfl rfl ?_
    refine g_goto (pt := 28) d_195_50 (by decide) ?_
    exact xGo.more (xle_s (xle_n (xle_s (xle_n (xle_s (xle_n (xle_s (xle_n (xle_n (xle_n xle_0)))))))))) h
theorem C_downByu {a b : Int} (ha : in64 a) (hb : in64 b) (h0 : 0 < b) (w : xW) (hC : CU w) : xCall 193 [.long (jL a), .long (jL b)] w (some (.long (jL (a / b))), w) := by
  obtain ⟨ht, ht2⟩ := x_tdiv_le h0 hb ha
  have e := Int.tdiv_eq_ediv (a := a) (b := b)
  have hs : b.sign = 1 := Int.sign_eq_one_of_pos h0
  have de := dm_e a b
  have m0 := Int.emod_nonneg a (show b ≠ 0 by omega)
  have m1 := Int.emod_lt_of_pos a h0
  refine Z_193u hC ⟨ha, hb, by omega, _, rfl, ht2, fun d => ?_, fun d => ?_⟩
  · rw [e] at d ⊢
    split at d
    · rename_i hc
      rw [if_pos hc, Int.add_zero]
    · rename_i hc
      exfalso
      rw [hs, Int.add_mul, Int.one_mul] at d
      have : ¬ a % b = 0 := fun q => hc (Or.inr (Int.dvd_of_emod_eq_zero q))
      omega
  · rw [e] at d ⊢
    split at d
    · rename_i hc
      rw [Int.add_zero] at d
      omega
    · rename_i hc
      rw [if_neg hc, hs]
      congr 4
      omega
theorem C_addsOneu {w : xW} (hC : CU w) {a1 : Nat} (ha : a1 ≠ 39) {A B f k x a b : Int} (hA : fJ w 39 12 8 A) (hB : fJ w 39 12 9 B) (k0 : 0 ≤ k) (r0 : rL w a1 (3 * k).toNat x) (r1 : rL w a1 (3 * k + 1).toNat a) (r2 : rL w a1 (3 * k + 2).toNat b) (f0 : 0 ≤ f) (f1 : f ≤ 2199023255552) (a0 : 0 ≤ a) (a2 : a < b) (b1 : b ≤ 1919190) :
    xCall 191 [.ref 39, .ref a1, .long (jL f), .int (jI k)] w (none, pF (pF w 39 8 (.long (jL (A + (f * x + f * a / b))))) 39 9 (.long (jL (B + f * a % b * (uA / b))))) := by
  have fa : f * a ≤ 2199023255552 * 1919190 := Int.mul_le_mul f1 (by omega) a0 (by omega)
  have fa0 : 0 ≤ f * a := Int.mul_nonneg f0 a0
  have s1 : xsame [39] w (pF w 39 8 (.long (jL (A + (f * x + f * a / b))))) := sm_pF (by decide)
  have ha' : a1 ∉ [39] := by simpa using ha
  refine Z_191u hC ⟨by omega, _, r1, _, hA, by omega, _, r0, by omega, _, r2, s64, s64, by omega, _, tdN fa0, fun w18 e18 _ => ?_⟩
  subst e18
  refine ⟨_, hB.put (by decide), by omega, _, r2.sm s1 ha', s64, by omega, _, tmN fa0, by omega, _, r2.sm s1 ha', s64, by omega, _, tdN (by decide), fun w37 e37 _ => ?_⟩
  rw [e37]
  rfl
theorem L_addsUpu {a1 : Nat} (ha : a1 ≠ 39) {E : eT} {N last : Int} (N0 : 0 ≤ N) (N1 : N ≤ 41) (hl : last ≤ 38) {w0 : xW} (hrow : ∀ k : Nat, (k : Int) ≤ last → rL w0 a1 (3 * k) (E k).1 ∧ rL w0 a1 (3 * k + 1) (E k).2.1 ∧ rL w0 a1 (3 * k + 2) (E k).2.2) (hE : ∀ k : Nat, (k : Int) ≤ last → 0 ≤ (E k).2.1 ∧ (E k).2.1 < (E k).2.2 ∧ (E k).2.2 ≤ 1919190 ∧ (E k).2.2 ∣ uA) (hcb : ∀ k : Nat, (k : Int) ≤ last → rL w0 43 (40 * N.toNat + k) (cb N.toNat k)) :
    ∀ (k i : Nat) (w : xW) (A B : Int), (i : Int) + k = last + 1 → CU w → xsame [39] w0 w → (∀ j z, j ≠ 8 → j ≠ 9 → fI w0 39 12 j z → fI w 39 12 j z) → fJ w 39 12 8 A → fJ w 39 12 9 B → A * uA + B = sT E N.toNat i → 0 ≤ B → B ≤ i * uA →
    ∃ w', xGo 190 13 [some (.ref 39), some (.ref a1), some (.int (jI N)), some (.int (jI last)), some (.int (jI (i : Int)))] [] w (none, w') ∧ CU w' ∧ xsame [39] w0 w' ∧ (∀ j z, j ≠ 8 → j ≠ 9 → fI w0 39 12 j z → fI w' 39 12 j z) ∧ fJ w' 39 12 8 (sT E N.toNat (last + 1).toNat / uA) ∧ fJ w' 39 12 9 (sT E N.toNat (last + 1).toNat % uA) := by
  intro k
  induction k with
  | zero =>
    intro i w A B hi hC hs hF hA hB hT B0 B1
    have ei : (last + 1).toNat = i := by omega
    have hu : uA = 7420738134810 := rfl
    have Bu : B ≤ 39 * uA := by
      have : (i : Int) * uA ≤ 39 * uA := Int.mul_le_mul_of_nonneg_right (by omega) (by decide)
      omega
    rw [hu] at Bu
    have m0 := Int.emod_nonneg B (show uA ≠ 0 by decide)
    have m1 := Int.emod_lt_of_pos B (show 0 < uA by decide)
    have eT : sT E N.toNat i = (A + B / uA) * uA + B % uA := by
      have := dm_e B uA
      rw [Int.add_mul]
      omega
    obtain ⟨d1, d2⟩ := dm_u eT m0 m1
    rw [ei, d1, d2]
    have C1 : CU (pF w 39 8 (.long (jL (A + B / uA)))) := ks_39_8u hC
    refine ⟨pF (pF w 39 8 (.long (jL (A + B / uA)))) 39 9 (.long (jL (B % uA))), Z_190_13u hC ⟨s32, s32, fun _ => ⟨_, hA, _, hB, s64, B / uA, tdN B0, fun w11 e11 _ => ?_⟩, fun q => by omega⟩, ks_39_9u C1, hs.trans ((sm_pF (by decide)).trans (sm_pF (by decide))), fun j z j8 j9 hz => ((hF j z j8 j9 hz).put (by omega)).put (by omega), (kf_39_8u hC).putJ.put (by decide), (kf_39_9u C1).putJ⟩
    subst e11
    refine ⟨_, hB.put (by decide), s64, B % uA, tmN B0, fun w19 e19 _ => ?_⟩
    rw [e19]
  | succ k ih =>
    intro i w A B hi hC hs hF hA hB hT B0 B1
    have hE2 := hE i (by omega)
    have hr := hrow i (by omega)
    have hc := hcb i (by omega)
    have ha' : a1 ∉ [39] := by simpa using ha
    have cbb := cb_41 (n := N.toNat) (k := i) (by omega)
    have one := C_addsOneu hC ha (f := ((cb N.toNat i : Nat) : Int)) (k := (i : Int)) hA hB (by omega) (by rw [show (3 * (i : Int)).toNat = 3 * i by omega]; exact hr.1.sm hs ha') (by rw [show (3 * (i : Int) + 1).toNat = 3 * i + 1 by omega]; exact hr.2.1.sm hs ha') (by rw [show (3 * (i : Int) + 2).toNat = 3 * i + 2 by omega]; exact hr.2.2.sm hs ha') (by omega) (by omega) hE2.1 hE2.2.1 hE2.2.2.1
    have b0 : 0 < (E i).2.2 := by omega
    have eU : uA / (E i).2.2 * (E i).2.2 = uA := Int.ediv_mul_cancel hE2.2.2.2
    have u0 : 0 ≤ uA / (E i).2.2 := Int.ediv_nonneg (by decide) (by omega)
    have r0 := Int.emod_nonneg (((cb N.toNat i : Nat) : Int) * (E i).2.1) (show (E i).2.2 ≠ 0 by omega)
    have r1 := Int.emod_lt_of_pos (((cb N.toNat i : Nat) : Int) * (E i).2.1) b0
    have q1 : ((cb N.toNat i : Nat) : Int) * (E i).2.1 % (E i).2.2 * (uA / (E i).2.2) ≤ (E i).2.2 * (uA / (E i).2.2) := Int.mul_le_mul_of_nonneg_right (by omega) u0
    have q0 : 0 ≤ ((cb N.toNat i : Nat) : Int) * (E i).2.1 % (E i).2.2 * (uA / (E i).2.2) := Int.mul_nonneg r0 u0
    have q2 : (E i).2.2 * (uA / (E i).2.2) = uA := by rw [Int.mul_comm]; exact eU
    have C1 : CU (pF w 39 8 (.long (jL (A + (((cb N.toNat i : Nat) : Int) * (E i).1 + ((cb N.toNat i : Nat) : Int) * (E i).2.1 / (E i).2.2))))) := ks_39_8u hC
    have C2 : CU (pF (pF w 39 8 (.long (jL (A + (((cb N.toNat i : Nat) : Int) * (E i).1 + ((cb N.toNat i : Nat) : Int) * (E i).2.1 / (E i).2.2))))) 39 9 (.long (jL (B + ((cb N.toNat i : Nat) : Int) * (E i).2.1 % (E i).2.2 * (uA / (E i).2.2))))) := ks_39_9u C1
    obtain ⟨w2, g1, g2, g3, g4, g5, g6⟩ := ih (i + 1) _ _ _ (by omega) C2 (hs.trans ((sm_pF (by decide)).trans (sm_pF (by decide)))) (fun j z j8 j9 hz => ((hF j z j8 j9 hz).put (by omega)).put (by omega)) ((kf_39_8u hC).putJ.put (by decide)) ((kf_39_9u C1).putJ) (by
      show _ = sT E N.toNat i + ((cb N.toNat i : Nat) : Int) * tv uA (E i)
      rw [← hT]
      unfold tv
      have e3 : ((cb N.toNat i : Nat) : Int) * (E i).2.1 * (uA / (E i).2.2) = ((cb N.toNat i : Nat) : Int) * (E i).2.1 / (E i).2.2 * uA + ((cb N.toNat i : Nat) : Int) * (E i).2.1 % (E i).2.2 * (uA / (E i).2.2) := by
        have e2 := dm_e (((cb N.toNat i : Nat) : Int) * (E i).2.1) (E i).2.2
        have : (((cb N.toNat i : Nat) : Int) * (E i).2.1 / (E i).2.2 * (E i).2.2 + ((cb N.toNat i : Nat) : Int) * (E i).2.1 % (E i).2.2) * (uA / (E i).2.2) = ((cb N.toNat i : Nat) : Int) * (E i).2.1 / (E i).2.2 * uA + ((cb N.toNat i : Nat) : Int) * (E i).2.1 % (E i).2.2 * (uA / (E i).2.2) := by
          rw [Int.add_mul, Int.mul_assoc, q2]
        rw [← this, ← e2]
      rw [Int.mul_add, ← Int.mul_assoc, ← Int.mul_assoc, e3, Int.add_mul, Int.add_mul]
      omega) (by omega) (by
      rw [Int.natCast_add, Int.add_mul]
      omega)
    refine ⟨w2, Z_190_13u hC ⟨s32, s32, fun q => by omega, fun _ => ⟨by omega, _, by rw [show (40 * N + (i : Int)).toNat = 40 * N.toNat + i by omega]; exact hc.sm hs (by decide), _, one, C2, g1⟩⟩, g2, g3, g4, g5, g6⟩
theorem C_addsUpu {a1 : Nat} (ha : a1 ≠ 39) {E : eT} {N last : Int} (N0 : 0 ≤ N) (N1 : N ≤ 41) (l0 : -1 ≤ last) (hl : last ≤ 38) {w : xW} (hC : CU w) (hrow : ∀ k : Nat, (k : Int) ≤ last → rL w a1 (3 * k) (E k).1 ∧ rL w a1 (3 * k + 1) (E k).2.1 ∧ rL w a1 (3 * k + 2) (E k).2.2) (hE : ∀ k : Nat, (k : Int) ≤ last → 0 ≤ (E k).2.1 ∧ (E k).2.1 < (E k).2.2 ∧ (E k).2.2 ≤ 1919190 ∧ (E k).2.2 ∣ uA) (hcb : ∀ k : Nat, (k : Int) ≤ last → rL w 43 (40 * N.toNat + k) (cb N.toNat k)) :
    ∃ w', xCall 190 [.ref 39, .ref a1, .int (jI N), .int (jI last)] w (none, w') ∧ CU w' ∧ xsame [39] w w' ∧ (∀ j z, j ≠ 8 → j ≠ 9 → fI w 39 12 j z → fI w' 39 12 j z) ∧ fJ w' 39 12 8 (sT E N.toNat (last + 1).toNat / uA) ∧ fJ w' 39 12 9 (sT E N.toNat (last + 1).toNat % uA) := by
  have C1 : CU (pF w 39 8 (.long (jL 0))) := ks_39_8u hC
  have C2 : CU (pF (pF w 39 8 (.long (jL 0))) 39 9 (.long (jL 0))) := ks_39_9u C1
  obtain ⟨w2, g1, g2⟩ := L_addsUpu ha N0 N1 hl hrow hE hcb (last + 1).toNat 0 _ 0 0 (by omega) C2 ((sm_pF (by decide)).trans (sm_pF (by decide))) (fun j z j8 j9 hz => (hz.put (by omega)).put (by omega)) ((kf_39_8u hC).putJ.put (by decide)) ((kf_39_9u C1).putJ) (by simp [sT]) (by omega) (by omega)
  refine ⟨w2, Z_190u hC (fun w2' e2 _ w5 e5 _ => ?_), g2⟩
  rw [e5, e2]
  exact g1
theorem L_commonu {w : xW} (hC : CU w) {z0 z2 : Int} : ∀ (n : Nat) (x y : Int), 0 ≤ x → 0 ≤ y → y < n → in64 x → in64 y → xGo 195 28 [some (.long (jL z0)), none, some (.long (jL z2)), none, some (.long (jL x)), none, some (.long (jL y)), none, none, none] [] w (some (.long (jL (Int.gcd x y))), w) := by
  intro n
  induction n with
  | zero => intro x y h0 h1 h2; omega
  | succ n ih =>
    intro x y h0 h1 h2 hx hy
    refine Z_195_28u hC ⟨hy, fun d => ?_, fun d => ⟨hx, d, _, tmN h0, ?_⟩⟩
    · rw [d, Int.gcd_zero_right]
      have : ((x.natAbs : Nat) : Int) = x := Int.natAbs_of_nonneg h0
      rw [this]
    · have m0 := Int.emod_nonneg x d
      have m1 := Int.emod_lt_of_pos x (show 0 < y by omega)
      rw [gcd_step h0 h1]
      exact ih y (x % y) h1 m0 (by omega) hy ⟨by have := hy.1; omega, by have := hy.2; omega⟩
theorem C_commonu {w : xW} (hC : CU w) {a b : Int} (a1 : -9000000000000000000 ≤ a) (a2 : a ≤ 9000000000000000000) (b1 : -9000000000000000000 ≤ b) (b2 : b ≤ 9000000000000000000) : xCall 195 [.long (jL a), .long (jL b)] w (some (.long (jL (Int.gcd a b))), w) := by
  refine Z_195u hC ⟨s64, fun d => ⟨s64, fun e => ?_, fun e => ?_⟩, fun d => ⟨s64, fun e => ?_, fun e => ?_⟩⟩
  · exact L_commonu hC (b.toNat + 1) a b d e (by omega) s64 s64
  · rw [← Int.gcd_neg (a := a) (b := b)]
    exact L_commonu hC ((-b).toNat + 1) a (-b) d (by omega) (by omega) s64 s64
  · rw [← Int.neg_gcd (a := a) (b := b)]
    exact L_commonu hC (b.toNat + 1) (-a) b (by omega) e (by omega) s64 s64
  · rw [← Int.neg_gcd (a := a) (b := b), ← Int.gcd_neg (a := -a) (b := b)]
    exact L_commonu hC ((-b).toNat + 1) (-a) (-b) (by omega) (by omega) (by omega) s64 s64
theorem l3_Cu {w : xW} (hC : CU w) {a n : Nat} {x y z : Int} : CU (l3 w a n x y z) := hC.putL.putL.putL
theorem C_laysu {w : xW} (hC : CU w) {a N : Nat} {n x y z : Int} (h : lenL w a N) (hN : N ≤ 1000000) (n0 : 0 ≤ n) (hn : 3 * n + 2 < N) : xCall 189 [.ref a, .int (jI n), .long (jL x), .long (jL y), .long (jL z)] w (none, l3 w a n.toNat x y z) := by
  refine Z_189u hC ⟨⟨by omega, h.has hN (by omega)⟩, fun w3 e3 _ => ⟨⟨by omega, ?_⟩, fun w7 e7 _ => ⟨⟨by omega, ?_⟩, fun w11 e11 _ => ?_⟩⟩⟩
  · rw [e3]
    exact h.put.has hN (by omega)
  · rw [e7, e3]
    exact h.put.put.has hN (by omega)
  · rw [e11, e7, e3, show (3 * n).toNat = 3 * n.toNat by omega, show (3 * n + 1).toNat = 3 * n.toNat + 1 by omega, show (3 * n + 2).toNat = 3 * n.toNat + 2 by omega]
    rfl
theorem C_laysProperu {w : xW} (hC : CU w) {a1 N : Nat} {n x a b : Int} (h : lenL w a1 N) (hN : N ≤ 1000000) (n0 : 0 ≤ n) (hn : 3 * n + 2 < N) (a0 : -9000000000000000000 ≤ a) (a2 : a ≤ 9000000000000000000) (b0 : 0 < b) (b2 : b ≤ 9000000000000000000) : xCall 194 [.ref 39, .ref a1, .int (jI n), .long (jL x), .long (jL a), .long (jL b)] w (none, l3 w a1 n.toNat x (prA a b) (prB a b)) := by
  have g := pr_g (a := a) b0
  have gd := Int.gcd_dvd_left (a := a) (b := b)
  have gd2 := Int.gcd_dvd_right (a := a) (b := b)
  have gl : ((Int.gcd a b : Nat) : Int) ≤ b := Int.le_of_dvd b0 gd2
  exact Z_194u hC ⟨_, _, C_commonu hC a0 a2 (by omega) b2, hC, s64, s64, by omega, _, Int.tdiv_eq_ediv_of_dvd gd, s64, by omega, _, Int.tdiv_eq_ediv_of_dvd gd2, _, C_laysu hC h hN n0 hn, l3_Cu hC, rfl⟩
