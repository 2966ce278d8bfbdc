/-! copies of rows for a world of the first 39 cells, laid by wip/whole/cop.py -/
def CT (w : xW) : Prop := w.length < xP ∧ ∀ i, i < 39 → ∃ c, w[i]? = some c ∧ cshp i c
theorem CT.setHi {w : xW} {i : Nat} {c : xC} (h : CT w) (hi : 39 ≤ i) : CT (w.set i c) := by
  refine ⟨by rw [List.length_set]; exact h.1, fun j hj => ?_⟩
  obtain ⟨d, h1, h2⟩ := h.2 j hj
  rw [List.getElem?_set, if_neg (by omega)]
  exact ⟨d, h1, h2⟩
theorem CT.set {w : xW} {i : Nat} {c : xC} (h : CT w) (hc : cshp i c) : CT (w.set i c) := by
  refine ⟨by rw [List.length_set]; exact h.1, fun j hj => ?_⟩
  obtain ⟨d, h1, h2⟩ := h.2 j hj
  rw [List.getElem?_set]
  by_cases e : i = j
  · subst e
    rw [if_pos rfl, if_pos (List.getElem?_eq_some_iff.mp h1).1]
    exact ⟨c, rfl, hc⟩
  · rw [if_neg e]
    exact ⟨d, h1, h2⟩
theorem ko_4t {w : xW} (hC : CT w) : isO w 4 3 := by
  obtain ⟨c, h1, h2⟩ := hC.2 4 (by decide)
  obtain ⟨x0, rfl⟩ := h2
  exact ⟨_, h1⟩
theorem kr_4_0t {w : xW} (hC : CT w) : fR w 4 3 0 5 := by
  obtain ⟨c, h1, h2⟩ := hC.2 4 (by decide)
  obtain ⟨x0, rfl⟩ := h2
  exact ⟨_, h1, rfl⟩
theorem kr_4_1t {w : xW} (hC : CT w) : fR w 4 3 1 6 := by
  obtain ⟨c, h1, h2⟩ := hC.2 4 (by decide)
  obtain ⟨x0, rfl⟩ := h2
  exact ⟨_, h1, rfl⟩
theorem kf_4_2t {w : xW} (hC : CT w) : hasF w 4 3 2 := by
  obtain ⟨c, h1, h2⟩ := hC.2 4 (by decide)
  obtain ⟨x0, rfl⟩ := h2
  exact ⟨_, h1, Nat.le_of_ble_eq_true rfl⟩
theorem ks_4_2t {w : xW} {v : Int32} (hC : CT w) : CT (pF w 4 2 (.int v)) := by
  have hC2 := hC
  obtain ⟨c, h1, h2⟩ := hC.2 4 (by decide)
  obtain ⟨x0, rfl⟩ := h2
  rw [pF_of h1]
  exact hC2.set (⟨_, rfl⟩)
theorem kr_7_0t {w : xW} (hC : CT w) : fR w 7 4 0 8 := by
  obtain ⟨c, h1, h2⟩ := hC.2 7 (by decide)
  cases h2
  exact ⟨_, h1, rfl⟩
theorem kr_7_1t {w : xW} (hC : CT w) : fR w 7 4 1 9 := by
  obtain ⟨c, h1, h2⟩ := hC.2 7 (by decide)
  cases h2
  exact ⟨_, h1, rfl⟩
theorem kr_7_2t {w : xW} (hC : CT w) : fR w 7 4 2 10 := by
  obtain ⟨c, h1, h2⟩ := hC.2 7 (by decide)
  cases h2
  exact ⟨_, h1, rfl⟩
theorem kr_12_0t {w : xW} (hC : CT w) : fR w 12 4 0 13 := by
  obtain ⟨c, h1, h2⟩ := hC.2 12 (by decide)
  cases h2
  exact ⟨_, h1, rfl⟩
theorem kr_12_1t {w : xW} (hC : CT w) : fR w 12 4 1 14 := by
  obtain ⟨c, h1, h2⟩ := hC.2 12 (by decide)
  cases h2
  exact ⟨_, h1, rfl⟩
theorem kr_12_2t {w : xW} (hC : CT w) : fR w 12 4 2 15 := by
  obtain ⟨c, h1, h2⟩ := hC.2 12 (by decide)
  cases h2
  exact ⟨_, h1, rfl⟩
theorem kr_17_0t {w : xW} (hC : CT w) : fR w 17 4 0 18 := by
  obtain ⟨c, h1, h2⟩ := hC.2 17 (by decide)
  cases h2
  exact ⟨_, h1, rfl⟩
theorem kr_17_1t {w : xW} (hC : CT w) : fR w 17 4 1 19 := by
  obtain ⟨c, h1, h2⟩ := hC.2 17 (by decide)
  cases h2
  exact ⟨_, h1, rfl⟩
theorem kr_17_2t {w : xW} (hC : CT w) : fR w 17 4 2 20 := by
  obtain ⟨c, h1, h2⟩ := hC.2 17 (by decide)
  cases h2
  exact ⟨_, h1, rfl⟩
theorem ko_36t {w : xW} (hC : CT w) : isO w 36 5 := by
  obtain ⟨c, h1, h2⟩ := hC.2 36 (by decide)
  obtain ⟨x0, x1, x2, rfl⟩ := h2
  exact ⟨_, h1⟩
theorem kr_e_0t {w : xW} {e : Nat} (he : eIs e) (hC : CT w) : fR w e 4 0 (e + 1) := by
  rcases he with rfl | rfl | rfl
  · exact kr_7_0t hC
  · exact kr_12_0t hC
  · exact kr_17_0t hC
theorem kr_e_1t {w : xW} {e : Nat} (he : eIs e) (hC : CT w) : fR w e 4 1 (e + 2) := by
  rcases he with rfl | rfl | rfl
  · exact kr_7_1t hC
  · exact kr_12_1t hC
  · exact kr_17_1t hC
theorem kr_e_2t {w : xW} {e : Nat} (he : eIs e) (hC : CT w) : fR w e 4 2 (e + 3) := by
  rcases he with rfl | rfl | rfl
  · exact kr_7_2t hC
  · exact kr_12_2t hC
  · exact kr_17_2t hC
theorem kl_5t {w : xW} (hC : CT w) : lenL w 5 39 := by
  obtain ⟨c, h1, h2⟩ := hC.2 5 (by decide)
  obtain ⟨x0, rfl⟩ := h2
  exact ⟨_, h1⟩
theorem kh_5t {w : xW} {i : Int} (hC : CT w) (hi : 0 ≤ i ∧ i < 39) : 0 ≤ i ∧ hasL w 5 i.toNat := by
  obtain ⟨f, h1⟩ := kl_5t hC
  exact ⟨hi.1, _, _, h1, by decide, by omega⟩
theorem kl_6t {w : xW} (hC : CT w) : lenL w 6 39 := by
  obtain ⟨c, h1, h2⟩ := hC.2 6 (by decide)
  obtain ⟨x0, rfl⟩ := h2
  exact ⟨_, h1⟩
theorem kh_6t {w : xW} {i : Int} (hC : CT w) (hi : 0 ≤ i ∧ i < 39) : 0 ≤ i ∧ hasL w 6 i.toNat := by
  obtain ⟨f, h1⟩ := kl_6t hC
  exact ⟨hi.1, _, _, h1, by decide, by omega⟩
theorem kl_8t {w : xW} (hC : CT w) : lenL w 8 39 := by
  obtain ⟨c, h1, h2⟩ := hC.2 8 (by decide)
  obtain ⟨x0, rfl⟩ := h2
  exact ⟨_, h1⟩
theorem kh_8t {w : xW} {i : Int} (hC : CT w) (hi : 0 ≤ i ∧ i < 39) : 0 ≤ i ∧ hasL w 8 i.toNat := by
  obtain ⟨f, h1⟩ := kl_8t hC
  exact ⟨hi.1, _, _, h1, by decide, by omega⟩
theorem kl_9t {w : xW} (hC : CT w) : lenL w 9 39 := by
  obtain ⟨c, h1, h2⟩ := hC.2 9 (by decide)
  obtain ⟨x0, rfl⟩ := h2
  exact ⟨_, h1⟩
theorem kh_9t {w : xW} {i : Int} (hC : CT w) (hi : 0 ≤ i ∧ i < 39) : 0 ≤ i ∧ hasL w 9 i.toNat := by
  obtain ⟨f, h1⟩ := kl_9t hC
  exact ⟨hi.1, _, _, h1, by decide, by omega⟩
theorem kl_10t {w : xW} (hC : CT w) : lenL w 10 39 := by
  obtain ⟨c, h1, h2⟩ := hC.2 10 (by decide)
  obtain ⟨x0, rfl⟩ := h2
  exact ⟨_, h1⟩
theorem kh_10t {w : xW} {i : Int} (hC : CT w) (hi : 0 ≤ i ∧ i < 39) : 0 ≤ i ∧ hasL w 10 i.toNat := by
  obtain ⟨f, h1⟩ := kl_10t hC
  exact ⟨hi.1, _, _, h1, by decide, by omega⟩
theorem kl_13t {w : xW} (hC : CT w) : lenL w 13 39 := by
  obtain ⟨c, h1, h2⟩ := hC.2 13 (by decide)
  obtain ⟨x0, rfl⟩ := h2
  exact ⟨_, h1⟩
theorem kh_13t {w : xW} {i : Int} (hC : CT w) (hi : 0 ≤ i ∧ i < 39) : 0 ≤ i ∧ hasL w 13 i.toNat := by
  obtain ⟨f, h1⟩ := kl_13t hC
  exact ⟨hi.1, _, _, h1, by decide, by omega⟩
theorem kl_14t {w : xW} (hC : CT w) : lenL w 14 39 := by
  obtain ⟨c, h1, h2⟩ := hC.2 14 (by decide)
  obtain ⟨x0, rfl⟩ := h2
  exact ⟨_, h1⟩
theorem kh_14t {w : xW} {i : Int} (hC : CT w) (hi : 0 ≤ i ∧ i < 39) : 0 ≤ i ∧ hasL w 14 i.toNat := by
  obtain ⟨f, h1⟩ := kl_14t hC
  exact ⟨hi.1, _, _, h1, by decide, by omega⟩
theorem kl_15t {w : xW} (hC : CT w) : lenL w 15 39 := by
  obtain ⟨c, h1, h2⟩ := hC.2 15 (by decide)
  obtain ⟨x0, rfl⟩ := h2
  exact ⟨_, h1⟩
theorem kh_15t {w : xW} {i : Int} (hC : CT w) (hi : 0 ≤ i ∧ i < 39) : 0 ≤ i ∧ hasL w 15 i.toNat := by
  obtain ⟨f, h1⟩ := kl_15t hC
  exact ⟨hi.1, _, _, h1, by decide, by omega⟩
theorem kl_18t {w : xW} (hC : CT w) : lenL w 18 39 := by
  obtain ⟨c, h1, h2⟩ := hC.2 18 (by decide)
  obtain ⟨x0, rfl⟩ := h2
  exact ⟨_, h1⟩
theorem kh_18t {w : xW} {i : Int} (hC : CT w) (hi : 0 ≤ i ∧ i < 39) : 0 ≤ i ∧ hasL w 18 i.toNat := by
  obtain ⟨f, h1⟩ := kl_18t hC
  exact ⟨hi.1, _, _, h1, by decide, by omega⟩
theorem kl_19t {w : xW} (hC : CT w) : lenL w 19 39 := by
  obtain ⟨c, h1, h2⟩ := hC.2 19 (by decide)
  obtain ⟨x0, rfl⟩ := h2
  exact ⟨_, h1⟩
theorem kh_19t {w : xW} {i : Int} (hC : CT w) (hi : 0 ≤ i ∧ i < 39) : 0 ≤ i ∧ hasL w 19 i.toNat := by
  obtain ⟨f, h1⟩ := kl_19t hC
  exact ⟨hi.1, _, _, h1, by decide, by omega⟩
theorem kl_20t {w : xW} (hC : CT w) : lenL w 20 39 := by
  obtain ⟨c, h1, h2⟩ := hC.2 20 (by decide)
  obtain ⟨x0, rfl⟩ := h2
  exact ⟨_, h1⟩
theorem kh_20t {w : xW} {i : Int} (hC : CT w) (hi : 0 ≤ i ∧ i < 39) : 0 ≤ i ∧ hasL w 20 i.toNat := by
  obtain ⟨f, h1⟩ := kl_20t hC
  exact ⟨hi.1, _, _, h1, by decide, by omega⟩
theorem kh_e_1t {w : xW} {e : Nat} {i : Int} (he : eIs e) (hC : CT w) (hi : 0 ≤ i ∧ i < 39) : 0 ≤ i ∧ hasL w (e + 1) i.toNat := by
  rcases he with rfl | rfl | rfl
  · exact kh_8t hC hi
  · exact kh_13t hC hi
  · exact kh_18t hC hi
theorem kh_e_2t {w : xW} {e : Nat} {i : Int} (he : eIs e) (hC : CT w) (hi : 0 ≤ i ∧ i < 39) : 0 ≤ i ∧ hasL w (e + 2) i.toNat := by
  rcases he with rfl | rfl | rfl
  · exact kh_9t hC hi
  · exact kh_14t hC hi
  · exact kh_19t hC hi
theorem kh_e_3t {w : xW} {e : Nat} {i : Int} (he : eIs e) (hC : CT w) (hi : 0 ≤ i ∧ i < 39) : 0 ≤ i ∧ hasL w (e + 3) i.toNat := by
  rcases he with rfl | rfl | rfl
  · exact kh_10t hC hi
  · exact kh_15t hC hi
  · exact kh_20t hC hi
theorem CT.putL {w : xW} {a i : Nat} {v : Int64} (hC : CT w) : CT (pL w a i v) := by
  unfold pL
  split
  · rename_i n f h
    by_cases ha : a < 39
    · obtain ⟨c, h1, h2⟩ := hC.2 a ha
      rw [h] at h1
      have e := Option.some.inj h1
      subst e
      exact hC.set (cshp_aL a h2)
    · exact hC.setHi (by omega)
  · exact hC
theorem CT.putI {w : xW} {a i : Nat} {v : Int32} (hC : CT w) : CT (pI w a i v) := by
  unfold pI
  split
  · rename_i n f h
    by_cases ha : a < 39
    · obtain ⟨c, h1, h2⟩ := hC.2 a ha
      rw [h] at h1
      have e := Option.some.inj h1
      subst e
      exact hC.set (cshp_aI a h2)
    · exact hC.setHi (by omega)
  · exact hC
theorem Z_12_0t {z1 : Int} {w : xW} {r : Option Value × xW} (hC : CT w) (h : ∃ r4 w1, xCall 13 [.int (jI z1), .int (jI 38)] w (some (.int (jI r4)), w1) ∧ CT w1 ∧ ∀ w6, w6 = pF w1 4 2 (.int (jI r4)) → CT w6 → xGo 12 12 [some (.ref 4), some (.int (jI z1)), some (.int (jI 0))] [] w6 r) : xGo 12 0 [some (.ref 4), some (.int (jI z1)), none] [] w r := by
  refine g_aloadn (pc' := 1) d_12_0 rfl rfl ?_
  refine g_iloadn (pc' := 2) d_12_1 rfl rfl ?_
  refine g_bipush (pc' := 4) (v := jI 38) d_12_2 rfl (by decide) ?_
  obtain ⟨r4, w1, hk2, hC3, h⟩ := h
  refine g_callS (pc' := 7) d_12_4 rfl st_12_18 (Or.inl rfl) na_13 ml_13 rfl rfl rfl rm_12_13 rfl rfl hk2 ?_
  have hpf5 := (kf_4_2t hC3)
  have hC7 : CT (pF w1 4 2 (.int (jI r4))) := ks_4_2t hC3
  have h := h _ rfl hC7
  refine gz_putf (pc' := 10) d_12_7 rfl st_12_24 ft_3_2 ff_3_2 rfl (Or.inl rfl) hpf5 ?_
  refine g_iconst (pc' := 11) d_12_10 rfl rfl ?_
  refine g_istoren (pc' := 12) (l' := [some (.ref 4), some (.int (jI z1)), some (.int (jI 0))]) d_12_11 rfl ml_12 rfl rfl ?_
  exact h
theorem Z_12t {z1 : Int} {w : xW} {r : Option Value × xW} (hC : CT w) (h : ∃ r4 w1, xCall 13 [.int (jI z1), .int (jI 38)] w (some (.int (jI r4)), w1) ∧ CT w1 ∧ ∀ w6, w6 = pF w1 4 2 (.int (jI r4)) → CT w6 → xGo 12 12 [some (.ref 4), some (.int (jI z1)), some (.int (jI 0))] [] w6 r) : xCall 12 [.ref 4, .int (jI z1)] w r := E_12 (Z_12_0t hC h)
theorem Z_12_12t {z1 : Int} {z2 : Int} {w : xW} {r : Option Value × xW} (hC : CT w) (h : ∃ x1, fI w 4 3 2 x1 ∧ in32 z2 ∧ in32 x1 ∧ (x1 < z2 → r = (none, w)) ∧ (z2 ≤ x1 → (z2 ≠ 0 → (0 ≤ z2 ∧ z2 < 39) ∧ ∀ w7, w7 = pL w 5 (z2).toNat (jL 0) → CT w7 → (z2 ≠ 0 → in32 (z2 + 1) ∧ z2 + 1 ≠ 0 ∧ ∃ y11, Int.tdiv 5342931457063200 (z2 + 1) = y11 ∧ ∀ w14, w14 = pL w7 6 (z2).toNat (jL y11) → CT w14 → xGo 12 12 [some (.ref 4), some (.int (jI z1)), some (.int (jI (z2 + 1)))] [] w14 r) ∧ (z2 = 0 → ∀ w17, w17 = pL w7 6 (z2).toNat (jL 0) → CT w17 → xGo 12 12 [some (.ref 4), some (.int (jI z1)), some (.int (jI (z2 + 1)))] [] w17 r)) ∧ (z2 = 0 → (0 ≤ z2 ∧ z2 < 39) ∧ ∀ w21, w21 = pL w 5 (z2).toNat (jL 1) → CT w21 → (z2 ≠ 0 → in32 (z2 + 1) ∧ z2 + 1 ≠ 0 ∧ ∃ y25, Int.tdiv 5342931457063200 (z2 + 1) = y25 ∧ ∀ w28, w28 = pL w21 6 (z2).toNat (jL y25) → CT w28 → xGo 12 12 [some (.ref 4), some (.int (jI z1)), some (.int (jI (z2 + 1)))] [] w28 r) ∧ (z2 = 0 → ∀ w31, w31 = pL w21 6 (z2).toNat (jL 0) → CT w31 → xGo 12 12 [some (.ref 4), some (.int (jI z1)), some (.int (jI (z2 + 1)))] [] w31 r)))) : xGo 12 12 [some (.ref 4), some (.int (jI z1)), some (.int (jI z2))] [] w r := by
  refine g_iloadn (pc' := 13) d_12_12 rfl rfl ?_
  refine g_aloadn (pc' := 14) d_12_13 rfl rfl ?_
  obtain ⟨x1, hv2, h⟩ := h
  refine gz_getI (pc' := 17) d_12_14 rfl st_12_24 hv2 ?_
  obtain ⟨hc3, h⟩ := h
  obtain ⟨hc4, h⟩ := h
  refine gz_ic_gt (pc' := 20) (pt := 63) d_12_17 (by decide) rfl hc3 hc4 (fun c => ?_) (fun c => ?_)
  · replace h := h.1 c
    exact g_vret d_12_63 rt_12 h
  · replace h := h.2 c
    refine g_aloadn (pc' := 21) d_12_20 rfl rfl ?_
    refine gz_getR (pc' := 24) d_12_21 rfl st_12_9 (kr_4_0t hC) ?_
    refine g_iloadn (pc' := 25) d_12_24 rfl rfl ?_
    refine g_iloadn (pc' := 26) d_12_25 rfl rfl ?_
    refine gz_if_ne (pc' := 29) (pt := 33) d_12_26 (by decide) rfl hc3 (fun c => ?_) (fun c => ?_)
    · replace h := h.1 c
      refine g_lconst (pc' := 34) (v := jL 0) d_12_33 rfl cl_0 ?_
      obtain ⟨hc5, h⟩ := h
      have hs6 := (kh_5t hC hc5)
      have hC8 : CT (pL w 5 (z2).toNat (jL 0)) := hC.putL
      have h := h _ rfl hC8
      refine gz_last (pc' := 35) d_12_34 rfl hs6 ?_
      refine g_aloadn (pc' := 36) d_12_35 rfl rfl ?_
      refine gz_getR (pc' := 39) d_12_36 rfl st_12_15 (kr_4_1t hC8) ?_
      refine g_iloadn (pc' := 40) d_12_39 rfl rfl ?_
      refine g_iloadn (pc' := 41) d_12_40 rfl rfl ?_
      refine gz_if_ne (pc' := 44) (pt := 48) d_12_41 (by decide) rfl hc3 (fun c => ?_) (fun c => ?_)
      · replace h := h.1 c
        refine g_ldc2 (pc' := 51) d_12_48 rfl st_12_28 rfl ?_
        refine g_iloadn (pc' := 52) d_12_51 rfl rfl ?_
        refine g_iconst (pc' := 53) d_12_52 rfl rfl ?_
        refine gz_iadd (pc' := 54) d_12_53 rfl ?_
        obtain ⟨hc9, h⟩ := h
        refine gz_i2l (pc' := 55) d_12_54 rfl hc9 ?_
        obtain ⟨hc10, h⟩ := h
        obtain ⟨y11, hz12, h⟩ := h
        refine gz_ldiv (pc' := 56) d_12_55 rfl (s64 (z := 5342931457063200)) (in3264 hc9) hc10 hz12 ?_
        have hs13 := (kh_6t hC8 hc5)
        have hC15 : CT (pL (pL w 5 (z2).toNat (jL 0)) 6 (z2).toNat (jL y11)) := hC8.putL
        have h := h _ rfl hC15
        refine gz_last (pc' := 57) d_12_56 rfl hs13 ?_
        refine gz_iinc (pc' := 60) (l' := [some (.ref 4), some (.int (jI z1)), some (.int (jI (z2 + 1)))]) d_12_57 rfl rfl ml_12 rfl rfl ?_
        refine g_goto (pt := 12) d_12_60 (by decide) ?_
        exact h
      · replace h := h.2 c
        refine g_lconst (pc' := 45) (v := jL 0) d_12_44 rfl cl_0 ?_
        refine g_goto (pt := 56) d_12_45 (by decide) ?_
        have hs16 := (kh_6t hC8 hc5)
        have hC18 : CT (pL (pL w 5 (z2).toNat (jL 0)) 6 (z2).toNat (jL 0)) := hC8.putL
        have h := h _ rfl hC18
        refine gz_last (pc' := 57) d_12_56 rfl hs16 ?_
        refine gz_iinc (pc' := 60) (l' := [some (.ref 4), some (.int (jI z1)), some (.int (jI (z2 + 1)))]) d_12_57 rfl rfl ml_12 rfl rfl ?_
        refine g_goto (pt := 12) d_12_60 (by decide) ?_
        exact h
    · replace h := h.2 c
      refine g_lconst (pc' := 30) (v := jL 1) d_12_29 rfl cl_1 ?_
      refine g_goto (pt := 34) d_12_30 (by decide) ?_
      obtain ⟨hc19, h⟩ := h
      have hs20 := (kh_5t hC hc19)
      have hC22 : CT (pL w 5 (z2).toNat (jL 1)) := hC.putL
      have h := h _ rfl hC22
      refine gz_last (pc' := 35) d_12_34 rfl hs20 ?_
      refine g_aloadn (pc' := 36) d_12_35 rfl rfl ?_
      refine gz_getR (pc' := 39) d_12_36 rfl st_12_15 (kr_4_1t hC22) ?_
      refine g_iloadn (pc' := 40) d_12_39 rfl rfl ?_
      refine g_iloadn (pc' := 41) d_12_40 rfl rfl ?_
      refine gz_if_ne (pc' := 44) (pt := 48) d_12_41 (by decide) rfl hc3 (fun c => ?_) (fun c => ?_)
      · replace h := h.1 c
        refine g_ldc2 (pc' := 51) d_12_48 rfl st_12_28 rfl ?_
        refine g_iloadn (pc' := 52) d_12_51 rfl rfl ?_
        refine g_iconst (pc' := 53) d_12_52 rfl rfl ?_
        refine gz_iadd (pc' := 54) d_12_53 rfl ?_
        obtain ⟨hc23, h⟩ := h
        refine gz_i2l (pc' := 55) d_12_54 rfl hc23 ?_
        obtain ⟨hc24, h⟩ := h
        obtain ⟨y25, hz26, h⟩ := h
        refine gz_ldiv (pc' := 56) d_12_55 rfl (s64 (z := 5342931457063200)) (in3264 hc23) hc24 hz26 ?_
        have hs27 := (kh_6t hC22 hc19)
        have hC29 : CT (pL (pL w 5 (z2).toNat (jL 1)) 6 (z2).toNat (jL y25)) := hC22.putL
        have h := h _ rfl hC29
        refine gz_last (pc' := 57) d_12_56 rfl hs27 ?_
        refine gz_iinc (pc' := 60) (l' := [some (.ref 4), some (.int (jI z1)), some (.int (jI (z2 + 1)))]) d_12_57 rfl rfl ml_12 rfl rfl ?_
        refine g_goto (pt := 12) d_12_60 (by decide) ?_
        exact h
      · replace h := h.2 c
        refine g_lconst (pc' := 45) (v := jL 0) d_12_44 rfl cl_0 ?_
        refine g_goto (pt := 56) d_12_45 (by decide) ?_
        have hs30 := (kh_6t hC22 hc19)
        have hC32 : CT (pL (pL w 5 (z2).toNat (jL 1)) 6 (z2).toNat (jL 0)) := hC22.putL
        have h := h _ rfl hC32
        refine gz_last (pc' := 57) d_12_56 rfl hs30 ?_
        refine gz_iinc (pc' := 60) (l' := [some (.ref 4), some (.int (jI z1)), some (.int (jI (z2 + 1)))]) d_12_57 rfl rfl ml_12 rfl rfl ?_
        refine g_goto (pt := 12) d_12_60 (by decide) ?_
        exact h
theorem Z_15_0t {z1 : Int} {a2 : Nat} {w : xW} {r : Option Value × xW} (hC : CT w) (h : in32 z1 ∧ (z1 < 0 → r = (none, w)) ∧ (0 ≤ z1 → (39 ≤ z1 → r = (none, w)) ∧ (z1 < 39 → 0 ≤ z1 ∧ ∃ x3, rL w 5 (z1).toNat x3 ∧ 0 ≤ z1 ∧ ∃ x6, rL w 6 (z1).toNat x6 ∧ isO w a2 5 ∧ ∃ w9, xCall 16 [.ref a2, .long (jL x3), .long (jL x6), .long (jL 5342931457063200)] w (none, w9) ∧ CT w9 ∧ r = (none, w9)))) : xGo 15 0 [some (.ref 4), some (.int (jI z1)), some (.ref a2)] [] w r := by
  refine g_iloadn (pc' := 1) d_15_0 rfl rfl ?_
  obtain ⟨hc1, h⟩ := h
  refine gz_if_lt (pc' := 4) (pt := 29) d_15_1 (by decide) rfl hc1 (fun c => ?_) (fun c => ?_)
  · replace h := h.1 c
    exact g_vret d_15_29 rt_15 h
  · replace h := h.2 c
    refine g_iloadn (pc' := 5) d_15_4 rfl rfl ?_
    refine g_bipush (pc' := 7) (v := jI 39) d_15_5 rfl (by decide) ?_
    refine gz_ic_ge (pc' := 10) (pt := 29) d_15_7 (by decide) rfl hc1 (s32 (z := 39)) (fun c => ?_) (fun c => ?_)
    · replace h := h.1 c
      exact g_vret d_15_29 rt_15 h
    · replace h := h.2 c
      refine g_aloadn (pc' := 11) d_15_10 rfl rfl ?_
      refine g_aloadn (pc' := 12) d_15_11 rfl rfl ?_
      refine gz_getR (pc' := 15) d_15_12 rfl st_15_9 (kr_4_0t hC) ?_
      refine g_iloadn (pc' := 16) d_15_15 rfl rfl ?_
      obtain ⟨hc2, h⟩ := h
      obtain ⟨x3, hv4, h⟩ := h
      refine gz_lald (pc' := 17) d_15_16 rfl hc2 hv4 ?_
      refine g_aloadn (pc' := 18) d_15_17 rfl rfl ?_
      refine gz_getR (pc' := 21) d_15_18 rfl st_15_15 (kr_4_1t hC) ?_
      refine g_iloadn (pc' := 22) d_15_21 rfl rfl ?_
      obtain ⟨hc5, h⟩ := h
      obtain ⟨x6, hv7, h⟩ := h
      refine gz_lald (pc' := 23) d_15_22 rfl hc5 hv7 ?_
      refine g_ldc2 (pc' := 26) d_15_23 rfl st_15_28 rfl ?_
      obtain ⟨hc8, h⟩ := h
      obtain ⟨w9, hk10, hC11, h⟩ := h
      refine gz_callV (pc' := 29) d_15_26 rfl st_15_37 na_16 ml_16 rfl rfl rfl rm_15_16 rfl rfl ow_16 hc8 hk10 ?_
      exact g_vret d_15_29 rt_15 h
theorem Z_15t {z1 : Int} {a2 : Nat} {w : xW} {r : Option Value × xW} (hC : CT w) (h : in32 z1 ∧ (z1 < 0 → r = (none, w)) ∧ (0 ≤ z1 → (39 ≤ z1 → r = (none, w)) ∧ (z1 < 39 → 0 ≤ z1 ∧ ∃ x3, rL w 5 (z1).toNat x3 ∧ 0 ≤ z1 ∧ ∃ x6, rL w 6 (z1).toNat x6 ∧ isO w a2 5 ∧ ∃ w9, xCall 16 [.ref a2, .long (jL x3), .long (jL x6), .long (jL 5342931457063200)] w (none, w9) ∧ CT w9 ∧ r = (none, w9)))) : xCall 15 [.ref 4, .int (jI z1), .ref a2] w r := E_15 (Z_15_0t hC h)
theorem Z_20_0t {e : Nat} {z1 : Int} {a2 : Nat} {w : xW} {r : Option Value × xW} (hC : CT w) (he : eIs e) (h : ∃ (P4 : Prop) (dP5 : Decidable P4) (w1 : xW), xCall 21 [.int (jI z1)] w (some (.int (bz P4)), w1) ∧ CT w1 ∧ (¬ P4 → r = (none, w1)) ∧ (P4 → ∃ x6, fJ w1 a2 5 0 x6 ∧ (0 ≤ z1 ∧ z1 < 39) ∧ ∀ w10, w10 = pL w1 (e + 1) (z1).toNat (jL x6) → CT w10 → ∃ x12, fJ w10 a2 5 1 x12 ∧ ∀ w15, w15 = pL w10 (e + 2) (z1).toNat (jL x12) → CT w15 → ∃ x17, fJ w15 a2 5 2 x17 ∧ ∀ w20, w20 = pL w15 (e + 3) (z1).toNat (jL x17) → CT w20 → r = (none, w20))) : xGo 20 0 [some (.ref e), some (.int (jI z1)), some (.ref a2)] [] w r := by
  refine g_iloadn (pc' := 1) d_20_0 rfl rfl ?_
  obtain ⟨P4, dP5, w1, hk2, hC3, h⟩ := h
  refine g_callS (pc' := 4) d_20_1 rfl st_20_34 (Or.inl rfl) na_21 ml_21 rfl rfl rfl rm_20_21 rfl rfl hk2 ?_
  refine gz_bt_eq (pc' := 7) (pt := 37) d_20_4 (by decide) rfl (fun c => ?_) (fun c => ?_)
  · replace h := h.1 c
    exact g_vret d_20_37 rt_20 h
  · replace h := h.2 c
    refine g_aloadn (pc' := 8) d_20_7 rfl rfl ?_
    refine gz_getR (pc' := 11) d_20_8 rfl st_20_9 (kr_e_0t he hC3) ?_
    refine g_iloadn (pc' := 12) d_20_11 rfl rfl ?_
    refine g_aloadn (pc' := 13) d_20_12 rfl rfl ?_
    obtain ⟨x6, hv7, h⟩ := h
    refine gz_getJ (pc' := 16) d_20_13 rfl st_20_45 hv7 ?_
    obtain ⟨hc8, h⟩ := h
    have hs9 := (kh_e_1t he hC3 hc8)
    have hC11 : CT (pL w1 (e + 1) (z1).toNat (jL x6)) := hC3.putL
    have h := h _ rfl hC11
    refine gz_last (pc' := 17) d_20_16 rfl hs9 ?_
    refine g_aloadn (pc' := 18) d_20_17 rfl rfl ?_
    refine gz_getR (pc' := 21) d_20_18 rfl st_20_15 (kr_e_1t he hC11) ?_
    refine g_iloadn (pc' := 22) d_20_21 rfl rfl ?_
    refine g_aloadn (pc' := 23) d_20_22 rfl rfl ?_
    obtain ⟨x12, hv13, h⟩ := h
    refine gz_getJ (pc' := 26) d_20_23 rfl st_20_49 hv13 ?_
    have hs14 := (kh_e_2t he hC11 hc8)
    have hC16 : CT (pL (pL w1 (e + 1) (z1).toNat (jL x6)) (e + 2) (z1).toNat (jL x12)) := hC11.putL
    have h := h _ rfl hC16
    refine gz_last (pc' := 27) d_20_26 rfl hs14 ?_
    refine g_aloadn (pc' := 28) d_20_27 rfl rfl ?_
    refine gz_getR (pc' := 31) d_20_28 rfl st_20_18 (kr_e_2t he hC16) ?_
    refine g_iloadn (pc' := 32) d_20_31 rfl rfl ?_
    refine g_aloadn (pc' := 33) d_20_32 rfl rfl ?_
    obtain ⟨x17, hv18, h⟩ := h
    refine gz_getJ (pc' := 36) d_20_33 rfl st_20_52 hv18 ?_
    have hs19 := (kh_e_3t he hC16 hc8)
    have hC21 : CT (pL (pL (pL w1 (e + 1) (z1).toNat (jL x6)) (e + 2) (z1).toNat (jL x12)) (e + 3) (z1).toNat (jL x17)) := hC16.putL
    have h := h _ rfl hC21
    refine gz_last (pc' := 37) d_20_36 rfl hs19 ?_
    exact g_vret d_20_37 rt_20 h
theorem Z_20t {e : Nat} {z1 : Int} {a2 : Nat} {w : xW} {r : Option Value × xW} (hC : CT w) (he : eIs e) (h : ∃ (P4 : Prop) (dP5 : Decidable P4) (w1 : xW), xCall 21 [.int (jI z1)] w (some (.int (bz P4)), w1) ∧ CT w1 ∧ (¬ P4 → r = (none, w1)) ∧ (P4 → ∃ x6, fJ w1 a2 5 0 x6 ∧ (0 ≤ z1 ∧ z1 < 39) ∧ ∀ w10, w10 = pL w1 (e + 1) (z1).toNat (jL x6) → CT w10 → ∃ x12, fJ w10 a2 5 1 x12 ∧ ∀ w15, w15 = pL w10 (e + 2) (z1).toNat (jL x12) → CT w15 → ∃ x17, fJ w15 a2 5 2 x17 ∧ ∀ w20, w20 = pL w15 (e + 3) (z1).toNat (jL x17) → CT w20 → r = (none, w20))) : xCall 20 [.ref e, .int (jI z1), .ref a2] w r := E_20 (Z_20_0t hC he h)
theorem Z_22_0t  {w : xW} {r : Option Value × xW} (hC : CT w) (h : xGo 22 2 [some (.ref 4), some (.int (jI 0)), none, none] [] w r) : xGo 22 0 [some (.ref 4), none, none, none] [] w r := by
  refine g_iconst (pc' := 1) d_22_0 rfl rfl ?_
  refine g_istoren (pc' := 2) (l' := [some (.ref 4), some (.int (jI 0)), none, none]) d_22_1 rfl ml_22 rfl rfl ?_
  exact h
theorem Z_22t  {w : xW} {r : Option Value × xW} (hC : CT w) (h : xGo 22 2 [some (.ref 4), some (.int (jI 0)), none, none] [] w r) : xCall 22 [.ref 4] w r := E_22 (Z_22_0t hC h)
theorem Z_22_2t {z1 : Int} {w : xW} {r : Option Value × xW} (hC : CT w) (h : ∃ x1, fI w 4 3 2 x1 ∧ in32 z1 ∧ in32 x1 ∧ (x1 ≤ z1 → ∀ w6, w6 = pF w 4 2 (.int (jI (x1 - 1))) → CT w6 → r = (none, w6)) ∧ (z1 < x1 → in32 (z1 + 1) ∧ (39 ≤ z1 + 1 → ∀ w10, w10 = pF w 4 2 (.int (jI (x1 - 1))) → CT w10 → r = (none, w10)) ∧ (z1 + 1 < 39 → 0 ≤ z1 ∧ ∃ x13, rL w 6 (z1).toNat x13 ∧ 0 ≤ z1 + 1 ∧ ∃ x16, rL w 6 (z1 + 1).toNat x16 ∧ 0 ≤ z1 ∧ ∃ x19, rL w 5 (z1).toNat x19 ∧ 0 ≤ z1 + 1 ∧ ∃ x22, rL w 5 (z1 + 1).toNat x22 ∧ ∃ r27 w24, xCall 19 [.long (jL ((z1 + 1) * (x13 - x16))), .long (jL 5342931457063200)] w (some (.long (jL r27)), w24) ∧ CT w24 ∧ (0 ≤ z1 ∧ z1 < 39) ∧ ∀ w30, w30 = pL w24 5 (z1).toNat (jL (((z1 + 1) * (x19 - x22)) + r27)) → CT w30 → ∃ r35 w32, xCall 17 [.long (jL ((z1 + 1) * (x13 - x16))), .long (jL 5342931457063200)] w30 (some (.long (jL r35)), w32) ∧ CT w32 ∧ ∀ w37, w37 = pL w32 6 (z1).toNat (jL r35) → CT w37 → xGo 22 2 [some (.ref 4), some (.int (jI (z1 + 1))), none, none] [] w37 r))) : xGo 22 2 [some (.ref 4), some (.int (jI z1)), none, none] [] w r := by
  refine g_iloadn (pc' := 3) d_22_2 rfl rfl ?_
  refine g_aloadn (pc' := 4) d_22_3 rfl rfl ?_
  obtain ⟨x1, hv2, h⟩ := h
  refine gz_getI (pc' := 7) d_22_4 rfl st_22_24 hv2 ?_
  obtain ⟨hc3, h⟩ := h
  obtain ⟨hc4, h⟩ := h
  refine gz_ic_ge (pc' := 10) (pt := 92) d_22_7 (by decide) rfl hc3 hc4 (fun c => ?_) (fun c => ?_)
  · replace h := h.1 c
    refine g_aloadn (pc' := 93) d_22_92 rfl rfl ?_
    refine g_dup (pc' := 94) d_22_93 rfl rfl ?_
    refine gz_getI (pc' := 97) d_22_94 rfl st_22_24 hv2 ?_
    refine g_iconst (pc' := 98) d_22_97 rfl rfl ?_
    refine gz_isub (pc' := 99) d_22_98 rfl ?_
    have hpf5 := (kf_4_2t hC)
    have hC7 : CT (pF w 4 2 (.int (jI (x1 - 1)))) := ks_4_2t hC
    have h := h _ rfl hC7
    refine gz_putf (pc' := 102) d_22_99 rfl st_22_24 ft_3_2 ff_3_2 rfl (Or.inl rfl) hpf5 ?_
    exact g_vret d_22_102 rt_22 h
  · replace h := h.2 c
    refine g_iloadn (pc' := 11) d_22_10 rfl rfl ?_
    refine g_iconst (pc' := 12) d_22_11 rfl rfl ?_
    refine gz_iadd (pc' := 13) d_22_12 rfl ?_
    refine g_bipush (pc' := 15) (v := jI 39) d_22_13 rfl (by decide) ?_
    obtain ⟨hc8, h⟩ := h
    refine gz_ic_ge (pc' := 18) (pt := 92) d_22_15 (by decide) rfl hc8 (s32 (z := 39)) (fun c => ?_) (fun c => ?_)
    · replace h := h.1 c
      refine g_aloadn (pc' := 93) d_22_92 rfl rfl ?_
      refine g_dup (pc' := 94) d_22_93 rfl rfl ?_
      refine gz_getI (pc' := 97) d_22_94 rfl st_22_24 hv2 ?_
      refine g_iconst (pc' := 98) d_22_97 rfl rfl ?_
      refine gz_isub (pc' := 99) d_22_98 rfl ?_
      have hpf9 := (kf_4_2t hC)
      have hC11 : CT (pF w 4 2 (.int (jI (x1 - 1)))) := ks_4_2t hC
      have h := h _ rfl hC11
      refine gz_putf (pc' := 102) d_22_99 rfl st_22_24 ft_3_2 ff_3_2 rfl (Or.inl rfl) hpf9 ?_
      exact g_vret d_22_102 rt_22 h
    · replace h := h.2 c
      refine g_iloadn (pc' := 19) d_22_18 rfl rfl ?_
      refine g_iconst (pc' := 20) d_22_19 rfl rfl ?_
      refine gz_iadd (pc' := 21) d_22_20 rfl ?_
      refine gz_i2l (pc' := 22) d_22_21 rfl hc8 ?_
      refine g_aloadn (pc' := 23) d_22_22 rfl rfl ?_
      refine gz_getR (pc' := 26) d_22_23 rfl st_22_15 (kr_4_1t hC) ?_
      refine g_iloadn (pc' := 27) d_22_26 rfl rfl ?_
      obtain ⟨hc12, h⟩ := h
      obtain ⟨x13, hv14, h⟩ := h
      refine gz_lald (pc' := 28) d_22_27 rfl hc12 hv14 ?_
      refine g_aloadn (pc' := 29) d_22_28 rfl rfl ?_
      refine gz_getR (pc' := 32) d_22_29 rfl st_22_15 (kr_4_1t hC) ?_
      refine g_iloadn (pc' := 33) d_22_32 rfl rfl ?_
      refine g_iconst (pc' := 34) d_22_33 rfl rfl ?_
      refine gz_iadd (pc' := 35) d_22_34 rfl ?_
      obtain ⟨hc15, h⟩ := h
      obtain ⟨x16, hv17, h⟩ := h
      refine gz_lald (pc' := 36) d_22_35 rfl hc15 hv17 ?_
      refine gz_lsub (pc' := 37) d_22_36 rfl ?_
      refine gz_lmul (pc' := 38) d_22_37 rfl ?_
      refine g_lstoren (pc' := 39) (l' := [some (.ref 4), some (.int (jI z1)), some (.long (jL ((z1 + 1) * (x13 - x16)))), none]) d_22_38 rfl ml_22 rfl rfl ?_
      refine g_aloadn (pc' := 40) d_22_39 rfl rfl ?_
      refine gz_getR (pc' := 43) d_22_40 rfl st_22_9 (kr_4_0t hC) ?_
      refine g_iloadn (pc' := 44) d_22_43 rfl rfl ?_
      refine g_iloadn (pc' := 45) d_22_44 rfl rfl ?_
      refine g_iconst (pc' := 46) d_22_45 rfl rfl ?_
      refine gz_iadd (pc' := 47) d_22_46 rfl ?_
      refine gz_i2l (pc' := 48) d_22_47 rfl hc8 ?_
      refine g_aloadn (pc' := 49) d_22_48 rfl rfl ?_
      refine gz_getR (pc' := 52) d_22_49 rfl st_22_9 (kr_4_0t hC) ?_
      refine g_iloadn (pc' := 53) d_22_52 rfl rfl ?_
      obtain ⟨hc18, h⟩ := h
      obtain ⟨x19, hv20, h⟩ := h
      refine gz_lald (pc' := 54) d_22_53 rfl hc18 hv20 ?_
      refine g_aloadn (pc' := 55) d_22_54 rfl rfl ?_
      refine gz_getR (pc' := 58) d_22_55 rfl st_22_9 (kr_4_0t hC) ?_
      refine g_iloadn (pc' := 59) d_22_58 rfl rfl ?_
      refine g_iconst (pc' := 60) d_22_59 rfl rfl ?_
      refine gz_iadd (pc' := 61) d_22_60 rfl ?_
      obtain ⟨hc21, h⟩ := h
      obtain ⟨x22, hv23, h⟩ := h
      refine gz_lald (pc' := 62) d_22_61 rfl hc21 hv23 ?_
      refine gz_lsub (pc' := 63) d_22_62 rfl ?_
      refine gz_lmul (pc' := 64) d_22_63 rfl ?_
      refine g_lloadn (pc' := 65) d_22_64 rfl rfl ?_
      refine g_ldc2 (pc' := 68) d_22_65 rfl st_22_28 rfl ?_
      obtain ⟨r27, w24, hk25, hC26, h⟩ := h
      refine g_callS (pc' := 71) d_22_68 rfl st_22_30 (Or.inl rfl) na_19 ml_19 rfl rfl rfl rm_22_19 rfl rfl hk25 ?_
      refine gz_ladd (pc' := 72) d_22_71 rfl ?_
      obtain ⟨hc28, h⟩ := h
      have hs29 := (kh_5t hC26 hc28)
      have hC31 : CT (pL w24 5 (z1).toNat (jL (((z1 + 1) * (x19 - x22)) + r27))) := hC26.putL
      have h := h _ rfl hC31
      refine gz_last (pc' := 73) d_22_72 rfl hs29 ?_
      refine g_aloadn (pc' := 74) d_22_73 rfl rfl ?_
      refine gz_getR (pc' := 77) d_22_74 rfl st_22_15 (kr_4_1t hC31) ?_
      refine g_iloadn (pc' := 78) d_22_77 rfl rfl ?_
      refine g_lloadn (pc' := 79) d_22_78 rfl rfl ?_
      refine g_ldc2 (pc' := 82) d_22_79 rfl st_22_28 rfl ?_
      obtain ⟨r35, w32, hk33, hC34, h⟩ := h
      refine g_callS (pc' := 85) d_22_82 rfl st_22_34 (Or.inl rfl) na_17 ml_17 rfl rfl rfl rm_22_17 rfl rfl hk33 ?_
      have hs36 := (kh_6t hC34 hc28)
      have hC38 : CT (pL w32 6 (z1).toNat (jL r35)) := hC34.putL
      have h := h _ rfl hC38
      refine gz_last (pc' := 86) d_22_85 rfl hs36 ?_
      refine gz_iinc (pc' := 89) (l' := [some (.ref 4), some (.int (jI (z1 + 1))), some (.long (jL ((z1 + 1) * (x13 - x16)))), none]) d_22_86 rfl rfl ml_22 rfl rfl ?_
      refine g_goto (pt := 2) d_22_89 (by decide) ?_
      exact xGo.more (xle_s (xle_s (xle_n (xle_n xle_0)))) h
theorem CT.fr36 {w : xW} (hC : CT w) : ∃ x y z : Int, w[36]? = some (frac x y z) := by
  obtain ⟨c, h1, h2⟩ := hC.2 36 (by decide)
  obtain ⟨x, y, z, rfl⟩ := h2
  obtain ⟨x', -, rfl⟩ := jL_of x
  obtain ⟨y', -, rfl⟩ := jL_of y
  obtain ⟨z', -, rfl⟩ := jL_of z
  exact ⟨x', y', z', h1⟩
theorem fwt {w : xW} (hC : CT w) (x y z : Int) : CT (w.set 36 (frac x y z)) ∧ (w.set 36 (frac x y z))[36]? = some (frac x y z) ∧ xsame [36] w (w.set 36 (frac x y z)) := by
  obtain ⟨a, b, c, h⟩ := hC.fr36
  exact ⟨hC.set ⟨_, _, _, rfl⟩, set_get h, xsame.set (by decide)⟩
theorem p56t {w : xW} (hC : CT w) {i : Nat} (hi : i < 39) (x y : Int) : rL (pL (pL w 5 i (jL x)) 6 i (jL y)) 5 i x ∧ rL (pL (pL w 5 i (jL x)) 6 i (jL y)) 6 i y ∧ xsame [5, 6] w (pL (pL w 5 i (jL x)) 6 i (jL y)) ∧ ∀ j u v, j ≠ i → rL w 5 j u → rL w 6 j v → rL (pL (pL w 5 i (jL x)) 6 i (jL y)) 5 j u ∧ rL (pL (pL w 5 i (jL x)) 6 i (jL y)) 6 j v := by
  have s1 : xsame [5] w (pL w 5 i (jL x)) := sm_pL (by decide)
  have s2 : xsame [6] (pL w 5 i (jL x)) (pL (pL w 5 i (jL x)) 6 i (jL y)) := sm_pL (by decide)
  refine ⟨(((kl_5t hC).has (by decide) hi).put).sm s2 (by decide), ((kl_6t hC.putL).has (by decide) hi).put, (s1.mono (by decide)).trans (s2.mono (by decide)), fun j u v hj h1 h2 => ⟨(h1.put hj).sm s2 (by decide), (h2.sm s1 (by decide)).put hj⟩⟩
theorem L_tbegint {m : Int} (m38 : m ≤ 38) : ∀ (k i : Nat) (w : xW), (i : Int) + k = m + 1 → CT w → fI w 4 3 2 m → trow w 5 6 ((i : Int) - 1) 0 →
    ∃ w', xGo 12 12 [some (.ref 4), some (.int (jI m)), some (.int (jI (i : Int)))] [] w (none, w') ∧ CT w' ∧ xsame [5, 6] w w' ∧ trow w' 5 6 m 0 := by
  intro k
  induction k with
  | zero =>
    intro i w hi hC hL H
    refine ⟨w, Z_12_12t hC ⟨_, hL, s32, s32, fun _ => rfl, fun q => by omega⟩, hC, xsame.rf, ?_⟩
    rw [show m = (i : Int) - 1 by omega]; exact H
  | succ k ih =>
    intro i w hi hC hL H
    have e : tT 0 i = (if i = 0 then 1 else 0, if i = 0 then 0 else tU / ((i : Int) + 1)) := rfl
    have pp := p56t hC (i := i) (by omega) (tT 0 i).1 (tT 0 i).2
    obtain ⟨w2, b1, b2, b3, b4⟩ := ih (i + 1) (pL (pL w 5 i (jL (tT 0 i).1)) 6 i (jL (tT 0 i).2)) (by omega) hC.putL.putL (hL.sm pp.2.2.1 (by decide)) (fun j hj => by
      by_cases q : j = i
      · rw [q]; exact ⟨pp.1, pp.2.1⟩
      · have r := H j (by omega)
        exact pp.2.2.2 j _ _ q r.1 r.2)
    refine ⟨w2, Z_12_12t hC ⟨_, hL, s32, s32, fun q => by omega, fun _ => ⟨fun z => ⟨⟨by omega, by omega⟩, fun w7 e7 _ => ⟨fun _ => ⟨s32, by omega, _, tdN (by decide), fun w14 e14 _ => ?_⟩, fun q => absurd q z⟩⟩, fun z => ⟨⟨by omega, by omega⟩, fun w21 e21 _ => ⟨fun q => absurd z q, fun _ w31 e31 _ => ?_⟩⟩⟩⟩, b2, pp.2.2.1.trans b3, b4⟩
    · have z2 : ¬ i = 0 := by omega
      rw [e, if_neg z2, if_neg z2] at b1
      rw [e14, e7]; exact b1
    · have z2 : i = 0 := by omega
      rw [e, if_pos z2, if_pos z2] at b1
      rw [e31, e21]; exact b1
theorem C_tbegint {w : xW} (hC : CT w) {m : Int} (m0 : 0 ≤ m) (m38 : m ≤ 38) : ∃ w', xCall 12 [.ref 4, .int (jI m)] w (none, w') ∧ CT w' ∧ xsame [4, 5, 6] w w' ∧ fI w' 4 3 2 m ∧ trow w' 5 6 m 0 := by
  have mi := C_minI (a := m) (b := 38) s32 s32 w
  rw [if_neg (by omega)] at mi
  have h1 : CT (pF w 4 2 (.int (jI m))) := ks_4_2t hC
  have f1 : fI (pF w 4 2 (.int (jI m))) 4 3 2 m := (kf_4_2t hC).putI
  obtain ⟨w2, b1, b2, b3, b4⟩ := L_tbegint m38 (m + 1).toNat 0 _ (by omega) h1 f1 (fun j hj => by omega)
  refine ⟨w2, Z_12t hC ⟨_, _, mi, hC, fun w6 e6 _ => ?_⟩, b2, (sm_pF (by decide)).trans (b3.mono (by decide)), f1.sm b3 (by decide), b4⟩
  rw [e6]; exact b1
theorem L_tstept {L : Int} {r : Nat} (L38 : L ≤ 38) : ∀ (k i : Nat) (w : xW), (i : Int) + k = L → CT w → fI w 4 3 2 L → (∀ j : Nat, j < i → rL w 5 j (tT (r + 1) j).1 ∧ rL w 6 j (tT (r + 1) j).2) → (∀ j : Nat, i ≤ j → (j : Int) ≤ L → rL w 5 j (tT r j).1 ∧ rL w 6 j (tT r j).2) →
    ∃ w', xGo 22 2 [some (.ref 4), some (.int (jI (i : Int))), none, none] [] w (none, w') ∧ CT w' ∧ xsame [4, 5, 6] w w' ∧ fI w' 4 3 2 (L - 1) ∧ trow w' 5 6 (L - 1) (r + 1) := by
  intro k
  induction k with
  | zero =>
    intro i w hi hC hL H1 H2
    have s : xsame [4] w (pF w 4 2 (.int (jI (L - 1)))) := sm_pF (by decide)
    refine ⟨_, Z_22_2t hC ⟨_, hL, s32, s32, fun _ w6 e6 _ => by rw [e6], fun q => by omega⟩, ks_4_2t hC, s.mono (by decide), (kf_4_2t hC).putI, fun j hj => ?_⟩
    have a := H1 j (by omega)
    exact ⟨a.1.sm s (by decide), a.2.sm s (by decide)⟩
  | succ k ih =>
    intro i w hi hC hL H1 H2
    have e : tT (r + 1) i = tS i (tT r i) (tT r (i + 1)) := rfl
    have a := H2 i (by omega) (by omega)
    have b := H2 (i + 1) (by omega) (by omega)
    have p64 := tpart_b r i (by omega)
    have pp := p56t hC (i := i) (by omega) (tT (r + 1) i).1 (tT (r + 1) i).2
    obtain ⟨w2, b1, b2, b3, b4, b5⟩ := ih (i + 1) (pL (pL w 5 i (jL (tT (r + 1) i).1)) 6 i (jL (tT (r + 1) i).2)) (by omega) hC.putL.putL (hL.sm pp.2.2.1 (by decide)) (fun j hj => by
      by_cases q : j = i
      · rw [q]; exact ⟨pp.1, pp.2.1⟩
      · have r := H1 j (by omega)
        exact pp.2.2.2 j _ _ q r.1 r.2) (fun j h1 h2 => by
      have r := H2 j (by omega) h2
      exact pp.2.2.2 j _ _ (by omega) r.1 r.2)
    refine ⟨w2, Z_22_2t hC ⟨_, hL, s32, s32, fun q => by omega, fun _ => ⟨s32, fun q => by omega, fun _ => ⟨by omega, _, a.2, by omega, _, b.2, by omega, _, a.1, by omega, _, b.1, _, _, C_floorDiv p64 (b := 5342931457063200) s64 (by decide) w, hC, ⟨by omega, by omega⟩, fun w30 e30 h30 => ⟨_, _, C_floorMod p64 (b := 5342931457063200) s64 (by decide) w30, h30, fun w37 e37 _ => ?_⟩⟩⟩⟩, b2, (pp.2.2.1.mono (by decide)).trans b3, b4, b5⟩
    rw [e37, e30]; exact b1
theorem C_tstept {w : xW} (hC : CT w) {L : Int} {r : Nat} (L0 : 0 ≤ L) (L38 : L ≤ 38) (hL : fI w 4 3 2 L) (H : trow w 5 6 L r) : ∃ w', xCall 22 [.ref 4] w (none, w') ∧ CT w' ∧ xsame [4, 5, 6] w w' ∧ fI w' 4 3 2 (L - 1) ∧ trow w' 5 6 (L - 1) (r + 1) := by
  obtain ⟨w2, b1, b2, b3, b4, b5⟩ := L_tstept L38 (r := r) L.toNat 0 w (by omega) hC hL (fun j hj => by omega) (fun j _ hj => H j hj)
  exact ⟨w2, Z_22t hC b1, b2, b3, b4, b5⟩
theorem C_tellPlacet {w : xW} (hC : CT w) {L j : Int} {r : Nat} (j0 : 0 ≤ j) (jL' : j ≤ L) (L38 : L ≤ 38) (H : trow w 5 6 L r) : xCall 15 [.ref 4, .int (jI j), .ref 36] w (none, w.set 36 (frac (tT r j.toNat).1 (prA (tT r j.toNat).2 tU) (prB (tT r j.toNat).2 tU))) := by
  obtain ⟨x, y, z, f36⟩ := hC.fr36
  have tb := tT_b r j.toNat
  have a := H j.toNat (by omega)
  have bc := C_become (nw := (tT r j.toNat).1) (na := (tT r j.toNat).2) (nb := tU) f36 (by decide) (by unfold tU at tb; exact s64) ⟨by decide, by decide⟩
  obtain ⟨e1, e2⟩ := nf_pr tb.1 tb.2
  have e0 : nfW (tT r j.toNat).1 (tT r j.toNat).2 tU = (tT r j.toNat).1 := by unfold nfW; rw [Int.ediv_eq_zero_of_lt tb.1 tb.2, Int.add_zero]
  rw [e0, e1, e2] at bc
  exact Z_15t hC ⟨s32, fun q => by omega, fun _ => ⟨fun q => by omega, fun _ => ⟨j0, _, a.1, j0, _, a.2, ko_36t hC, _, bc, (fwt hC _ _ _).1, rfl⟩⟩⟩
section Qt1
variable {c : Nat} {E : eT} {t : Int} {ws : Nat → Int} {me : memT} {w : xW}
theorem C_tellEntryt {w : xW} (hC : CT w) {n : Int} (n0 : 0 ≤ n) (hn : n ≤ 38) (H : trow w 5 6 0 n.toNat) : xCall 14 [.ref 4, .int (jI n), .ref 36] w (none, w.set 36 (frac (rE n.toNat).1 (rE n.toNat).2.1 (rE n.toNat).2.2)) := by
  obtain ⟨fs, h4⟩ := ko_4t hC
  have tp := C_tellPlacet hC (j := 0) (by decide) (by decide) (by decide) H
  have r := tri_r (n := n.toNat) (by omega)
  have f := fwt hC (tT n.toNat 0).1 (prA (tT n.toNat 0).2 tU) (prB (tT n.toNat 0).2 tU)
  refine E_14 (S_14_0 ⟨_, h4, _, tp, fun q => ?_, fun q => ⟨_, f.2.1, _, rfl, fun v9 e9 => ⟨Nat.zero_lt_succ _, fun w11 e11 => ?_⟩⟩⟩)
  · have q1 : n ≠ 1 := fun z => q (by rw [z]; rfl)
    have r1 : trE n.toNat (tT n.toNat 0) = ((tT n.toNat 0).1, prA (tT n.toNat 0).2 tU, prB (tT n.toNat 0).2 tU) := by unfold trE; rw [if_neg (by omega)]
    rw [← r, r1]
    rfl
  · have q1 : n = 1 := (jI_eq (a := n) (b := 1) s32 s32).mp (Decidable.not_not.mp q)
    have r1 : trE n.toNat (tT n.toNat 0) = ((tT n.toNat 0).1 - 1, prA (tT n.toNat 0).2 tU, prB (tT n.toNat 0).2 tU) := by unfold trE; rw [if_pos (by omega)]
    have ev : v9 = jL ((tT n.toNat 0).1 - 1) := by rw [e9, show (1 : Int64) = jL 1 from rfl, jL_sub]
    rw [← r, r1, e11, ev]
    show (none, _) = (none, List.set (List.set w 36 _) 36 _)
    rw [set_set]
    rfl
end Qt1
