/-! needed: the table, both sides -/
theorem J80_eq {R : ST} {u : ZW} {s t : Nat} (ht : t < 2 ^ 14) (hts : sbq t s) (t0 : t ≠ 0) (hd : ∀ k, k < 32 → u.1 156 k = nI (sdm R s k)) (hn : ∀ x, x ≠ 0 → x < t → sbq x s → u.1 155 x = nI (nv R x)) : f_X12_needed_J80 (nI t) (if pc14 t = 1 then (0 : Int32) else 1000000000) u = some (.inl (nI (t + 1), z_upI u 155 t (nI (nv R t)))) := by
  unfold f_X12_needed_J80
  rw [L84_lp ht hts t0 hd hn, Option.bind_some, z_in_t (show t < 16384 by omega) (by omega), if_pos rfl, nI_clamp (show t < 2 ^ 31 by omega), zl, nI_1]
theorem tab12 {R : ST} {w : ZW} {s : Nat} (hs : s < 2 ^ 14) (hd : ∀ k, k < 32 → w.1 156 k = nI (sdm R s k)) : ∃ r, z_iter (f_X12_needed_L53 (nI s)) z_fuel ((1 : Int32), w) = some r ∧ (∀ c j, c ≠ 155 → r.1 c j = w.1 c j) ∧ r.2 = w.2 ∧ ∀ x, x ≠ 0 → x ≤ s → sbq x s → r.1 155 x = nI (nv R x) := by
  refine it_inv (fun i (st : Int32 × ZW) => st.1 = nI (i + 1) ∧ (∀ c j, c ≠ 155 → st.2.1 c j = w.1 c j) ∧ st.2.2 = w.2 ∧ ∀ x, x ≠ 0 → x ≤ i → sbq x s → st.2.1 155 x = nI (nv R x)) _ s (fun i st hi hP => ?_) (fun st hP => ?_) (zf (by omega)) ⟨rfl, fun c j _ => rfl, rfl, fun x h1 h2 => by omega⟩
  · obtain ⟨p1, p2, p3, p4⟩ := hP
    obtain ⟨x, u⟩ := st
    dsimp only at p1 p2 p3 p4
    subst p1
    left
    have ht : i + 1 < 2 ^ 14 := by omega
    have z0 : nI (ndn (i + 1) s) = 0 ↔ ndn (i + 1) s = 0 := nI_inj (by have := ndn_le (a := i + 1) (b := s); omega) (show 0 < 2 ^ 31 by omega)
    have hL : f_X12_needed_L53 (nI s) (nI (i + 1), u) = if ndn (i + 1) s = 0 then f_X12_needed_J80 (nI (i + 1)) (if pc14 (i + 1) = 1 then (0 : Int32) else 1000000000) u else some (.inl (nI (i + 1 + 1), u)) := by
      have pl := pc_le (b := i + 1)
      have z1 : nI (pc14 (i + 1)) = 1 ↔ pc14 (i + 1) = 1 := nI_inj (by omega) (show 1 < 2 ^ 31 by omega)
      unfold f_X12_needed_L53
      dsimp only
      rw [ilt (by omega) (by omega), if_neg (by omega), nI_ndn, size_eq ht, Option.bind_some, nI_1]
      by_cases q : ndn (i + 1) s = 0
      · rw [if_pos (z0.mpr q), if_pos q]
        by_cases y : pc14 (i + 1) = 1
        · rw [if_pos (z1.mpr y), if_pos y]
        · rw [if_neg (fun h => y (z1.mp h)), if_neg y]
      · rw [if_neg (fun h => q (z0.mp h)), if_neg q]
    rw [hL]
    by_cases q : ndn (i + 1) s = 0
    · have sq := (sbq_iff ht).mp q
      rw [if_pos q, J80_eq ht sq (by omega) (fun k hk => by rw [p2 156 k (by omega)]; exact hd k hk) (fun x h1 h2 h3 => p4 x h1 (by omega) h3)]
      refine ⟨_, rfl, rfl, fun c j h => by rw [upc (by omega)]; exact p2 c j h, p3, fun x h1 h2 h3 => ?_⟩
      by_cases z : x = i + 1
      · subst z; exact upc_e
      · rw [upc (by omega)]
        exact p4 x h1 (by omega) h3
    · rw [if_neg q]
      refine ⟨_, rfl, rfl, p2, p3, fun x h1 h2 h3 => ?_⟩
      by_cases z : x = i + 1
      · subst z; exact absurd ((sbq_iff ht).mpr h3) q
      · exact p4 x h1 (by omega) h3
  · obtain ⟨p1, p2, p3, p4⟩ := hP
    obtain ⟨x, u⟩ := st
    dsimp only at p1 p2 p3 p4
    subst p1
    refine ⟨u, ?_, p2, p3, p4⟩
    unfold f_X12_needed_L53
    dsimp only
    rw [ilt (by omega) (by omega), if_pos (by omega)]
theorem sim_needed {w : ZW} (h : Rel w) (a : Int32) : ∃ r w1 w2, f_X11_needed w a = some (r, w1) ∧ f_X12_needed w1 a = some (r, w2) ∧ Rel w2 := by
  have h0 := h
  obtain ⟨A, hA⟩ := h
  obtain ⟨hI, hC, hM, -⟩ := id hA
  by_cases g : sgA (A 0) a = true
  · obtain ⟨n, rfl, n1, n2, n3⟩ := sgA_t hI.1.2.1 g
    have n4 : n < 2 ^ 14 := by have := pw14 hI.1.2.1; omega
    obtain ⟨w1, e1, f1, f2, f3⟩ := learn11 hI.1 hC.1
    have hM1 : RailM (A 0) w1.1 := fr_RM (fun a j q => f1 a j (by unfold cRM at q; omega)) hM.1
    obtain ⟨w2, e2, g1, g2, g3⟩ := said12 hI.1 hM1 n
    obtain ⟨w3, e3, i1, i2, i3⟩ := tab12 n4 g3
    have top := nv_top (R := A 0) n4
    have z1 : nI (nv (A 0) n) = 1000000000 ↔ nv (A 0) n = 1000000000 := nI_inj (by omega) (show 1000000000 < 2 ^ 31 by omega)
    refine ⟨if nv (A 0) n = 1000000000 then -4 else nI (nv (A 0) n), w1, w3, ?_, ?_, A, fr_X (fun a j q => ?_) (fun a j q => by rw [i2, g2, f2]) hA⟩
    · unfold f_X11_needed
      rw [sought11 hI.1 hC.1, Option.bind_some, if10, if_pos g, e1, Option.bind_some, need11 hI.1.2.1 f3 n4, Option.bind_some]
    · unfold f_X12_needed
      rw [sought12 hI.1 hM1, Option.bind_some, if10, if_pos g, e2, Option.bind_some, e3, Option.bind_some, z_in_t (show n < 16384 by omega) (by omega), if_pos rfl, nI_clamp (show n < 2 ^ 31 by omega), i3 n n1 (Nat.le_refl _) (fun _ h => h), if_pos rfl]
      by_cases q : nv (A 0) n = 1000000000
      · rw [if_pos (z1.mpr q), if_pos q]
      · rw [if_neg (fun h => q (z1.mp h)), if_neg q]
    · rw [i1 a j (fun z => q (by unfold cX; omega)), g1 a j (fun z => q (by unfold cX; omega)), f1 a j (fun z => q (by unfold cX; omega))]
  · refine ⟨-1, w, w, ?_, ?_, h0⟩
    · unfold f_X11_needed
      rw [sought11 hI.1 hC.1, Option.bind_some, if10, if_neg g]
    · unfold f_X12_needed
      rw [sought12 hI.1 hM.1, Option.bind_some, if10, if_neg g]
