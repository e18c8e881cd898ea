/-! the law's loop -/
theorem case2 {F M : ZW → Option (Int32 × ZW)} {w : ZW} {n : Int32} (h : ∃ r w1 w2, F w = some (r, w1) ∧ M w1 = some (r, w2) ∧ Rel w2) : ∃ w2, ((F w).bind fun r3 : Int32 × ZW => (M r3.2).bind fun r4 : Int32 × ZW => if r3.1 = r4.1 then (some (.inl (n, r4.2)) : Option ((Int32 × ZW) ⊕ ((Int32) ⊕ (ZW)))) else some (.inr (.inl (0 : Int32)))) = some (.inl (n, w2)) ∧ Rel w2 := by
  obtain ⟨r, w1, w2, e1, e2, h⟩ := h
  refine ⟨w2, ?_, h⟩
  rw [e1, Option.bind_some, e2, Option.bind_some, if_pos rfl]
theorem case4 {F M : ZW → Option (Int64 × ZW)} {w : ZW} {n : Int32} (h : ∃ r w1 w2, F w = some (r, w1) ∧ M w1 = some (r, w2) ∧ Rel w2) : ∃ w2, ((F w).bind fun r3 : Int64 × ZW => (M r3.2).bind fun r4 : Int64 × ZW => if (lg_cmp r3.1 r4.1) = 0 then (some (.inl (n, r4.2)) : Option ((Int32 × ZW) ⊕ ((Int32) ⊕ (ZW)))) else some (.inr (.inl (0 : Int32)))) = some (.inl (n, w2)) ∧ Rel w2 := by
  obtain ⟨r, w1, w2, e1, e2, h⟩ := h
  refine ⟨w2, ?_, h⟩
  rw [e1, Option.bind_some, e2, Option.bind_some, if_pos ((lg_cmp_eq _ _).mpr rfl)]
theorem case1 {F M : ZW → Option Int32} {w : ZW} {n : Int32} (hR : Rel w) (h : ∃ r, F w = some r ∧ M w = some r) : ∃ w2, ((F w).bind fun r3 : Int32 => (M w).bind fun r4 : Int32 => if r3 = r4 then (some (.inl (n, w)) : Option ((Int32 × ZW) ⊕ ((Int32) ⊕ (ZW)))) else some (.inr (.inl (0 : Int32)))) = some (.inl (n, w2)) ∧ Rel w2 := by
  obtain ⟨r, e1, e2⟩ := h
  refine ⟨w, ?_, hR⟩
  rw [e1, Option.bind_some, e2, Option.bind_some, if_pos rfl]
theorem case3 {F : ZW → Option (Int32 × ZW)} {M : ZW → Option Int32} {w : ZW} {n : Int32} (h : ∃ r w1, F w = some (r, w1) ∧ M w1 = some r ∧ Rel w1) : ∃ w2, ((F w).bind fun r3 : Int32 × ZW => (M r3.2).bind fun r4 : Int32 => if r3.1 = r4 then (some (.inl (n, r3.2)) : Option ((Int32 × ZW) ⊕ ((Int32) ⊕ (ZW)))) else some (.inr (.inl (0 : Int32)))) = some (.inl (n, w2)) ∧ Rel w2 := by
  obtain ⟨r, w1, e1, e2, h⟩ := h
  refine ⟨w1, ?_, h⟩
  rw [e1, Option.bind_some, e2, Option.bind_some, if_pos rfl]
set_option maxHeartbeats 4000000 in
theorem law_turn {len i : Nat} {xs : Nat → Int32} {w : ZW} (hR : Rel w) (hl : len ≤ 3072) (hi : i + 6 ≤ len) : ∃ w2, f_law_L18 len xs (nI i, w) = some (.inl (nI i + 6, w2)) ∧ Rel w2 := by
  have z0 : z_in (nI i) len = true := z_in_t (by omega) (by omega)
  have z1 : z_in (nI i + (1 : Int32)) len = true := by rw [show nI i + (1 : Int32) = nI (i + 1) from nI_add i 1]; exact z_in_t (by omega) (by omega)
  have z2 : z_in (nI i + (2 : Int32)) len = true := by rw [show nI i + (2 : Int32) = nI (i + 2) from nI_add i 2]; exact z_in_t (by omega) (by omega)
  have z3 : z_in (nI i + (3 : Int32)) len = true := by rw [show nI i + (3 : Int32) = nI (i + 3) from nI_add i 3]; exact z_in_t (by omega) (by omega)
  have z4 : z_in (nI i + (4 : Int32)) len = true := by rw [show nI i + (4 : Int32) = nI (i + 4) from nI_add i 4]; exact z_in_t (by omega) (by omega)
  have z5 : z_in (nI i + (5 : Int32)) len = true := by rw [show nI i + (5 : Int32) = nI (i + 5) from nI_add i 5]; exact z_in_t (by omega) (by omega)
  have g : ¬ (Int32.ofNat len - (6 : Int32)) < nI i := fun h => by
    rw [show Int32.ofNat len - (6 : Int32) = nI (len - 6) from pk_sub (a := len) (b := 6) (by omega)] at h
    have := (nI_ltI (by omega) (by omega)).mp h
    omega
  unfold f_law_L18
  dsimp only
  rw [if_neg g, if_pos z0]
  generalize xs (nI i).toNatClampNeg &&& (63 : Int32) = k
  generalize xs (nI i + (1 : Int32)).toNatClampNeg = a1
  generalize xs (nI i + (2 : Int32)).toNatClampNeg = a2
  generalize xs (nI i + (3 : Int32)).toNatClampNeg = a3
  generalize xs (nI i + (4 : Int32)).toNatClampNeg = a4
  generalize xs (nI i + (5 : Int32)).toNatClampNeg = a5
  generalize nI i + (6 : Int32) = n
  by_cases h0 : k = (0 : Int32)
  · rw [if_pos h0, if_pos z1, if_pos z2, if_pos z3]
    simp only [z1, z2, z3, if_true]
    exact case2 (F := fun u => f_X11_panel u a1 a2 a3) (M := fun u => f_X12_panel u a1 a2 a3) (sim_panel hR a1 a2 a3)
  rw [if_neg h0]
  by_cases h1 : k = (1 : Int32)
  · rw [if_pos h1, if_pos z1, if_pos z2, if_pos z3, if_pos z4, if_pos z5]
    simp only [z1, z2, z3, z4, z5, if_true]
    exact case2 (F := fun u => f_X11_hang u a1 a2 a3 a4 a5) (M := fun u => f_X12_hang u a1 a2 a3 a4 a5) (sim_hang hR a1 a2 a3 a4 a5)
  rw [if_neg h1]
  by_cases h2 : k = (2 : Int32)
  · rw [if_pos h2, if_pos z1, if_pos z2, if_pos z3, if_pos z4]
    simp only [z1, z2, z3, z4, if_true]
    exact case2 (F := fun u => f_X11_hangOn u a1 a2 a3 a4) (M := fun u => f_X12_hangOn u a1 a2 a3 a4) (sim_hangOn hR a1 a2 a3 a4)
  rw [if_neg h2]
  by_cases h3 : k = (3 : Int32)
  · rw [if_pos h3, if_pos z1, if_pos z2]
    simp only [z1, z2, if_true]
    exact case1 (F := fun u => f_X11_told u a1 a2) (M := fun u => f_X12_told u a1 a2) hR (sim_told hR a1 a2)
  rw [if_neg h3]
  by_cases h4 : k = (4 : Int32)
  · rw [if_pos h4, if_pos z1, if_pos z2]
    simp only [z1, z2, if_true]
    exact case1 (F := fun u => f_X11_load u a1 a2) (M := fun u => f_X12_load u a1 a2) hR (sim_load hR a1 a2)
  rw [if_neg h4]
  by_cases h5 : k = (5 : Int32)
  · rw [if_pos h5, if_pos z1, if_pos z2]
    simp only [z1, z2, if_true]
    exact case1 (F := fun u => f_X11_on u a1 a2) (M := fun u => f_X12_on u a1 a2) hR (sim_on hR a1 a2)
  rw [if_neg h5]
  by_cases h6 : k = (6 : Int32)
  · rw [if_pos h6, if_pos z1]
    simp only [z1, if_true]
    exact case2 (F := fun u => f_X11_cut u a1) (M := fun u => f_X12_cut u a1) (sim_cut hR a1)
  rw [if_neg h6]
  by_cases h7 : k = (7 : Int32)
  · rw [if_pos h7]
    exact case1 (F := fun u => f_X11_over u) (M := fun u => f_X12_over u) hR (sim_over hR)
  rw [if_neg h7]
  by_cases h8 : k = (8 : Int32)
  · rw [if_pos h8]
    exact case2 (F := fun u => f_X11_giveWay u) (M := fun u => f_X12_giveWay u) (sim_giveWay hR)
  rw [if_neg h8]
  by_cases h9 : k = (9 : Int32)
  · rw [if_pos h9, if_pos z1]
    simp only [z1, if_true]
    exact case1 (F := fun u => f_X11_count u a1) (M := fun u => f_X12_count u a1) hR (sim_count hR a1)
  rw [if_neg h9]
  by_cases h10 : k = (10 : Int32)
  · rw [if_pos h10, if_pos z1, if_pos z2, if_pos z3]
    simp only [z1, z2, z3, if_true]
    exact case2 (F := fun u => f_X11_photo u a1 a2 a3) (M := fun u => f_X12_photo u a1 a2 a3) (sim_photo hR a1 a2 a3)
  rw [if_neg h10]
  by_cases h11 : k = (11 : Int32)
  · rw [if_pos h11, if_pos z1, if_pos z2, if_pos z3, if_pos z4, if_pos z5]
    simp only [z1, z2, z3, z4, z5, if_true]
    exact case2 (F := fun u => f_X11_truck u a1 a2 a3 a4 a5) (M := fun u => f_X12_truck u a1 a2 a3 a4 a5) (sim_truck hR a1 a2 a3 a4 a5)
  rw [if_neg h11]
  by_cases h12 : k = (12 : Int32)
  · rw [if_pos h12, if_pos z1, if_pos z2]
    simp only [z1, z2, if_true]
    exact case1 (F := fun u => f_X11_span u a1 a2) (M := fun u => f_X12_span u a1 a2) hR (sim_span hR a1 a2)
  rw [if_neg h12]
  by_cases h13 : k = (13 : Int32)
  · rw [if_pos h13, if_pos z1, if_pos z2]
    simp only [z1, z2, if_true]
    exact case1 (F := fun u => f_X11_safe u a1 a2) (M := fun u => f_X12_safe u a1 a2) hR (sim_safe hR a1 a2)
  rw [if_neg h13]
  by_cases h14 : k = (14 : Int32)
  · rw [if_pos h14, if_pos z1, if_pos z2, if_pos z3]
    simp only [z1, z2, z3, if_true]
    exact case2 (F := fun u => f_X11_type u ((a1.toInt64 <<< ((32 : Int32).toInt64 &&& 63)) ||| (a2.toInt64 &&& (4294967295 : Int64))) a3) (M := fun u => f_X12_type u ((a1.toInt64 <<< ((32 : Int32).toInt64 &&& 63)) ||| (a2.toInt64 &&& (4294967295 : Int64))) a3) (sim_type hR ((a1.toInt64 <<< ((32 : Int32).toInt64 &&& 63)) ||| (a2.toInt64 &&& (4294967295 : Int64))) a3)
  rw [if_neg h14]
  by_cases h15 : k = (15 : Int32)
  · rw [if_pos h15]
    exact case2 (F := fun u => f_X11_person u) (M := fun u => f_X12_person u) (sim_person hR)
  rw [if_neg h15]
  by_cases h16 : k = (16 : Int32)
  · rw [if_pos h16, if_pos z1]
    simp only [z1, if_true]
    exact case2 (F := fun u => f_X11_letters u a1) (M := fun u => f_X12_letters u a1) (sim_letters hR a1)
  rw [if_neg h16]
  by_cases h17 : k = (17 : Int32)
  · rw [if_pos h17, if_pos z1]
    simp only [z1, if_true]
    exact case1 (F := fun u => f_X11_readings u a1) (M := fun u => f_X12_readings u a1) hR (sim_readings hR a1)
  rw [if_neg h17]
  by_cases h18 : k = (18 : Int32)
  · rw [if_pos h18]
    exact case4 (F := fun u => f_X11_ways u) (M := fun u => f_X12_ways u) (sim_ways hR)
  rw [if_neg h18]
  by_cases h19 : k = (19 : Int32)
  · rw [if_pos h19, if_pos z1, if_pos z2]
    simp only [z1, z2, if_true]
    exact case2 (F := fun u => f_X11_who u a1 a2) (M := fun u => f_X12_who u a1 a2) (sim_who hR a1 a2)
  rw [if_neg h19]
  by_cases h20 : k = (20 : Int32)
  · rw [if_pos h20, if_pos z1, if_pos z2]
    simp only [z1, z2, if_true]
    exact case2 (F := fun u => f_X11_where u a1 a2) (M := fun u => f_X12_where u a1 a2) (sim_where hR a1 a2)
  rw [if_neg h20]
  by_cases h21 : k = (21 : Int32)
  · rw [if_pos h21, if_pos z1]
    simp only [z1, if_true]
    exact case2 (F := fun u => f_X11_nightly u a1) (M := fun u => f_X12_nightly u a1) (sim_nightly hR a1)
  rw [if_neg h21]
  by_cases h22 : k = (22 : Int32)
  · rw [if_pos h22, if_pos z1, if_pos z2, if_pos z3]
    simp only [z1, z2, z3, if_true]
    exact case2 (F := fun u => f_X11_risk u a1 a2 a3) (M := fun u => f_X12_risk u a1 a2 a3) (sim_risk hR a1 a2 a3)
  rw [if_neg h22]
  by_cases h23 : k = (23 : Int32)
  · rw [if_pos h23, if_pos z1]
    simp only [z1, if_true]
    exact case2 (F := fun u => f_X11_order u a1) (M := fun u => f_X12_order u a1) (sim_order hR a1)
  rw [if_neg h23]
  by_cases h24 : k = (24 : Int32)
  · rw [if_pos h24, if_pos z1, if_pos z2, if_pos z3]
    simp only [z1, z2, z3, if_true]
    exact case2 (F := fun u => f_X11_month u a1 a2 a3) (M := fun u => f_X12_month u a1 a2 a3) (sim_month hR a1 a2 a3)
  rw [if_neg h24]
  by_cases h25 : k = (25 : Int32)
  · rw [if_pos h25, if_pos z1]
    simp only [z1, if_true]
    exact case2 (F := fun u => f_X11_laws u a1) (M := fun u => f_X12_laws u a1) (sim_laws hR a1)
  rw [if_neg h25]
  by_cases h26 : k = (26 : Int32)
  · rw [if_pos h26, if_pos z1, if_pos z2]
    simp only [z1, z2, if_true]
    exact case4 (F := fun u => f_X11_grown u a1 a2) (M := fun u => f_X12_grown u a1 a2) (sim_grown hR a1 a2)
  rw [if_neg h26]
  by_cases h27 : k = (27 : Int32)
  · rw [if_pos h27, if_pos z1, if_pos z2]
    simp only [z1, z2, if_true]
    exact case3 (F := fun u => f_X11_ask u a1 a2) (M := fun u => f_X12_ask u a1 a2) (sim_ask hR a1 a2)
  rw [if_neg h27]
  by_cases h28 : k = (28 : Int32)
  · rw [if_pos h28, if_pos z1]
    simp only [z1, if_true]
    exact case2 (F := fun u => f_X11_needed u a1) (M := fun u => f_X12_needed u a1) (sim_needed hR a1)
  rw [if_neg h28]
  by_cases h29 : k = (29 : Int32)
  · rw [if_pos h29, if_pos z1, if_pos z2, if_pos z3, if_pos z4]
    simp only [z1, z2, z3, z4, if_true]
    exact case3 (F := fun u => f_X11_stolen u a1 a2 a3 a4) (M := fun u => f_X12_stolen u a1 a2 a3 a4) (sim_stolen hR a1 a2 a3 a4)
  rw [if_neg h29]
  by_cases h30 : k = (30 : Int32)
  · rw [if_pos h30]
    exact case2 (F := fun u => f_X11_image u) (M := fun u => f_X12_image u) (sim_image hR)
  rw [if_neg h30]
  by_cases h31 : k = (31 : Int32)
  · rw [if_pos h31]
    exact case2 (F := fun u => f_X11_restore u) (M := fun u => f_X12_restore u) (sim_restore hR)
  rw [if_neg h31]
  by_cases h32 : k = (32 : Int32)
  · rw [if_pos h32, if_pos z1, if_pos z2, if_pos z3, if_pos z4]
    simp only [z1, z2, z3, z4, if_true]
    exact case2 (F := fun u => f_X11_months u a1 a2 a3 a4) (M := fun u => f_X12_months u a1 a2 a3 a4) (sim_months hR a1 a2 a3 a4)
  rw [if_neg h32]
  by_cases h33 : k = (33 : Int32)
  · rw [if_pos h33, if_pos z1, if_pos z2, if_pos z3]
    simp only [z1, z2, z3, if_true]
    exact case2 (F := fun u => f_X11_sheet u a1 a2 a3) (M := fun u => f_X12_sheet u a1 a2 a3) (sim_sheet hR a1 a2 a3)
  rw [if_neg h33]
  by_cases h34 : k = (34 : Int32)
  · rw [if_pos h34, if_pos z1]
    simp only [z1, if_true]
    exact case2 (F := fun u => f_X11_drop u a1) (M := fun u => f_X12_drop u a1) (sim_drop hR a1)
  rw [if_neg h34]
  by_cases h35 : k = (35 : Int32)
  · rw [if_pos h35, if_pos z1, if_pos z2, if_pos z3, if_pos z4]
    simp only [z1, z2, z3, z4, if_true]
    exact case2 (F := fun u => f_X11_item u a1 a2 a3 a4) (M := fun u => f_X12_item u a1 a2 a3 a4) (sim_item hR a1 a2 a3 a4)
  rw [if_neg h35]
  by_cases h36 : k = (36 : Int32)
  · rw [if_pos h36, if_pos z1, if_pos z2, if_pos z3, if_pos z4, if_pos z5]
    simp only [z1, z2, z3, z4, z5, if_true]
    exact case2 (F := fun u => f_X11_copy u a1 a2 a3 a4 a5) (M := fun u => f_X12_copy u a1 a2 a3 a4 a5) (sim_copy hR a1 a2 a3 a4 a5)
  rw [if_neg h36]
  exact ⟨w, rfl, hR⟩
/-- the new world -/
def A0 : AST := fun k a j => if k = 3 ∧ a = 0 ∧ j = 0 then 2 else 0
theorem A0_z {k a j : Nat} (h : ¬ (k = 3 ∧ a = 0 ∧ j = 0)) : A0 k a j = 0 := if_neg h
theorem A0_2 : A0 3 0 0 = 2 := rfl
theorem w0_55 : ∀ k, k < 12 → z_w0i 55 k = nI (if k = 0 then 9999 else 1000000) := by decide +kernel
theorem w0_154 : ∀ k, k < 12 → z_w0i 154 k = -1 := by decide +kernel
theorem w0_123 : ∀ k, k < 4 → z_w0i 123 k = -1 ∧ z_w0i 158 k = -1 := by decide +kernel
theorem Rel_0 : Rel z_w0 := by
  have r0 : ∀ a j, A0 0 a j = 0 := fun a j => A0_z (by omega)
  have r1 : ∀ a j, A0 1 a j = 0 := fun a j => A0_z (by omega)
  have r2 : ∀ a j, A0 2 a j = 0 := fun a j => A0_z (by omega)
  have r3 : ∀ a j, ¬ (a = 0 ∧ j = 0) → A0 3 a j = 0 := fun a j h => A0_z (by omega)
  have r4 : ∀ a j, A0 4 a j = 0 := fun a j => A0_z (by omega)
  have s0 : ∀ p, sgC (A0 1) p (A0 1 0 0) = 0 := fun p => by rw [r1 0 0]; rfl
  refine ⟨A0, ⟨⟨?_, ?_, ?_, fun p hp => ?_, fun i hi => ?_⟩, ⟨?_, fun k hk => ?_⟩, ⟨?_, ?_, ?_, fun p hp => ?_, fun l hl => ?_⟩, ⟨?_, fun p hp => ?_⟩, fun k _ h => ?_⟩, ⟨⟨?_, ?_, ?_, fun p hp => ?_, fun i hi => ?_⟩, ⟨?_, fun p hp => ?_⟩, ⟨?_, ?_, fun p hp => ?_, fun l hl => ?_⟩, ⟨?_, fun p hp => ?_⟩, fun k hk => ?_⟩, ⟨⟨?_, ?_, fun p hp => ?_, fun i hi => ?_⟩, ⟨?_, fun k hk => ?_⟩, ⟨?_, fun p hp => ?_, fun l hl => ?_, fun l hl => ?_⟩, ⟨?_, fun p hp => ?_⟩, fun k hk => ?_⟩, ⟨0, fun _ => 0, by omega, fun i hi => by omega, rfl, rfl, fun i hi => by omega⟩, fun s hs => ?_, Or.inl ⟨rfl, rfl⟩⟩
  · rw [r0]; omega
  · rw [r0]; omega
  · rw [r0, r0]; omega
  · rw [r0] at hp; omega
  · rw [r0] at hi; omega
  · rw [r1]; omega
  · rw [r1] at hk; omega
  · rw [r2]; omega
  · rw [r2, r0]; omega
  · rw [r2]; decide
  · rw [r2] at hp; omega
  · rw [r2, Nat.zero_testBit] at hl; cases hl
  · rw [A0_2]; omega
  · rw [r3 1 p (by omega), r3 2 p (by omega), r3 3 p (by omega)]; omega
  · exact absurd (r4 0 k) h
  · rw [r0]; rfl
  · rw [r0]; rfl
  · rw [r0]; rfl
  · rw [r0] at hp; omega
  · rw [r0] at hi; omega
  · rw [r1]; rfl
  · exact ⟨by rw [s0 p]; rfl, fun h => absurd (s0 p) h⟩
  · rw [r2]; rfl
  · rw [r2]; rfl
  · rw [r2] at hp; omega
  · rw [r2, Nat.zero_testBit] at hl; cases hl
  · rw [A0_2]; rfl
  · rw [r3 1 p (by omega), r3 2 p (by omega), r3 3 p (by omega)]; exact ⟨rfl, rfl, rfl⟩
  · rw [r4, if_pos rfl, if_pos rfl]; exact ⟨rfl, w0_55 k hk⟩
  · rw [r0]; rfl
  · rw [r0]; rfl
  · rw [r0] at hp; omega
  · rw [r0] at hi; omega
  · rw [r1]; rfl
  · rw [r1] at hk; omega
  · rw [r2]; rfl
  · rw [r2] at hp; omega
  · rw [r0] at hl; omega
  · rw [r2, Nat.zero_testBit] at hl; cases hl
  · rw [A0_2]; rfl
  · rw [r0] at hp; omega
  · exact ⟨fun _ => w0_154 k hk, fun h => absurd (r4 0 k) h⟩
  · obtain ⟨h1, h2⟩ := w0_123 s hs
    refine ⟨h1.trans h2.symm, Or.inl h2, ⟨0, by omega, rfl, rfl⟩, fun i hi => ?_⟩
    have : s = 0 ∨ s = 1 ∨ s = 2 ∨ s = 3 := by omega
    rcases this with rfl | rfl | rfl | rfl <;> rfl
theorem law_all (xs : Nat → Int32) (len : Nat) (hl : len ≤ 3072) : f_law xs len z_w0 = some 1 := by
  have key : ∃ r, z_iter (f_law_L18 len xs) z_fuel ((0 : Int32), z_w0) = some r ∧ ∃ w : ZW, r = .inr w := by
    have R0 := Rel_0
    generalize z_w0 = w0 at R0 ⊢
    refine it_inv (fun k (s : Int32 × ZW) => s.1 = nI (6 * k) ∧ Rel s.2) _ (len / 6) (fun k s hk hP => ?_) (fun s hP => ?_) (zf (by omega)) ⟨rfl, R0⟩
    · obtain ⟨p1, p2⟩ := hP
      obtain ⟨x, u⟩ := s
      dsimp only at p1 p2
      subst p1
      left
      obtain ⟨w2, e, h⟩ := law_turn (len := len) (i := 6 * k) (xs := xs) p2 hl (by omega)
      exact ⟨_, e, by dsimp only; rw [show nI (6 * k) + (6 : Int32) = nI (6 * k + 6) from nI_add _ 6, Nat.mul_succ], h⟩
    · obtain ⟨p1, p2⟩ := hP
      obtain ⟨x, u⟩ := s
      dsimp only at p1 p2
      subst p1
      refine ⟨.inr u, ?_, u, rfl⟩
      unfold f_law_L18
      dsimp only
      rw [if_pos (show Int32.ofNat len - (6 : Int32) < nI (6 * (len / 6)) from by
        rw [show Int32.ofNat len = nI len from rfl, show (6 : Int32) = nI 6 from rfl, Int32.lt_iff_toInt_lt, pk_sub_toInt (by omega) (by omega), nI_toInt (by omega)]
        omega)]
  obtain ⟨r, e, w, h⟩ := key
  unfold f_law
  rw [e, h]
  rfl
