/-! the law: more a night never costs more -/
theorem wt_same {S S' : ST} (h1 : ∀ p, S' 1 p = S 1 p) (h2 : ∀ p, S' 2 p = S 2 p) (n b : Nat) : wt S' n b = wt S n b := by
  have : ∀ p, wtn S' n b p = wtn S n b p := fun p => by
    induction p with
    | zero => rfl
    | succ p ih => rw [wtn_s, wtn_s, ih, h1, h2]
  exact this 6
theorem ob_C {S S' : ST} {M : Nat} (h1 : ∀ p, S' 1 p = S 1 p) (h2 : ∀ p, S' 2 p = S 2 p) (h3 : ∀ p, S' 3 p = S 3 p) (hC : S 0 0 ≤ S' 0 0) : ∀ k left, ob S' M k left ≤ ob S M k left
  | 0, left => Nat.le_refl _
  | k + 1, left => by
    obtain ⟨x, hx⟩ : ∃ x, x = ob S M (k + 1) left := ⟨_, rfl⟩
    have le : ob S M (k + 1) left ≤ x := Nat.le_of_eq hx.symm
    rw [← hx, ob_s]
    rw [ob_s] at le
    rcases (foldm_le 64).mp le with h | ⟨s, s1, s2, s3⟩
    · exact (foldm_le 64).mpr (Or.inl h)
    · refine (foldm_le 64).mpr (Or.inr ⟨s, s1, ?_, ?_⟩)
      · obtain ⟨o1, o2, o3⟩ := (okv_iff (by omega)).mp s2
        exact (okv_iff (by omega)).mpr ⟨o1, Nat.le_trans o2 hC, fun i hi hb => by rw [h3]; exact o3 i hi hb⟩
      · have ih := ob_C h1 h2 h3 hC k (ndn left s) (M := M)
        have e := wt_same h1 h2 (11 - k) (ndn left s)
        have s3 : wt S (11 - k) (ndn left s) + ob S M k (ndn left s) ≤ x := s3
        show wt S' (11 - k) (ndn left s) + ob S' M k (ndn left s) ≤ x
        omega
def Q5 (A : AST) (P n k : Nat) (w : ZW) : Prop := StI A ∧ StC A w.1 w.2 ∧ A 0 0 0 = P ∧ A 0 0 1 = n + 1 ∧ A 3 0 0 = 2 ∧ ∀ p, k ≤ p → A 3 1 p = 0 ∧ A 3 2 p = 0
theorem risk_step {xs : Nat → Int32} {len : Nat} (hl : len ≤ 260) {A : AST} {P n i : Nat} {w : ZW} (h : Q5 A P n i w) (hi : i < P) (hP : P ≤ 4) : ∃ A' w', f_law2_L1088 (nI P) xs len ((1 : Int32), nI i, w) = some (.inl (1, nI (i + 1), w')) ∧ Q5 A' P n (i + 1) w' ∧ A' 0 = A 0 := by
  obtain ⟨hI, hC, h00, h01, h30, h3⟩ := h
  obtain ⟨c, hc, ec⟩ := L_cell_eq xs hl (k := 13) (by omega)
  have ec : f_L_cell xs len 13 = some (nI c) := ec
  obtain ⟨d, hd, ed⟩ := L_cell_eq xs hl (k := 14) (by omega)
  have ed : f_L_cell xs len 14 = some (nI d) := ed
  have m1 : (c >>> (4 * i)) % 100 < 100 := Nat.mod_lt _ (by omega)
  have m2 : (d >>> (3 * i)) % 10 < 10 := Nat.mod_lt _ (by omega)
  obtain ⟨va, hva⟩ : ∃ va, va = (c >>> (4 * i)) % 100 := ⟨_, rfl⟩
  obtain ⟨vb, hvb⟩ : ∃ vb, vb = (d >>> (3 * i)) % 10 := ⟨_, rfl⟩
  rw [← hva] at m1
  rw [← hvb] at m2
  obtain ⟨z1, z2⟩ := h3 i (Nat.le_refl _)
  obtain ⟨e1, k1, k2⟩ := K_risk (p := i) (k := 0) (v := va) hI hC (by omega) (by omega) (show _ ≤ 99 by omega)
  obtain ⟨e2, k3, k4⟩ := K_risk (p := i) (k := 1) (v := vb) k1 k2 (by show i < A 0 0 0; omega) (by omega) (show _ ≤ 9 by omega)
  rw [show (0 + 1) = 1 from rfl, z1] at e1
  have e1 : f_X11_risk w (nI i) 0 (nI (va)) = some (0, z_upI w (21 + 0) i (nI va)) := e1
  have z3 : aup A 3 (sup (A 3) (0 + 1) i (va)) 3 (1 + 1) i = 0 := by
    show sup (A 3) 1 i (va) 2 i = 0
    rw [sup_n (by omega)]
    exact z2
  rw [z3] at e2
  have e2 : f_X11_risk (z_upI w (21 + 0) i (nI (va))) (nI i) 1 (nI (vb)) = some (0, _) := e2
  refine ⟨_, _, ?_, ⟨k3, k4, h00, h01, ?_, fun p hp => ⟨?_, ?_⟩⟩, rfl⟩
  · unfold f_law2_L1088
    dsimp only
    rw [if_neg (nnle hi), if_neg i10, ec, Option.bind_some, show (4 : Int32) * nI i = nI (4 * i) from by rw [show (4 : Int32) = nI 4 from rfl, pk_mul], nI_shr hc (by omega), rem_lit (shr_lt hc) (by decide) (by decide), ← hva, e1, Option.bind_some]
    dsimp only
    rw [if_pos rfl, ed, Option.bind_some, show (3 : Int32) * nI i = nI (3 * i) from by rw [show (3 : Int32) = nI 3 from rfl, pk_mul], nI_shr hd (by omega), rem_lit (shr_lt hd) (by decide) (by decide), ← hvb, e2, Option.bind_some]
    dsimp only
    rw [if_pos rfl, nI_1]
  · exact h30
  · show sup (sup (A 3) 1 i va) 2 i vb 1 p = 0
    rw [sup_n (by omega), sup_n (by omega)]
    exact (h3 p (by omega)).1
  · show sup (sup (A 3) 1 i va) 2 i vb 2 p = 0
    rw [sup_n (by omega), sup_n (by omega)]
    exact (h3 p (by omega)).2
theorem J1085_eq {xs : Nat → Int32} {len : Nat} (hl : len ≤ 260) {A : AST} {P n : Nat} {w : ZW} (h : Q5 A P n 0 w) (hP : P ≤ 4) : ∃ B w', Q5 B P n P w' ∧ f_law2_J1085 xs len (nI n) 1 (nI P) w = f_law2_J1161 xs len (nI n) 1 w' := by
  have lp : ∃ r, z_iter (f_law2_L1088 (nI P) xs len) z_fuel ((1 : Int32), (0 : Int32), w) = some r ∧ ∃ B w', r = ((1 : Int32), w') ∧ Q5 B P n P w' := by
    refine it_inv (fun k s => ∃ A w, s = ((1 : Int32), nI k, w) ∧ Q5 A P n k w) _ P (fun k s hk hs => ?_) (fun s hs => ?_) (zf (by omega)) ⟨A, w, rfl, h⟩
    · obtain ⟨A, w, rfl, hq⟩ := hs
      left
      obtain ⟨A', w', e, q, -⟩ := risk_step (xs := xs) hl hq hk hP
      exact ⟨_, e, A', w', rfl, q⟩
    · obtain ⟨A, w, rfl, hq⟩ := hs
      refine ⟨(1, w), ?_, A, w, rfl, hq⟩
      unfold f_law2_L1088
      dsimp only
      rw [if_pos (Int32.le_refl _)]
  obtain ⟨r, e, B, w', rfl, q⟩ := lp
  refine ⟨B, w', q, ?_⟩
  unfold f_law2_J1085
  rw [e, Option.bind_some]
theorem or_stC {A : AST} {w w' : ZW} (h : StC A w.1 w.2) (f : ∀ b j, ¬ ((b = 20 ∧ j = 8) ∨ (25 ≤ b ∧ b ≤ 52)) → w'.1 b j = w.1 b j) (g : w'.2 = w.2) : StC A w'.1 w'.2 := fr_K (fun a j q => f a j (by unfold kC at q; omega)) (fun a j _ => by rw [g]) h
theorem J1161_eq {xs : Nat → Int32} {len : Nat} {A : AST} {P n : Nat} {w : ZW} (h : Q5 A P n P w) (hP : 1 ≤ P ∧ P ≤ 4) : ∃ B w', StI B ∧ StC B w'.1 w'.2 ∧ B 0 0 1 = n + 1 ∧ f_law2_J1161 xs len (nI n) 1 w = f_law2_J1256 xs len (nI n) 1 w' := by
  obtain ⟨hI, hC, h00, h01, h30, h3⟩ := h
  obtain ⟨M, hM⟩ : ∃ M, M = 1000000 := ⟨_, rfl⟩
  obtain ⟨all, ha⟩ : ∃ all, all + 1 = 2 ^ A 0 0 0 := ⟨2 ^ A 0 0 0 - 1, by have : 0 < 2 ^ A 0 0 0 := Nat.pow_pos (by omega); omega⟩
  obtain ⟨e1, i1, c1⟩ := K_nightly (n := 1) hI hC (by omega) (by omega)
  obtain ⟨w2, e2, f2, l2⟩ := K_order i1 c1 (by show A 0 0 0 ≠ 0; omega) hM ha
  have c2 := or_stC c1 f2 l2
  obtain ⟨e3, i3, c3⟩ := K_nightly (n := 2) i1 c2 (by omega) (by omega)
  obtain ⟨w4, e4, f4, l4⟩ := K_order i3 c3 (by show A 0 0 0 ≠ 0; omega) hM ha
  have c4 := or_stC c3 f4 l4
  obtain ⟨w5, e5, f5, l5⟩ := K_order i3 c4 (by show A 0 0 0 ≠ 0; omega) hM ha
  have c5 := or_stC c4 f5 l5
  obtain ⟨e6, i6', c6⟩ := K_nightly (n := 3) i3 c5 (by omega) (by omega)
  obtain ⟨w7, e7, f7, l7⟩ := K_order i6' c6 (by show A 0 0 0 ≠ 0; omega) hM ha
  have c7 := or_stC c6 f7 l7
  generalize hS1 : aup A 3 (sup (A 3) 0 0 1) = A1 at *
  generalize hS2 : aup A1 3 (sup (A1 3) 0 0 2) = A2 at *
  generalize hS3 : aup A2 3 (sup (A2 3) 0 0 3) = A3 at *
  have s1 : A1 3 = sup (A 3) 0 0 1 := by rw [← hS1]; rfl
  have s2 : A2 3 = sup (A1 3) 0 0 2 := by rw [← hS2]; rfl
  have s3 : A3 3 = sup (A2 3) 0 0 3 := by rw [← hS3]; rfl
  have v1 : A1 3 0 0 = 1 := by rw [s1]; exact sup_e
  have v2 : A2 3 0 0 = 2 := by rw [s2]; exact sup_e
  have v3 : A3 3 0 0 = 3 := by rw [s3]; exact sup_e
  have b1 := ob_B (S := A1 3) (B := M) 12 all
  have b2 := ob_B (S := A2 3) (B := M) 12 all
  have b3 := ob_B (S := A3 3) (B := M) 12 all
  have m1 := ob_C (S := A1 3) (S' := A2 3) (M := M) (fun p => by rw [s2, sup_n (by omega)]) (fun p => by rw [s2, sup_n (by omega)]) (fun p => by rw [s2, sup_n (by omega)]) (by omega) 12 all
  have m2 := ob_C (S := A2 3) (S' := A3 3) (M := M) (fun p => by rw [s3, sup_n (by omega)]) (fun p => by rw [s3, sup_n (by omega)]) (fun p => by rw [s3, sup_n (by omega)]) (by omega) 12 all
  rw [h30] at e1
  rw [v1] at e3
  rw [v2] at e6
  have e1 : f_X11_nightly w 1 = some (2, z_upI w 20 0 (nI 1)) := e1
  have e3 : f_X11_nightly w2 2 = some (1, z_upI w2 20 0 (nI 2)) := e3
  have e6 : f_X11_nightly w5 3 = some (2, z_upI w5 20 0 (nI 3)) := e6
  have t1 : ¬ nI (ob (A1 3) M 12 all) < nI (ob (A2 3) M 12 all) := fun z => by have := (nI_ltI (by omega) (by omega)).mp z; omega
  have t2 : ¬ nI (ob (A2 3) M 12 all) < nI (ob (A3 3) M 12 all) := fun z => by have := (nI_ltI (by omega) (by omega)).mp z; omega
  refine ⟨A3, w7, i6', c7, ?_, ?_⟩
  · rw [← hS3, ← hS2, ← hS1]
    exact h01
  · unfold f_law2_J1161
    rw [if_neg i10, e1, Option.bind_some]
    dsimp only
    rw [if_pos rfl]
    unfold f_law2_J1180
    rw [e2, Option.bind_some, if_neg i10]
    dsimp only
    rw [e3, Option.bind_some]
    dsimp only
    rw [if_pos rfl, e4, Option.bind_some]
    dsimp only
    rw [if_neg t1]
    unfold f_law2_J1218
    rw [e5, Option.bind_some, if_neg i10]
    dsimp only
    rw [e6, Option.bind_some]
    dsimp only
    rw [if_pos rfl, e7, Option.bind_some]
    dsimp only
    rw [if_neg t2]
