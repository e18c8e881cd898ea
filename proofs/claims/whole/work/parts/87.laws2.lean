/-! laws: class, both loops -/
theorem outer11 {S : ST} {w : ZW} (hI : GrowI S) (hC : GrowC S w.1) {m : Nat} (hm : m ≤ 2) : ∃ res, z_iter (f_X0_lawsThatFit_L4 (nI m)) z_fuel ((0 : Int32), (0 : Int32), w) = some res ∧ ((∃ w', res = .inr (nI (lc S 210), w') ∧ gfr w w' ∧ (m ≠ 0 → lc S 210 = 0)) ∨ (∃ n w', n < 210 ∧ res = .inl (if m = 1 then nI (n / 10) else nI (n % 10), w') ∧ m ≠ 0 ∧ fl S n = true ∧ lc S n = 0 ∧ gfr w w')) := by
  refine it_inv (fun a (s : Int32 × Int32 × ZW) => s.1 = nI (lc S (10 * a)) ∧ s.2.1 = nI a ∧ gfr w s.2.2 ∧ (m ≠ 0 → lc S (10 * a) = 0)) _ 21 (fun a s ha hP => ?_) (fun s hP => ?_) (zf (by omega)) ⟨rfl, rfl, ⟨fun _ _ _ => rfl, rfl⟩, fun _ => rfl⟩
  · obtain ⟨p1, p2, p3, p4⟩ := hP
    obtain ⟨x, y, u⟩ := s
    dsimp only at p1 p2 p3
    subst p1 p2
    obtain ⟨res, e, h⟩ := inner11 hI hC (show a ≤ 20 by omega) hm (nI (lc S (10 * a)), nI a, u) rfl p3 p4
    have hL : f_X0_lawsThatFit_L4 (nI m) (nI (lc S (10 * a)), nI a, u) = (some res).bind (Sum.elim (fun x : Int32 × ZW => some (.inr (.inl x))) (fun q4 : Int32 × ZW => some (.inl (q4.1, nI (a + 1), q4.2)))) := by
      unfold f_X0_lawsThatFit_L4
      dsimp only
      rw [show (20 : Int32) = nI 20 from rfl, ilt (by omega) (by omega), if_neg (by omega), e, nI_1]
    rw [hL]
    rcases h with ⟨w', rfl, h2, h3⟩ | ⟨b, w', h1, rfl, h3, h4, h5, h6⟩
    · exact Or.inl ⟨_, rfl, by rw [show 10 * (a + 1) = 10 * a + 10 by omega], rfl, h2, fun h => by rw [show 10 * (a + 1) = 10 * a + 10 by omega]; exact h3 h⟩
    · refine Or.inr ⟨_, rfl, Or.inr ⟨10 * a + b, w', by omega, ?_, h3, h4, h5, h6⟩⟩
      rw [show (10 * a + b) / 10 = a by omega, show (10 * a + b) % 10 = b by omega]
  · obtain ⟨p1, p2, p3, p4⟩ := hP
    obtain ⟨x, y, u⟩ := s
    dsimp only at p1 p2 p3
    subst p1 p2
    refine ⟨.inr (nI (lc S 210), u), ?_, Or.inl ⟨u, rfl, p3, p4⟩⟩
    unfold f_X0_lawsThatFit_L4
    dsimp only
    rw [show (20 : Int32) = nI 20 from rfl, ilt (by omega) (by omega), if_pos (by omega)]
