/-! grown -/
theorem hol_s {n : Nat} : hol (n + 1) = nI n := by rw [hol_p (Nat.succ_ne_zero n), Nat.succ_eq_add_one, Nat.add_sub_cancel]
def nb (m b e : Nat) : Nat := if b = 0 then e + 1 else if m = 0 then (if b - 1 ≤ e then b else e + 1) else (if e ≤ b - 1 then b else e + 1)
def gend (S : ST) (k m n : Nat) : Nat := gw (n / 10) (n % 10) k (if m = 0 then (cf S (n / 10) (n % 10) 11).1 else (cf S (n / 10) (n % 10) 11).2 - 1)
def bg (S : ST) (k m : Nat) : Nat → Nat
  | 0 => 0
  | n + 1 => if fl S n = true then nb m (bg S k m n) (gend S k m n) else bg S k m n
theorem bg_s {S : ST} {k m n : Nat} : bg S k m (n + 1) = if fl S n = true then nb m (bg S k m n) (gend S k m n) else bg S k m n := rfl
theorem gend_x {S : ST} (hI : GrowI S) (m n : Nat) : (if m = 0 then (cf S (n / 10) (n % 10) 11).1 else (cf S (n / 10) (n % 10) 11).2 - 1) ≤ 10000 := by
  obtain ⟨b1, b2, b3⟩ := cf_le hI (n / 10) (n % 10) 11 (by omega)
  have b3 := b3 rfl
  split <;> omega
theorem gend_le {S : ST} (hI : GrowI S) {k m n : Nat} (hk : k ≤ 11) (hn : n < 210) : gend S k m n ≤ 1000000 :=
  gw_le (by omega) (by omega) (gend_x hI m n) k hk
theorem bg_le {S : ST} (hI : GrowI S) {k m : Nat} (hk : k ≤ 11) : ∀ n, n ≤ 210 → bg S k m n ≤ 1000001
  | 0, _ => Nat.zero_le _
  | n + 1, hn => by
    have h1 := bg_le hI (m := m) hk n (by omega)
    have h2 := gend_le hI (m := m) hk (show n < 210 by omega)
    rw [bg_s]
    unfold nb
    split
    · split
      · omega
      · split <;> split <;> omega
    · exact h1
theorem j49 {s1 : Int32 × Int32 × ZW} {a b k m bb x : Nat} {u : ZW} (hs : s1.2.1 = nI a) (ha : a ≤ 20) (hb : b ≤ 9) (hk : k ≤ 11) (hm : m ≤ 1) (hx : x ≤ 10000) (hbb : bb ≤ 1000001) : f_X0_farthest_J49 s1 (nI k) (nI m) (hol bb) (nI b) (nI x) u = some (.inl (hol (nb m bb (gw a b k x)), nI (b + 1), u)) := by
  have gl := gw_le ha hb hx k hk
  unfold f_X0_farthest_J49
  rw [hs, grow11 ha hb hx hk, Option.bind_some, nI_1]
  unfold nb
  by_cases y : bb = 0
  · rw [y, hol_0, if_pos rfl, if_pos rfl, hol_s]
  · have ne : ¬ nI (bb - 1) = -4 := fun h => by
      have := nI_pos (show bb - 1 < 2 ^ 31 by omega)
      rw [h] at this
      exact this (by decide)
    rw [hol_p y, if_neg ne, if_neg y]
    by_cases z : m = 0
    · rw [if_pos (by rw [z]; rfl), if_pos z, ile (by omega) (by omega)]
      by_cases t : bb - 1 ≤ gw a b k x
      · rw [if_pos t, if_pos t, hol_p y]
      · rw [if_neg t, if_neg t, hol_s]
    · rw [if_neg (nI_nz z (by omega)), if_neg z, ile (by omega) (by omega)]
      by_cases t : gw a b k x ≤ bb - 1
      · rw [if_pos t, if_pos t, hol_p y]
      · rw [if_neg t, if_neg t, hol_s]
theorem j72 {n k m bb x : Nat} {u : ZW} (hn : n < 210) (hk : k ≤ 11) (hm : m ≤ 1) (hx : x ≤ 10000) (hbb : bb ≤ 1000001) : f_X12_grown_J72 (nI k) (nI m) (hol bb) (nI n) (nI x) u = some (.inl (hol (nb m bb (gw (n / 10) (n % 10) k x)), nI (n + 1), u)) := by
  have gl := gw_le (a := n / 10) (b := n % 10) (by omega) (by omega) hx k hk
  unfold f_X12_grown_J72
  rw [show (10 : Int32) = nI 10 from rfl, pk_rem (by omega) (by omega) (by omega), pk_div (by omega) (by omega) (by omega), grow12 (by omega) (by omega) hx hk, Option.bind_some, nI_1]
  unfold nb
  by_cases y : bb = 0
  · rw [if_pos ((hol_neg (by omega)).mpr y), if_pos y, hol_s]
  · rw [if_neg (fun h => y ((hol_neg (by omega)).mp h)), hol_p y, if_neg y]
    by_cases z : m = 0
    · rw [if_pos (by rw [z]; rfl), if_pos z, ile (by omega) (by omega)]
      by_cases t : bb - 1 ≤ gw (n / 10) (n % 10) k x
      · rw [if_pos t, if_pos t, hol_p y]
      · rw [if_neg t, if_neg t, hol_s]
    · rw [if_neg (nI_nz z (by omega)), if_neg z, ile (by omega) (by omega)]
      by_cases t : gw (n / 10) (n % 10) k x ≤ bb - 1
      · rw [if_pos t, if_pos t, hol_p y]
      · rw [if_neg t, if_neg t, hol_s]
theorem bg_t {S : ST} {k m a b lo H : Nat} (hb : b ≤ 9) (h1 : (cf S a b 11).1 = lo) (h2 : (cf S a b 11).2 = H) (q : lo < H) : bg S k m (10 * a + b + 1) = nb m (bg S k m (10 * a + b)) (gw a b k (if m = 0 then lo else H - 1)) := by
  have e1 : (10 * a + b) / 10 = a := by omega
  have e2 : (10 * a + b) % 10 = b := by omega
  rw [bg_s]
  unfold fl gend
  rw [e1, e2, h1, h2, if_pos (decide_eq_true q)]
theorem bg_f {S : ST} {k m a b lo H : Nat} (hb : b ≤ 9) (h1 : (cf S a b 11).1 = lo) (h2 : (cf S a b 11).2 = H) (q : ¬ lo < H) : bg S k m (10 * a + b + 1) = bg S k m (10 * a + b) := by
  have e1 : (10 * a + b) / 10 = a := by omega
  have e2 : (10 * a + b) % 10 = b := by omega
  rw [bg_s]
  unfold fl gend
  rw [e1, e2, h1, h2, if_neg (fun h => q (of_decide_eq_true h))]
theorem fits11' {S : ST} {w : ZW} (hI : GrowI S) (hC : GrowC S w.1) {a b : Nat} (ha : a ≤ 20) (hb : b ≤ 9) : ∃ lo H, (cf S a b 11).1 = lo ∧ (cf S a b 11).2 = H ∧ lo ≤ 9999 ∧ H ≤ 10000 ∧ f_X0_fits w (nI a) (nI b) = some (if lo < H then 1 else 0, z_upI (z_upI w 53 2 (nI lo)) 53 3 (mb H)) := by
  obtain ⟨c1, c2, c3⟩ := cf_le hI a b 11 (Nat.le_refl _)
  exact ⟨_, _, rfl, rfl, c1, c3 rfl, fits11 hI hC ha hb⟩
theorem L16_n {S : ST} {w u : ZW} (hI : GrowI S) (hC : GrowC S w.1) {a b k m : Nat} (ha : a ≤ 20) (hb : b < 10) (hk : k ≤ 11) (hm : m ≤ 1) {s1 : Int32 × Int32 × ZW} (hs1 : s1.2.1 = nI a) (hu : gfr w u) : ∃ u', f_X0_farthest_L16 s1 (nI m) (nI k) (hol (bg S k m (10 * a + b)), nI b, u) = some (.inl (hol (bg S k m (10 * a + b + 1)), nI (b + 1), u')) ∧ gfr w u' := by
  obtain ⟨lo, H, c1, c2, c3, c4, ef⟩ := fits11' (w := u) hI (gfr_C hu hC) ha (show b ≤ 9 by omega)
  have bT := bg_t (k := k) (m := m) (show b ≤ 9 by omega) c1 c2
  have bF := bg_f (k := k) (m := m) (show b ≤ 9 by omega) c1 c2
  clear c1 c2
  have bl := bg_le hI (m := m) hk (10 * a + b) (by omega)
  refine ⟨z_upI (z_upI u 53 2 (nI lo)) 53 3 (mb H), ?_, gfr_s hu _ _⟩
  generalize hB : bg S k m (10 * a + b + 1) = B at bT bF ⊢
  clear hB
  generalize hB : bg S k m (10 * a + b) = B0 at bT bF bl ⊢
  clear hB
  generalize hB : gw a b k = G at bT bF
  unfold f_X0_farthest_L16
  dsimp only
  rw [show (9 : Int32) = nI 9 from rfl, if_neg (show ¬ nI 9 < nI b from fun h => by have := (nI_ltI (by omega) (by omega)).mp h; omega), hs1, ef, Option.bind_some, nI_1]
  by_cases q : lo < H
  · have bT := bT q
    clear bF
    rw [if_pos q, if_neg i10, upc (show ¬ (53 = 53 ∧ 2 = 3) by omega), upc_e, upc_e]
    by_cases z : m = 0
    · rw [if_pos z] at bT
      rw [if_pos (by rw [z]; rfl), j49 hs1 ha (show b ≤ 9 by omega) hk hm (show lo ≤ 10000 by omega) bl, hB, bT]
    · rw [if_neg z] at bT
      rw [if_neg (nI_nz z (by omega)), show mb H = nI (H - 1) from if_neg (by omega), j49 hs1 ha (show b ≤ 9 by omega) hk hm (show H - 1 ≤ 10000 by omega) bl, hB, bT]
  · rw [if_neg q, if_pos rfl, bF q]
theorem innerG {S : ST} {w : ZW} (hI : GrowI S) (hC : GrowC S w.1) {a k m : Nat} (ha : a ≤ 20) (hk : k ≤ 11) (hm : m ≤ 1) (s1 : Int32 × Int32 × ZW) (hs1 : s1.2.1 = nI a) {w0 : ZW} (hw : gfr w w0) : ∃ r, z_iter (f_X0_farthest_L16 s1 (nI m) (nI k)) z_fuel (hol (bg S k m (10 * a)), (0 : Int32), w0) = some r ∧ ∃ w', r = (hol (bg S k m (10 * a + 10)), w') ∧ gfr w w' := by
  have st := fun b u (hb : b < 10) (hu : gfr w u) => L16_n hI hC ha hb hk hm hs1 hu
  generalize bg S k m = g at st ⊢
  refine it_inv (fun b (s : Int32 × Int32 × ZW) => s.1 = hol (g (10 * a + b)) ∧ s.2.1 = nI b ∧ gfr w s.2.2) _ 10 (fun b s hb hP => ?_) (fun s hP => ?_) (zf (by omega)) ⟨rfl, rfl, hw⟩
  · obtain ⟨p1, p2, p3⟩ := hP
    obtain ⟨x, y, u⟩ := s
    dsimp only at p1 p2 p3
    obtain ⟨u', e, f⟩ := st b u hb p3
    rw [p1, p2]
    exact Or.inl ⟨_, e, rfl, rfl, f⟩
  · obtain ⟨p1, p2, p3⟩ := hP
    obtain ⟨x, y, u⟩ := s
    dsimp only at p1 p2 p3
    rw [p1, p2]
    refine ⟨_, ?_, u, rfl, p3⟩
    unfold f_X0_farthest_L16
    dsimp only
    rw [if_pos (show (9 : Int32) < nI 10 by decide)]
theorem grown11 {S : ST} {w : ZW} (hI : GrowI S) (hC : GrowC S w.1) {k m n0 : Nat} (hk : k ≤ 11) (hm : m ≤ 1) (hn : n0 = 21) : ∃ w', f_X0_farthest w (nI k) (nI m) = some (hol (bg S k m (10 * n0)), w') ∧ gfr w w' := by
  have key : ∃ r, z_iter (f_X0_farthest_L6 (nI m) (nI k)) z_fuel ((-4 : Int32), (0 : Int32), w) = some r ∧ ∃ w', r = (hol (bg S k m (10 * n0)), w') ∧ gfr w w' := by
    have st := fun a w0 s1 (ha : a ≤ 20) (hs1 : s1.2.1 = nI a) (hw : gfr w w0) => innerG hI hC ha hk hm s1 hs1 hw
    have g0 : bg S k m 0 = 0 := rfl
    generalize bg S k m = g at st g0 ⊢
    refine it_inv (fun a (s : Int32 × Int32 × ZW) => s.1 = hol (g (10 * a)) ∧ s.2.1 = nI a ∧ gfr w s.2.2) _ n0 (fun a s ha hP => ?_) (fun s hP => ?_) (zf (by omega)) ⟨by rw [Nat.mul_zero, g0]; rfl, rfl, ⟨fun _ _ _ => rfl, rfl⟩⟩
    · obtain ⟨p1, p2, p3⟩ := hP
      obtain ⟨x, y, u⟩ := s
      dsimp only at p1 p2 p3
      left
      rw [p1, p2]
      clear p1 p2
      obtain ⟨r, e, w', h1, h2⟩ := st a u (hol (g (10 * a)), nI a, u) (by omega) rfl p3
      have e10 : 10 * (a + 1) = 10 * a + 10 := by omega
      refine ⟨(hol (g (10 * (a + 1))), nI (a + 1), w'), ?_, rfl, rfl, h2⟩
      rw [e10]
      unfold f_X0_farthest_L6
      dsimp only
      rw [if_neg (show ¬ (20 : Int32) < nI a from fun h => by have := (nI_ltI (a := 20) (by omega) (by omega)).mp h; omega), e, h1, nI_1]
      rfl
    · obtain ⟨p1, p2, p3⟩ := hP
      obtain ⟨x, y, u⟩ := s
      dsimp only at p1 p2 p3
      rw [p1, p2]
      clear p1 p2
      refine ⟨_, ?_, u, rfl, p3⟩
      unfold f_X0_farthest_L6
      dsimp only
      rw [if_pos (show (20 : Int32) < nI n0 by rw [hn]; decide)]
  generalize bg S k m = g at key ⊢
  obtain ⟨r, e, w', h1, h2⟩ := key
  refine ⟨w', ?_, h2⟩
  unfold f_X0_farthest
  rw [e, h1]
  rfl
theorem law_n {S : ST} {u : ZW} (hI : GrowI S) (hM : GrowM S u.1) {n : Nat} (hn : n < 210) (k m : Nat) : ∃ u' lo H, f_X12_isLaw u (nI (n / 10)) (nI (n % 10)) = some (if lo < H then 1 else 0, u') ∧ lfr u u' ∧ lo ≤ 10000 ∧ H ≤ 10000 ∧ u'.1 130 32 = nI lo ∧ u'.1 130 33 = mb H ∧ (lo < H → bg S k m (n + 1) = nb m (bg S k m n) (gw (n / 10) (n % 10) k (if m = 0 then lo else H - 1))) ∧ (¬ lo < H → bg S k m (n + 1) = bg S k m n) := by
  have n1 : n / 10 ≤ 20 := by omega
  have n2 : n % 10 ≤ 9 := by omega
  have n3 : 10 * (n / 10) + n % 10 = n := by omega
  obtain ⟨u', lo, H, l1, l2, l3, l4, l5, l6, l7, l8⟩ := law_eq (S := S) (w := u) hI hM n1 n2
  obtain ⟨lb, lc⟩ := law_both hI n1 n2 l4 l5 l8
  refine ⟨u', lo, H, l1, ⟨l2, l3⟩, l4, l5, l6, l7, fun q => ?_, fun q => ?_⟩
  · have := bg_t (k := k) (m := m) n2 (lc q).1 (lc q).2 q
    rw [n3] at this
    exact this
  · have := bg_f (k := k) (m := m) n2 rfl rfl (fun h => q (lb.mp h))
    rw [n3] at this
    exact this
theorem stepG {S : ST} {u : ZW} (hI : GrowI S) (hM : GrowM S u.1) {n k m : Nat} (hn : n < 210) (hk : k ≤ 11) (hm : m ≤ 1) : ∃ u', f_X12_grown_L32 (nI m) (nI k) (hol (bg S k m n), nI n, u) = some (.inl (hol (bg S k m (n + 1)), nI (n + 1), u')) ∧ lfr u u' := by
  have bl := bg_le hI (m := m) hk n (by omega)
  obtain ⟨u', lo, H, l1, l2, l4, l5, l6, l7, bT, bF⟩ := law_n hI hM hn k m
  refine ⟨u', ?_, l2⟩
  generalize hB : bg S k m (n + 1) = B at bT bF ⊢
  clear hB
  generalize hB : bg S k m n = B0 at bT bF bl ⊢
  clear hB
  generalize hB : gw (n / 10) (n % 10) k = G at bT bF
  unfold f_X12_grown_L32
  dsimp only
  rw [show (210 : Int32) = nI 210 from rfl, if_neg (nnle hn), show (10 : Int32) = nI 10 from rfl, pk_rem (by omega) (by omega) (by omega), pk_div (by omega) (by omega) (by omega), l1, Option.bind_some]
  dsimp only
  rw [l6, l7]
  by_cases q : lo < H
  · have bT := bT q
    clear bF
    rw [if_pos q, if_neg i10, show mb H = nI (H - 1) from if_neg (by omega)]
    by_cases z : m = 0
    · rw [if_pos z] at bT
      rw [if_pos (by rw [z]; rfl), j72 hn hk hm (show lo ≤ 10000 by omega) bl, hB, bT]
    · rw [if_neg z] at bT
      rw [if_neg (nI_nz z (by omega)), j72 hn hk hm (show H - 1 ≤ 10000 by omega) bl, hB, bT]
  · rw [if_neg q, if_pos rfl, bF q, nI_1]
theorem grown12 {S : ST} {w : ZW} (hI : GrowI S) (hM : GrowM S w.1) {k m n0 : Nat} (hk : k ≤ 11) (hm : m ≤ 1) (hn : n0 = 210) : ∃ w', z_iter (f_X12_grown_L32 (nI m) (nI k)) z_fuel ((-4 : Int32), (0 : Int32), w) = some (hol (bg S k m n0), w') ∧ lfr w w' := by
  have key : ∃ r, z_iter (f_X12_grown_L32 (nI m) (nI k)) z_fuel ((-4 : Int32), (0 : Int32), w) = some r ∧ ∃ w', r = (hol (bg S k m n0), w') ∧ lfr w w' := by
    have st := fun n (u : ZW) (hM : GrowM S u.1) (hn : n < 210) => stepG hI hM hn hk hm
    have g0 : bg S k m 0 = 0 := rfl
    generalize bg S k m = g at st g0 ⊢
    refine it_inv (fun i (s : Int32 × Int32 × ZW) => s.1 = hol (g i) ∧ s.2.1 = nI i ∧ lfr w s.2.2) _ n0 (fun i s hi hP => ?_) (fun s hP => ?_) (zf (by omega)) ⟨by rw [g0]; rfl, rfl, ⟨fun _ _ _ => rfl, rfl⟩⟩
    · obtain ⟨p1, p2, p3⟩ := hP
      obtain ⟨x, y, u⟩ := s
      dsimp only at p1 p2 p3
      rw [p1, p2]
      clear p1 p2
      left
      obtain ⟨u', e, f⟩ := st i u (fr_GM (fun a j q => p3.1 a j (by unfold cGM at q; omega)) hM) (by omega)
      exact ⟨_, e, rfl, rfl, fun c j q => (f.1 c j q).trans (p3.1 c j q), f.2.trans p3.2⟩
    · obtain ⟨p1, p2, p3⟩ := hP
      obtain ⟨x, y, u⟩ := s
      dsimp only at p1 p2 p3
      rw [p1, p2]
      clear p1 p2
      refine ⟨_, ?_, u, rfl, p3⟩
      unfold f_X12_grown_L32
      dsimp only
      rw [if_pos (show (210 : Int32) ≤ nI n0 by rw [hn]; decide)]
  obtain ⟨r, e, w', h1, h2⟩ := key
  exact ⟨w', by rw [e, h1], h2⟩
theorem sim_grown {w : ZW} (h : Rel w) (a b : Int32) : ∃ r w1 w2, f_X11_grown w a b = some (r, w1) ∧ f_X12_grown w1 a b = some (r, w2) ∧ Rel w2 := by
  have h0 := h
  obtain ⟨A, hA⟩ := h
  obtain ⟨hI, hC, hM, -⟩ := id hA
  by_cases g : rg 0 11 a = true
  · by_cases g2 : rg 0 1 b = true
    · obtain ⟨k, hk, rfl⟩ := rg_0 g (by decide)
      obtain ⟨m, hm, rfl⟩ := rg_0 g2 (by decide)
      obtain ⟨n0, hn⟩ : ∃ n0, n0 = 21 := ⟨_, rfl⟩
      obtain ⟨w1, e1, f1⟩ := grown11 hI.2.2.2.2 hC.2.2.2.2 hk hm hn
      have hM1 : GrowM (A 4) w1.1 := fr_GM (fun a j q => f1.1 a j (by unfold cGM at q; omega)) hM.2.2.2.2
      obtain ⟨w2, e2, f2⟩ := grown12 (n0 := 10 * n0) hI.2.2.2.2 hM1 hk hm (by omega)
      generalize bg (A 4) k m = gg at e1 e2
      refine ⟨(hol (gg (10 * n0))).toInt64, w1, w2, ?_, ?_, A, fr_X (fun a j q => ?_) (fun a j q => ?_) hA⟩
      · unfold f_X11_grown
        rw [within_rg, Option.bind_some, if10, if_pos g, within_rg, Option.bind_some, if10, if_pos g2, e1]
        rfl
      · unfold f_X12_grown
        rw [in_rg _ _ _ (by decide) (by decide), Option.bind_some, if10, if_pos g, in_rg _ _ _ (by decide) (by decide), Option.bind_some, if10, if_pos g2, e2]
        rfl
      · rw [f2.1 a j (fun z => q (by unfold cX; omega)), f1.1 a j (fun z => q (by unfold cX; omega))]
      · rw [f2.2, f1.2]
    · refine ⟨-1, w, w, ?_, ?_, h0⟩
      · unfold f_X11_grown
        rw [within_rg, Option.bind_some, if10, if_pos g, within_rg, Option.bind_some, if10, if_neg g2]
      · unfold f_X12_grown
        rw [in_rg _ _ _ (by decide) (by decide), Option.bind_some, if10, if_pos g, in_rg _ _ _ (by decide) (by decide), Option.bind_some, if10, if_neg g2]
  · refine ⟨-1, w, w, ?_, ?_, h0⟩
    · unfold f_X11_grown
      rw [within_rg, Option.bind_some, if10, if_neg g]
    · unfold f_X12_grown
      rw [in_rg _ _ _ (by decide) (by decide), Option.bind_some, if10, if_neg g]
