/-! photo, truck, span, safe -/
theorem sg_cong {S S' : ST} {p : Nat} : ∀ k, (∀ i, i < k → S' 1 i = S 1 i ∧ S' 2 i = S 2 i ∧ S' 3 i = S 3 i) → sgC S' p k = sgC S p k ∧ sgLo S' p k = sgLo S p k ∧ sgHi S' p k = sgHi S p k
  | 0, _ => ⟨rfl, rfl, rfl⟩
  | k + 1, h => by
    obtain ⟨h1, h2, h3⟩ := sg_cong (p := p) k (fun i hi => h i (by omega))
    obtain ⟨g1, g2, g3⟩ := h k (by omega)
    unfold sgC sgLo sgHi
    rw [h1, h2, h3, g1, g2, g3]
    exact ⟨rfl, rfl, rfl⟩
theorem sgC_le {S : ST} {p : Nat} : ∀ k, sgC S p k ≤ k
  | 0 => Nat.le_refl _
  | k + 1 => by
    have := sgC_le (S := S) (p := p) k
    unfold sgC
    split <;> omega
theorem sg_bd {S : ST} {P p : Nat} (h : SightI P S) : ∀ k, k ≤ S 0 0 → sgLo S p k ≤ 99999 ∧ sgHi S p k ≤ 109998
  | 0, _ => ⟨by unfold sgLo; omega, by unfold sgHi; omega⟩
  | k + 1, hk => by
    obtain ⟨h1, h2⟩ := sg_bd (p := p) h k (by omega)
    obtain ⟨-, h3, h4⟩ := h.2 k (by omega)
    unfold sgLo sgHi
    constructor
    · split
      · split <;> omega
      · omega
    · split
      · split <;> omega
      · omega
theorem sg_0 {S : ST} {p : Nat} : ∀ k, sgC S p k = 0 → sgLo S p k = 0 ∧ sgHi S p k = 99999
  | 0, _ => ⟨rfl, rfl⟩
  | k + 1, h => by
    unfold sgC at h
    obtain ⟨h1, h2⟩ := sg_0 (p := p) (S := S) k (by omega)
    have : ¬ S 1 k = p := fun q => by rw [if_pos q] at h; omega
    unfold sgLo sgHi
    rw [if_neg this, if_neg this]
    exact ⟨h1, h2⟩
def sgR (S : ST) (K p lo hi : Nat) : ST := sup (sup (sup (sup S 1 K p) 2 K lo) 3 K hi) 0 0 (K + 1)
theorem sgR_k {S : ST} {K p lo hi : Nat} : sgR S K p lo hi 1 K = p ∧ sgR S K p lo hi 2 K = lo ∧ sgR S K p lo hi 3 K = hi ∧ sgR S K p lo hi 0 0 = K + 1 := by
  unfold sgR sup
  simp
theorem sgR_i {S : ST} {K p lo hi i : Nat} (h : i ≠ K) : sgR S K p lo hi 1 i = S 1 i ∧ sgR S K p lo hi 2 i = S 2 i ∧ sgR S K p lo hi 3 i = S 3 i := by
  unfold sgR sup
  simp [h]
def sgW (w : ZW) (S : ST) (K p : Nat) : ZW := z_upI (z_upI (z_upI (z_upI w 14 p (nI (sgLo S p (K + 1)))) 15 p (nI (sgHi S p (K + 1)))) 13 p (nI (sgC S p (K + 1)))) 12 0 (nI (K + 1))
theorem X8_add_eq {S : ST} {P K : Nat} {w : ZW} (hI : SightI P S) (hC : SightC S w.1) (hK : S 0 0 = K) {p lo hi : Nat} (hp : p < 6) (hl : lo ≤ 99999) (hh : hi ≤ 109998) : f_X8_add w (nI p) (nI lo) (nI hi) = if K < 12 then some (nI (K + 1), sgW w (sgR S K p lo hi) K p) else some (-3, w) := by
  subst hK
  obtain ⟨c1, c2⟩ := hC
  obtain ⟨c3, c4⟩ := c2 p hp
  have hK := hI.1
  obtain ⟨b1, b2⟩ := sg_bd (p := p) hI _ (Nat.le_refl _)
  have b3 := sgC_le (S := S) (p := p) (S 0 0)
  obtain ⟨e1, e2, e3⟩ := sg_cong (p := p) (S := S) (S' := sgR S (S 0 0) p lo hi) (S 0 0) (fun i hi => sgR_i (by omega))
  obtain ⟨k1, k2, k3, -⟩ := sgR_k (S := S) (K := S 0 0) (p := p) (lo := lo) (hi := hi)
  unfold f_X8_add
  rw [c1, show (12 : Int32) = nI 12 from rfl, ilt (by omega) (by omega)]
  by_cases q : S 0 0 < 12
  · rw [if_pos q, if_pos q]
    have f1 : sgLo (sgR S (S 0 0) p lo hi) p (S 0 0 + 1) = if sgLo S p (S 0 0) < lo then lo else sgLo S p (S 0 0) := by
      show (if sgR S (S 0 0) p lo hi 1 (S 0 0) = p then (if sgLo (sgR S (S 0 0) p lo hi) p (S 0 0) < sgR S (S 0 0) p lo hi 2 (S 0 0) then sgR S (S 0 0) p lo hi 2 (S 0 0) else sgLo (sgR S (S 0 0) p lo hi) p (S 0 0)) else sgLo (sgR S (S 0 0) p lo hi) p (S 0 0)) = _
      rw [k1, if_pos rfl, k2, e2]
    have f2 : sgHi (sgR S (S 0 0) p lo hi) p (S 0 0 + 1) = if sgC S p (S 0 0) = 0 ∨ hi < sgHi S p (S 0 0) then hi else sgHi S p (S 0 0) := by
      show (if sgR S (S 0 0) p lo hi 1 (S 0 0) = p then (if sgC (sgR S (S 0 0) p lo hi) p (S 0 0) = 0 ∨ sgR S (S 0 0) p lo hi 3 (S 0 0) < sgHi (sgR S (S 0 0) p lo hi) p (S 0 0) then sgR S (S 0 0) p lo hi 3 (S 0 0) else sgHi (sgR S (S 0 0) p lo hi) p (S 0 0)) else sgHi (sgR S (S 0 0) p lo hi) p (S 0 0)) = _
      rw [k1, if_pos rfl, k3, e1, e3]
    have f3 : sgC (sgR S (S 0 0) p lo hi) p (S 0 0 + 1) = sgC S p (S 0 0) + 1 := by
      show sgC (sgR S (S 0 0) p lo hi) p (S 0 0) + (if sgR S (S 0 0) p lo hi 1 (S 0 0) = p then 1 else 0) = _
      rw [k1, if_pos rfl, e1]
    have r1 : ∀ (w : ZW) (x y : Int32), (z_upI (z_upI w 14 p x) 15 p y).1 13 p = w.1 13 p := fun w x y => by rw [upc (by omega), upc (by omega)]
    have r2 : ∀ (w : ZW) (x y z : Int32), (z_upI (z_upI (z_upI w 14 p x) 15 p y) 13 p z).1 12 0 = w.1 12 0 := fun w x y z => by rw [upc (by omega), upc (by omega), upc (by omega)]
    have r3 : ∀ (w : ZW) (x : Int32), (z_upI w 14 p x).1 13 p = w.1 13 p := fun w x => by rw [upc (by omega)]
    have r4 : ∀ (w : ZW) (x : Int32), (z_upI w 14 p x).1 15 p = w.1 15 p := fun w x => by rw [upc (by omega)]
    have z0 : (0 : Int32) = nI 0 := rfl
    have j1 : ∀ x y : Int32, f_X8_add_J69 (nI p) y (nI p) (z_upI w 14 p x) = some (nI (S 0 0 + 1), z_upI (z_upI (z_upI (z_upI w 14 p x) 15 p y) 13 p (nI (sgC S p (S 0 0) + 1))) 12 0 (nI (S 0 0 + 1))) := by
      intro x y
      unfold f_X8_add_J69
      simp only [z_in_t hp (by omega), if_true, nI_clamp (show p < 2 ^ 31 by omega), z_let, r1, r2, c1, c3, nI_1, upc_e]
    unfold f_X8_add_J40 sgW
    simp only [z_in_t hp (by omega), if_true, nI_clamp (show p < 2 ^ 31 by omega), z_let, r3, r4, c3, z0, nI_inj (show sgC S p (S 0 0) < 2 ^ 31 by omega) (show 0 < 2 ^ 31 by omega), j1, f1, f2, f3]
    by_cases t : sgC S p (S 0 0) = 0
    · obtain ⟨t1, t2⟩ := sg_0 _ t
      simp only [t, if_true, true_or, t1]
      by_cases t3 : 0 < lo
      · rw [if_pos t3]
      · rw [if_neg t3, show lo = 0 by omega]
    · obtain ⟨c5, c6⟩ := c4 t
      simp only [t, if_false, c5, c6, nI_ltI (show sgLo S p (S 0 0) < 2 ^ 31 by omega) (show lo < 2 ^ 31 by omega), nI_ltI (show hi < 2 ^ 31 by omega) (show sgHi S p (S 0 0) < 2 ^ 31 by omega), false_or]
      by_cases t3 : sgLo S p (S 0 0) < lo <;> by_cases t4 : hi < sgHi S p (S 0 0) <;> simp only [t3, t4, if_true, if_false]
  · rw [if_neg q, if_neg q]
def seesW (w : ZW) (K : Nat) (a1 a2 a3 : Int32) : ZW := z_upI (z_upI (z_upI (z_upI w 139 (3 * K) a1) 139 (3 * K + 1) a2) 139 (3 * K + 2) a3) 130 10 (nI (K + 1))
theorem sees_eq {w : ZW} {K : Nat} (h : w.1 130 10 = nI K) (hK : K ≤ 12) (a1 a2 a3 : Int32) : f_X12_sees w a1 a2 a3 = if K < 12 then some (nI (K + 1), seesW w K a1 a2 a3) else some (-3, w) := by
  unfold f_X12_sees
  simp only [h, show (12 : Int32) = nI 12 from rfl, nI_inj (show K < 2 ^ 31 by omega) (show 12 < 2 ^ 31 by omega)]
  by_cases q : K < 12
  · have q' : ¬ K = 12 := by omega
    simp only [q, q', if_true, if_false, mul3, show (1 : Int32) = nI 1 from rfl, show (2 : Int32) = nI 2 from rfl, nI_add, z_in_t (show 3 * K < 36 by omega) (by omega), z_in_t (show 3 * K + 1 < 36 by omega) (by omega), z_in_t (show 3 * K + 2 < 36 by omega) (by omega), nI_clamp (show 3 * K < 2 ^ 31 by omega), nI_clamp (show 3 * K + 1 < 2 ^ 31 by omega), nI_clamp (show 3 * K + 2 < 2 ^ 31 by omega), z_let, h, fun w x => upc (w := w) (x := x) (show ¬ (130 = 139 ∧ 10 = 3 * K) by omega), fun w x => upc (w := w) (x := x) (show ¬ (130 = 139 ∧ 10 = 3 * K + 1) by omega), fun w x => upc (w := w) (x := x) (show ¬ (130 = 139 ∧ 10 = 3 * K + 2) by omega), upc_e]
    rfl
  · have q' : K = 12 := by omega
    rw [if_neg q, if_pos q']
theorem Rel_sight {A : AST} {w : ZW} {p lo hi : Nat} (hA : RelA A w) (hK : A 1 0 0 < 12) (hp : p < A 0 0 0) (hl : lo ≤ 99999) (hh : hi ≤ 109998) : Rel (seesW (sgW w (sgR (A 1) (A 1 0 0) p lo hi) (A 1 0 0) p) (A 1 0 0) (nI p) (nI lo) (nI hi)) := by
  obtain ⟨hI, hC, hM, hT, hS, hIm⟩ := hA
  have hP := hI.1.1
  obtain ⟨k1, k2, k3, k4⟩ := sgR_k (S := A 1) (K := A 1 0 0) (p := p) (lo := lo) (hi := hi)
  have ki := fun i => sgR_i (S := A 1) (K := A 1 0 0) (p := p) (lo := lo) (hi := hi) (i := i)
  generalize hS' : sgR (A 1) (A 1 0 0) p lo hi = S' at k1 k2 k3 k4 ki ⊢
  generalize hw' : seesW (sgW w S' (A 1 0 0) p) (A 1 0 0) (nI p) (nI lo) (nI hi) = w'
  have fr : ∀ a j, ¬ ((13 ≤ a ∧ a ≤ 15 ∧ j = p) ∨ (a = 12 ∧ j = 0) ∨ (a = 139 ∧ 3 * A 1 0 0 ≤ j) ∨ (a = 130 ∧ j = 10)) → w'.1 a j = w.1 a j := by
    intro a j q
    rw [← hw']
    unfold seesW sgW
    rw [upc (by omega), upc (by omega), upc (by omega), upc (by omega), upc (by omega), upc (by omega), upc (by omega), upc (by omega)]
  have fl : w'.2 = w.2 := by rw [← hw']; rfl
  have v : w'.1 12 0 = nI (A 1 0 0 + 1) ∧ w'.1 13 p = nI (sgC S' p (A 1 0 0 + 1)) ∧ w'.1 14 p = nI (sgLo S' p (A 1 0 0 + 1)) ∧ w'.1 15 p = nI (sgHi S' p (A 1 0 0 + 1)) ∧ w'.1 130 10 = nI (A 1 0 0 + 1) ∧ w'.1 139 (3 * A 1 0 0) = nI p ∧ w'.1 139 (3 * A 1 0 0 + 1) = nI lo ∧ w'.1 139 (3 * A 1 0 0 + 2) = nI hi := by
    rw [← hw']
    unfold seesW sgW
    simp [z_upI]
  obtain ⟨v1, v2, v3, v4, v5, v6, v7, v8⟩ := v
  clear hw' hS'
  refine ⟨aup A 1 S', ⟨hI.1, ⟨?_, fun k hk => ?_⟩, hI.2.2.1, hI.2.2.2.1, hI.2.2.2.2⟩, ⟨fr_RC (fun a j q => fr a j (by unfold cRC at q; omega)) hC.1, ⟨?_, fun r hr => ?_⟩, fr_NC (fun a j q => fr a j (by unfold cNC at q; omega)) (fun a j _ => by rw [fl]) hC.2.2.1, fr_NiC (fun a j q => fr a j (by unfold cNiC at q; omega)) hC.2.2.2.1, fr_GC (fun a j q => fr a j (by unfold cGC at q; omega)) hC.2.2.2.2⟩, ⟨fr_RM (fun a j q => fr a j (by unfold cRM at q; omega)) hM.1, ⟨?_, fun k hk => ?_⟩, fr_NM (fun a j q => fr a j (by unfold cNM at q; omega)) hM.2.2.1, fr_NiM (fun a j q => fr a j (by unfold cNiM at q; omega)) hM.2.2.2.1, fr_GM (fun a j q => fr a j (by unfold cGM at q; omega)) hM.2.2.2.2⟩, fr_T (fun a j q => fr a j (by unfold cT at q; omega)) hT, fr_Sh (fun a j q => fr a j (by unfold cSh at q; omega)) hS, fr_Im (fun a j q => fr a j (by unfold cIm at q; omega)) (fun a j _ => by rw [fl]) hIm⟩
  · show S' 0 0 ≤ 12
    omega
  · have hk : k < S' 0 0 := hk
    show S' 1 k < A 0 0 0 ∧ S' 2 k ≤ 99999 ∧ S' 3 k ≤ 109998
    by_cases e : k = A 1 0 0
    · subst e
      rw [k1, k2, k3]
      exact ⟨hp, hl, hh⟩
    · obtain ⟨g1, g2, g3⟩ := ki k e
      rw [g1, g2, g3]
      exact hI.2.1.2 k (by omega)
  · show w'.1 12 0 = nI (S' 0 0)
    rw [k4]
    exact v1
  · show w'.1 13 r = nI (sgC S' r (S' 0 0)) ∧ (sgC S' r (S' 0 0) ≠ 0 → w'.1 14 r = nI (sgLo S' r (S' 0 0)) ∧ w'.1 15 r = nI (sgHi S' r (S' 0 0)))
    rw [k4]
    by_cases e : r = p
    · subst e
      exact ⟨v2, fun _ => ⟨v3, v4⟩⟩
    · obtain ⟨g1, g2, g3⟩ := sg_cong (p := r) (A 1 0 0) (fun i hi => ki i (by omega))
      have s1 : sgC S' r (A 1 0 0 + 1) = sgC (A 1) r (A 1 0 0) := by
        rw [← g1]
        show _ + (if S' 1 (A 1 0 0) = r then 1 else 0) = _
        rw [k1, if_neg (fun h => e h.symm)]
        rfl
      have s2 : sgLo S' r (A 1 0 0 + 1) = sgLo (A 1) r (A 1 0 0) := by
        rw [← g2]
        unfold sgLo
        rw [k1, if_neg (fun h => e h.symm)]
        cases A 1 0 0 <;> rfl
      have s3 : sgHi S' r (A 1 0 0 + 1) = sgHi (A 1) r (A 1 0 0) := by
        rw [← g3]
        unfold sgHi
        rw [k1, if_neg (fun h => e h.symm)]
        cases A 1 0 0 <;> rfl
      rw [s1, s2, s3, fr 13 r (by omega), fr 14 r (by omega), fr 15 r (by omega)]
      exact hC.2.1.2 r hr
  · show w'.1 130 10 = nI (S' 0 0)
    rw [k4]
    exact v5
  · have hk : k < S' 0 0 := hk
    show w'.1 139 (3 * k) = nI (S' 1 k) ∧ w'.1 139 (3 * k + 1) = nI (S' 2 k) ∧ w'.1 139 (3 * k + 2) = nI (S' 3 k)
    by_cases e : k = A 1 0 0
    · subst e
      rw [k1, k2, k3]
      exact ⟨v6, v7, v8⟩
    · obtain ⟨g1, g2, g3⟩ := ki k e
      rw [g1, g2, g3, fr 139 (3 * k) (by omega), fr 139 (3 * k + 1) (by omega), fr 139 (3 * k + 2) (by omega)]
      exact hM.2.1.2 k (by omega)
theorem sim_seen {A : AST} {w : ZW} (hA : RelA A w) {p lo hi : Nat} (hp : p < A 0 0 0) (hl : lo ≤ 99999) (hh : hi ≤ 109998) : ∃ r w1 w2, f_X8_add w (nI p) (nI lo) (nI hi) = some (r, w1) ∧ (w1.1 130 0 = nI (A 0 0 0)) ∧ f_X12_sees w1 (nI p) (nI lo) (nI hi) = some (r, w2) ∧ Rel w2 := by
  obtain ⟨hI, hC, hM, -⟩ := id hA
  have hP := hI.1.1
  have hK := hI.2.1.1
  rw [X8_add_eq hI.2.1 hC.2.1 rfl (by omega) hl hh]
  have f0 : ∀ j, (sgW w (sgR (A 1) (A 1 0 0) p lo hi) (A 1 0 0) p).1 130 j = w.1 130 j := fun j => by
    unfold sgW
    rw [upc (by omega), upc (by omega), upc (by omega), upc (by omega)]
  by_cases q : A 1 0 0 < 12
  · rw [if_pos q]
    refine ⟨_, _, _, rfl, (f0 0).trans hM.1.1, (sees_eq ((f0 10).trans hM.2.1.1) hK _ _ _).trans (if_pos q), Rel_sight hA q hp hl hh⟩
  · rw [if_neg q]
    exact ⟨_, _, _, rfl, hM.1.1, (sees_eq hM.2.1.1 hK _ _ _).trans (if_neg q), A, hA⟩
theorem sim_photo {w : ZW} (h : Rel w) (a b c : Int32) : ∃ r w1 w2, f_X11_photo w a b c = some (r, w1) ∧ f_X12_photo w1 a b c = some (r, w2) ∧ Rel w2 := by
  have h0 := h
  obtain ⟨A, hA⟩ := h
  obtain ⟨hI, hC, hM, -⟩ := id hA
  have hP := hI.1.1
  have g11 : ∀ w' : ZW, w'.1 130 0 = nI (A 0 0 0) → f_X12_photo w' a b c = if (ixb (A 0 0 0) a && rg 0 999 b && rg 0 999 c) = true then (f_X12_sees w' a b (b + c)).bind (fun r4 => some (r4.1, r4.2)) else some (-1, w') := by
    intro w' h'
    unfold f_X12_photo
    rw [X12_isPanel_eq (by omega) h', in_rg _ _ _ (by decide) (by decide), in_rg _ _ _ (by decide) (by decide)]
    simp only [Option.bind_some, if10]
    cases ixb (A 0 0 0) a <;> cases rg 0 999 b <;> cases rg 0 999 c <;> simp
  have g10 : f_X11_photo w a b c = if (ixb (A 0 0 0) a && rg 0 999 b && rg 0 999 c) = true then (f_X8_add w a b (b + c)).bind (fun r4 => some (r4.1, r4.2)) else some (-1, w) := by
    unfold f_X11_photo
    rw [X4_hasPanel_eq hC.1.1, within_rg, within_rg]
    simp only [Option.bind_some, if10]
    cases ixb (A 0 0 0) a <;> cases rg 0 999 b <;> cases rg 0 999 c <;> simp
  rw [g10]
  by_cases g : (ixb (A 0 0 0) a && rg 0 999 b && rg 0 999 c) = true
  · rw [if_pos g]
    have g' := g
    simp only [Bool.and_eq_true] at g'
    obtain ⟨p, hp, rfl⟩ := ix_t (by omega) g'.1.1
    obtain ⟨x, hx, rfl⟩ := rg_0 g'.1.2 (by decide)
    obtain ⟨y, hy, rfl⟩ := rg_0 g'.2 (by decide)
    rw [nI_add] at *
    obtain ⟨r, w1, w2, e1, e2, e3, e4⟩ := sim_seen hA hp (lo := x) (hi := x + y) (by omega) (by omega)
    refine ⟨r, w1, w2, by rw [e1]; rfl, ?_, e4⟩
    rw [g11 w1 e2, if_pos g, e3]
    rfl
  · rw [if_neg g]
    exact ⟨_, _, _, rfl, (g11 w hM.1.1).trans (if_neg g), h0⟩
theorem rg_sw (a b : Int32) : ((1 ≤ a ∧ a ≤ 999) ∧ (a ≤ b ∧ b ≤ 999)) ↔ ((1 ≤ b ∧ b ≤ 999) ∧ (1 ≤ a ∧ a ≤ b)) := by
  simp only [Int32.le_iff_toInt_le]
  have : (1 : Int32).toInt = 1 := rfl
  have : (999 : Int32).toInt = 999 := rfl
  omega
theorem sim_truck {w : ZW} (h : Rel w) (a b c d e : Int32) : ∃ r w1 w2, f_X11_truck w a b c d e = some (r, w1) ∧ f_X12_truck w1 a b c d e = some (r, w2) ∧ Rel w2 := by
  have h0 := h
  obtain ⟨A, hA⟩ := h
  obtain ⟨hI, hC, hM, -⟩ := id hA
  have hP := hI.1.1
  have one : (1 : Int64) = (1 : Int32).toInt64 := by decide
  have n99 : (999 : Int64) = (999 : Int32).toInt64 := by decide
  have g11 : ∀ w' : ZW, w'.1 130 0 = nI (A 0 0 0) → f_X12_truck w' a b c d e = if (ixb (A 0 0 0) a && rg 0 99999 b && rg 0 9999 c) = true ∧ ((1 ≤ d ∧ d ≤ 999) ∧ (d ≤ e ∧ e ≤ 999)) then (if c ≤ b then (if e = 0 then none else f_X12_truck_J80 d a b c ((((b - c) + e) - (1 : Int32)) / e) w') else f_X12_truck_J80 d a b c 0 w') else some (-1, w') := by
    intro w' h'
    unfold f_X12_truck
    rw [X12_isPanel_eq (by omega) h', in_rg _ _ _ (by decide) (by decide), in_rg _ _ _ (by decide) (by decide), in_eq, in_eq, one, n99]
    simp only [Option.bind_some, if10, w_le, rg_sw]
    cases ixb (A 0 0 0) a <;> cases rg 0 99999 b <;> cases rg 0 9999 c <;> simp only [Bool.and_self, Bool.and_true, Bool.and_false, Bool.false_and, Bool.true_and, Bool.false_eq_true, if_false, if_true, false_and, true_and, and_true, and_false, and_self, i10]
    by_cases t1 : 1 ≤ e ∧ e ≤ 999
    · by_cases t2 : 1 ≤ d ∧ d ≤ e
      · simp only [t1, t2, Bool.and_self, Bool.and_true, Bool.and_false, Bool.false_and, Bool.true_and, Bool.false_eq_true, if_false, if_true, false_and, true_and, and_true, and_false, and_self, i10]
      · simp only [t1, t2, Bool.and_self, Bool.and_true, Bool.and_false, Bool.false_and, Bool.true_and, Bool.false_eq_true, if_false, if_true, false_and, true_and, and_true, and_false, and_self, i10]
    · simp only [t1, Bool.and_self, Bool.and_true, Bool.and_false, Bool.false_and, Bool.true_and, Bool.false_eq_true, if_false, if_true, false_and, true_and, and_true, and_false, and_self, i10]
  have g10 : f_X11_truck w a b c d e = if (ixb (A 0 0 0) a && rg 0 99999 b && rg 0 9999 c) = true ∧ ((1 ≤ d ∧ d ≤ 999) ∧ (d ≤ e ∧ e ≤ 999)) then (if e = 0 then none else if d = 0 then none else (f_X8_add w a (((((if (0 : Int32) < (b - c) then (b - c) else (0 : Int32))) + e) - (1 : Int32)) / e) ((b + c) / d)).bind (fun r4 => some (r4.1, r4.2))) else some (-1, w) := by
    unfold f_X11_truck
    rw [X4_hasPanel_eq hC.1.1, within_rg, within_rg, within_eq, within_eq]
    simp only [Option.bind_some, if10, z_let]
    cases ixb (A 0 0 0) a <;> cases rg 0 99999 b <;> cases rg 0 9999 c <;> simp only [Bool.and_self, Bool.and_true, Bool.and_false, Bool.false_and, Bool.true_and, Bool.false_eq_true, if_false, if_true, false_and, true_and, and_true, and_false, and_self, i10]
    by_cases t1 : 1 ≤ d ∧ d ≤ 999
    · by_cases t2 : d ≤ e ∧ e ≤ 999
      · simp only [t1, t2, Bool.and_self, Bool.and_true, Bool.and_false, Bool.false_and, Bool.true_and, Bool.false_eq_true, if_false, if_true, false_and, true_and, and_true, and_false, and_self, i10]
      · simp only [t1, t2, Bool.and_self, Bool.and_true, Bool.and_false, Bool.false_and, Bool.true_and, Bool.false_eq_true, if_false, if_true, false_and, true_and, and_true, and_false, and_self, i10]
    · simp only [t1, Bool.and_self, Bool.and_true, Bool.and_false, Bool.false_and, Bool.true_and, Bool.false_eq_true, if_false, if_true, false_and, true_and, and_true, and_false, and_self, i10]
  rw [g10]
  by_cases g : (ixb (A 0 0 0) a && rg 0 99999 b && rg 0 9999 c) = true ∧ ((1 ≤ d ∧ d ≤ 999) ∧ (d ≤ e ∧ e ≤ 999))
  · rw [if_pos g]
    have g' := g
    simp only [Bool.and_eq_true] at g'
    obtain ⟨⟨⟨i1, i2⟩, i3⟩, i4, i5⟩ := g'
    obtain ⟨p, hp, rfl⟩ := ix_t (by omega) i1
    obtain ⟨x, hx, rfl⟩ := rg_0 i2 (by decide)
    obtain ⟨y, hy, rfl⟩ := rg_0 i3 (by decide)
    obtain ⟨u, u1, u2, rfl⟩ := nI_rng (lo := 1) (hi := 999) (by decide) i4 (by decide)
    obtain ⟨v, v1, v2, rfl⟩ := nI_rng (lo := u) (hi := 999) (by decide) i5 (by omega)
    have z0 : (0 : Int32) = nI 0 := rfl
    have nu : ¬ nI u = 0 := by rw [z0, nI_inj (by omega) (by omega)]; omega
    have nv : ¬ nI v = 0 := by rw [z0, nI_inj (by omega) (by omega)]; omega
    have d1 : (x + y) / u ≤ 109998 := Nat.le_trans (Nat.div_le_self _ _) (by omega)
    have d2 : (x - y + v - 1) / v ≤ 99999 := by
      have : (x - y + v - 1) / v ≤ (99999 * v) / v := Nat.div_le_div_right (by
        have : 99999 * 1 ≤ 99999 * v := Nat.mul_le_mul_left _ (by omega)
        have : 99999 * v = 99998 * v + v := by omega
        omega)
      rw [Nat.mul_div_cancel _ (by omega)] at this
      exact this
    have s1 : (if (0 : Int32) < nI x - nI y then nI x - nI y else 0) = nI (x - y) := by
      by_cases t : y ≤ x
      · rw [pk_sub t, z0, ilt (by omega) (by omega)]
        by_cases t2 : 0 < x - y
        · rw [if_pos t2]
        · rw [if_neg t2, show x - y = 0 by omega]
      · have : ¬ (0 : Int32) < nI x - nI y := by
          rw [Int32.lt_iff_toInt_lt, pk_sub_toInt (by omega) (by omega)]
          show ¬ (0 : Int) < _
          omega
        rw [if_neg this, show x - y = 0 by omega]
        rfl
    rw [if_neg nv, if_neg nu, s1, nI_add, nI_add, show (1 : Int32) = nI 1 from rfl, pk_sub (by omega), pk_div (by omega) (by omega) (by omega), pk_div (by omega) (by omega) (by omega)]
    obtain ⟨r, w1, w2, e1, e2, e3, e4⟩ := sim_seen hA hp (lo := (x - y + v - 1) / v) (hi := (x + y) / u) d2 d1
    refine ⟨r, w1, w2, by rw [e1]; rfl, ?_, e4⟩
    have j : f_X12_truck_J80 (nI u) (nI p) (nI x) (nI y) (nI ((x - y + v - 1) / v)) w1 = some (r, w2) := by
      unfold f_X12_truck_J80
      rw [if_neg nu, nI_add, pk_div (by omega) (by omega) (by omega), e3]
      rfl
    rw [g11 w1 e2, if_pos g, ile (by omega) (by omega)]
    by_cases t : y ≤ x
    · rw [if_pos t, if_neg nv, pk_sub t, nI_add, show (1 : Int32) = nI 1 from rfl, pk_sub (by omega), pk_div (by omega) (by omega) (by omega)]
      exact j
    · rw [if_neg t]
      rw [show (x - y + v - 1) / v = 0 from Nat.div_eq_of_lt (by omega)] at j
      exact j
  · rw [if_neg g]
    exact ⟨_, _, _, rfl, (g11 w hM.1.1).trans (if_neg g), h0⟩
