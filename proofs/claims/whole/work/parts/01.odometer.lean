/-! the odometer: seven wheels between lo and hi, the last turns fastest -/
theorem sd_mm {a c W : Nat} (h : a + 1 ≤ c) : a * W + W ≤ c * W := by
  have m := Nat.mul_le_mul_right W h
  rw [Nat.add_mul a 1 W, Nat.one_mul] at m
  exact m
theorem sd_m1 (a W : Nat) : (a + 1) * W = a * W + W := by rw [Nat.add_mul, Nat.one_mul]
theorem sd_mr {a c W r : Nat} (h : a + 1 ≤ c) (hr : r + 1 ≤ W) : a * W + r + 1 ≤ c * W := by
  have m := sd_mm (W := W) h
  omega
theorem sd_rad {a b W r s : Nat} (hr : r + 1 ≤ W) (hs : s + 1 ≤ W) (h : a * W + r = b * W + s) : a = b ∧ r = s := by
  rcases Nat.lt_trichotomy a b with g | g | g
  · have m := sd_mm (W := W) (a := a) (c := b) (by omega)
    exfalso; omega
  · subst g
    exact ⟨rfl, by omega⟩
  · have m := sd_mm (W := W) (a := b) (c := a) (by omega)
    exfalso; omega
def sd_W (lo hi : Nat → Nat) : Nat → Nat
  | 0 => 1
  | d + 1 => (hi (6 - d) - lo (6 - d) + 1) * sd_W lo hi d
def sd_ix (lo hi v : Nat → Nat) : Nat → Nat
  | 0 => 0
  | d + 1 => (v (6 - d) - lo (6 - d)) * sd_W lo hi d + sd_ix lo hi v d
def sd_B (lo hi v : Nat → Nat) : Prop := ∀ k, k < 7 → lo k ≤ v k ∧ v k ≤ hi k
noncomputable def sd_nx (lo hi v : Nat → Nat) : Nat → Nat := fun k =>
  if ∀ j, j < 7 → k < j → v j = hi j then (if v k < hi k then v k + 1 else lo k) else v k
noncomputable def sd_vt (lo hi : Nat → Nat) : Nat → Nat → Nat
  | 0 => lo
  | t + 1 => sd_nx lo hi (sd_vt lo hi t)
theorem sd_ix_lt {lo hi v : Nat → Nat} (hB : sd_B lo hi v) : ∀ d, d ≤ 7 → sd_ix lo hi v d + 1 ≤ sd_W lo hi d := by
  intro d
  induction d with
  | zero => intro _; exact Nat.le_refl 1
  | succ d ih =>
    intro hd
    have h := hB (6 - d) (by omega)
    have i := ih (by omega)
    simp only [sd_ix, sd_W]
    exact sd_mr (by omega) i
theorem sd_ix_max {lo hi v : Nat → Nat} : ∀ d, d ≤ 7 → (∀ k, k < 7 → 7 ≤ k + d → v k = hi k) → sd_ix lo hi v d + 1 = sd_W lo hi d := by
  intro d
  induction d with
  | zero => intro _ _; rfl
  | succ d ih =>
    intro hd h
    have i := ih (by omega) (fun k a b => h k a (by omega))
    simp only [sd_ix, sd_W]
    rw [h (6 - d) (by omega) (by omega), sd_m1]
    omega
theorem sd_ix_lo {lo hi v : Nat → Nat} : ∀ d, d ≤ 7 → (∀ k, k < 7 → 7 ≤ k + d → v k = lo k) → sd_ix lo hi v d = 0 := by
  intro d
  induction d with
  | zero => intro _ _; rfl
  | succ d ih =>
    intro hd h
    have i := ih (by omega) (fun k a b => h k a (by omega))
    simp only [sd_ix]
    rw [h (6 - d) (by omega) (by omega), i, Nat.sub_self, Nat.zero_mul]
theorem sd_ix_up {lo hi v w : Nat → Nat} {d : Nat} (h1 : sd_ix lo hi w d = sd_ix lo hi v d + 1) (h : ∀ k, k < 7 → k + d < 7 → w k = v k) : ∀ e, d + e ≤ 7 → sd_ix lo hi w (d + e) = sd_ix lo hi v (d + e) + 1 := by
  intro e
  induction e with
  | zero => intro _; exact h1
  | succ e ih =>
    intro he
    have i := ih (by omega)
    show sd_ix lo hi w ((d + e) + 1) = sd_ix lo hi v ((d + e) + 1) + 1
    simp only [sd_ix]
    rw [h (6 - (d + e)) (by omega) (by omega), i]
    omega
theorem sd_nx_at {lo hi v : Nat → Nat} {k : Nat} (hk : k < 7) (hm : ∀ j, j < 7 → k < j → v j = hi j) (h : v k < hi k) : sd_nx lo hi v k = v k + 1 ∧ (∀ j, j < 7 → k < j → sd_nx lo hi v j = lo j) ∧ (∀ j, j < k → sd_nx lo hi v j = v j) := by
  refine ⟨?_, ?_, ?_⟩
  · unfold sd_nx
    rw [if_pos hm, if_pos h]
  · intro j hj hkj
    have e := hm j hj hkj
    have g : ∀ i, i < 7 → j < i → v i = hi i := fun i a b => hm i a (by omega)
    have n : ¬ v j < hi j := by omega
    unfold sd_nx
    rw [if_pos g, if_neg n]
  · intro j hj
    have g : ¬ ∀ i, i < 7 → j < i → v i = hi i := fun g => by
      have := g k hk hj
      omega
    unfold sd_nx
    rw [if_neg g]
theorem sd_nx_wrap {lo hi v : Nat → Nat} (hm : ∀ j, j < 7 → v j = hi j) : ∀ j, j < 7 → sd_nx lo hi v j = lo j := by
  intro j hj
  have e := hm j hj
  have g : ∀ i, i < 7 → j < i → v i = hi i := fun i a _ => hm i a
  have n : ¬ v j < hi j := by omega
  unfold sd_nx
  rw [if_pos g, if_neg n]
theorem sd_last {lo hi v : Nat → Nat} (hB : sd_B lo hi v) : (∀ j, j < 7 → v j = hi j) ∨ ∃ k, k < 7 ∧ v k < hi k ∧ ∀ j, j < 7 → k < j → v j = hi j := by
  have H : ∀ d, d ≤ 7 → (∀ j, j < 7 → 7 ≤ j + d → v j = hi j) ∨ ∃ k, k < 7 ∧ v k < hi k ∧ ∀ j, j < 7 → k < j → v j = hi j := by
    intro d
    induction d with
    | zero => intro _; exact Or.inl (fun j a b => by omega)
    | succ d ih =>
      intro hd
      rcases ih (by omega) with g | g
      · by_cases e : v (6 - d) = hi (6 - d)
        · refine Or.inl (fun j a b => ?_)
          by_cases z : j = 6 - d
          · rw [z]; exact e
          · exact g j a (by omega)
        · have := hB (6 - d) (by omega)
          exact Or.inr ⟨6 - d, by omega, by omega, fun j a b => g j a (by omega)⟩
      · exact Or.inr g
  rcases H 7 (Nat.le_refl 7) with g | g
  · exact Or.inl (fun j a => g j a (by omega))
  · exact Or.inr g
theorem sd_nx_or (lo hi v : Nat → Nat) (k : Nat) : sd_nx lo hi v k = v k ∨ (v k < hi k ∧ sd_nx lo hi v k = v k + 1) ∨ sd_nx lo hi v k = lo k := by
  by_cases g : ∀ j, j < 7 → k < j → v j = hi j
  · by_cases h : v k < hi k
    · refine Or.inr (Or.inl ⟨h, ?_⟩)
      unfold sd_nx
      rw [if_pos g, if_pos h]
    · refine Or.inr (Or.inr ?_)
      unfold sd_nx
      rw [if_pos g, if_neg h]
  · refine Or.inl ?_
    unfold sd_nx
    rw [if_neg g]
theorem sd_nx_B {lo hi v : Nat → Nat} (hB : sd_B lo hi v) : sd_B lo hi (sd_nx lo hi v) := by
  intro k hk
  have a := hB k hk
  have b := sd_nx_or lo hi v k
  omega
theorem sd_nx_ix {lo hi v : Nat → Nat} {k : Nat} (hB : sd_B lo hi v) (hk : k < 7) (hm : ∀ j, j < 7 → k < j → v j = hi j) (h : v k < hi k) : sd_ix lo hi (sd_nx lo hi v) 7 = sd_ix lo hi v 7 + 1 := by
  obtain ⟨a, b, c⟩ := sd_nx_at (lo := lo) hk hm h
  have e0 : sd_ix lo hi v (6 - k) + 1 = sd_W lo hi (6 - k) := sd_ix_max _ (by omega) (fun j x y => hm j x (by omega))
  have e1 : sd_ix lo hi (sd_nx lo hi v) (6 - k) = 0 := sd_ix_lo _ (by omega) (fun j x y => b j x (by omega))
  have z : 6 - (6 - k) = k := by omega
  have e2 : sd_ix lo hi (sd_nx lo hi v) ((6 - k) + 1) = sd_ix lo hi v ((6 - k) + 1) + 1 := by
    have q : v k + 1 - lo k = (v k - lo k) + 1 := by
      have := hB k hk
      omega
    simp only [sd_ix]
    rw [z, a, e1, q, sd_m1]
    omega
  have e3 := sd_ix_up e2 (fun j x y => c j (by omega)) k (by omega)
  have y : (6 - k) + 1 + k = 7 := by omega
  rw [y] at e3
  exact e3
theorem sd_vt_ok {lo hi : Nat → Nat} (hl : ∀ k, k < 7 → lo k ≤ hi k) : ∀ t, t < sd_W lo hi 7 → sd_B lo hi (sd_vt lo hi t) ∧ sd_ix lo hi (sd_vt lo hi t) 7 = t := by
  intro t
  induction t with
  | zero => intro _; exact ⟨fun k hk => ⟨Nat.le_refl _, hl k hk⟩, sd_ix_lo 7 (Nat.le_refl 7) (fun _ _ _ => rfl)⟩
  | succ t ih =>
    intro ht
    obtain ⟨hB, hx⟩ := ih (by omega)
    rcases sd_last hB with g | ⟨k, hk, h, hm⟩
    · have := sd_ix_max (lo := lo) 7 (Nat.le_refl 7) (fun k a _ => g k a)
      exfalso; omega
    · refine ⟨sd_nx_B hB, ?_⟩
      have := sd_nx_ix hB hk hm h
      rw [hx] at this
      exact this
theorem sd_vt_end {lo hi : Nat → Nat} (hl : ∀ k, k < 7 → lo k ≤ hi k) {t : Nat} (ht : t < sd_W lo hi 7) : (∀ j, j < 7 → sd_vt lo hi t j = hi j) ↔ t + 1 = sd_W lo hi 7 := by
  obtain ⟨hB, hx⟩ := sd_vt_ok hl t ht
  constructor
  · intro g
    have := sd_ix_max (lo := lo) 7 (Nat.le_refl 7) (fun k a _ => g k a)
    omega
  · intro e
    rcases sd_last hB with g | ⟨k, hk, h, hm⟩
    · exact g
    · have a := sd_nx_ix hB hk hm h
      have b := sd_ix_lt (sd_nx_B hB) 7 (Nat.le_refl 7)
      exfalso; omega
theorem sd_ix_inj {lo hi v w : Nat → Nat} (hv : sd_B lo hi v) (hw : sd_B lo hi w) : ∀ d, d ≤ 7 → sd_ix lo hi v d = sd_ix lo hi w d → ∀ k, k < 7 → 7 ≤ k + d → v k = w k := by
  intro d
  induction d with
  | zero => intro _ _ k a b; exfalso; omega
  | succ d ih =>
    intro hd h k a b
    simp only [sd_ix] at h
    obtain ⟨x, y⟩ := sd_rad (sd_ix_lt hv d (by omega)) (sd_ix_lt hw d (by omega)) h
    by_cases z : k = 6 - d
    · subst z
      have := hv (6 - d) a
      have := hw (6 - d) a
      omega
    · exact ih (by omega) y k a (by omega)
theorem sd_hit {lo hi v : Nat → Nat} (hv : sd_B lo hi v) : ∃ t, t < sd_W lo hi 7 ∧ ∀ k, k < 7 → sd_vt lo hi t k = v k := by
  have hl : ∀ k, k < 7 → lo k ≤ hi k := fun k hk => Nat.le_trans (hv k hk).1 (hv k hk).2
  have ht := sd_ix_lt hv 7 (Nat.le_refl 7)
  obtain ⟨hB, hx⟩ := sd_vt_ok hl (sd_ix lo hi v 7) ht
  exact ⟨_, ht, fun k hk => sd_ix_inj hB hv 7 (Nat.le_refl 7) hx k hk (by omega)⟩
