section
/-! rows pasted from the kit (kit/rows) -/
theorem pk_us {f : Nat → Int32} {k : Nat} {x : Int32} : upd f k x k = x := if_pos rfl
theorem pk_un {f : Nat → Int32} {k j : Nat} {x : Int32} (h : j ≠ k) : upd f k x j = f j := if_neg h
theorem pk_sub {a b : Nat} (h : b ≤ a) : nI a - nI b = nI (a - b) := by
  obtain ⟨c, rfl⟩ : ∃ c, a = c + b := ⟨a - b, by omega⟩
  rw [← nI_add, Int32.add_sub_cancel, Nat.add_sub_cancel]
theorem pk_m1 (n : Nat) : nI (n + 1) + (-1) = nI n := by
  rw [← nI_1, Int32.add_assoc, show (1 : Int32) + (-1) = 0 from rfl, Int32.add_zero]
theorem pk_mul (a b : Nat) : nI a * nI b = nI (a * b) := (Int32.ofNat_mul a b).symm
theorem pk_div {a d : Nat} (ha : a < 2 ^ 31) (h0 : 0 < d) (hd : d < 2 ^ 31) : nI a / nI d = nI (a / d) := by
  apply Int32.toInt_inj.mp
  rw [lg_idiv_nonneg (by rw [nI_toInt ha]; omega) (by rw [nI_toInt hd]; omega), nI_toInt ha, nI_toInt hd, nI_toInt (Nat.lt_of_le_of_lt (Nat.div_le_self a d) ha)]
  first | rfl | exact (Int.natCast_ediv _ _).symm
theorem pk_rem {a d : Nat} (ha : a < 2 ^ 31) (h0 : 0 < d) (hd : d < 2 ^ 31) : nI a - nI a / nI d * nI d = nI (a % d) := by
  rw [pk_div ha h0 hd, pk_mul, pk_sub (Nat.div_mul_le_self a d)]
  exact congrArg nI (by have := Nat.div_add_mod' a d; omega)
theorem pk_ix (x : Int32) {n : Nat} (hn : n < 2 ^ 31) : x < 0 ∨ nI n ≤ x ∨ ∃ j : Nat, j < n ∧ x = nI j := by
  by_cases h : x < 0
  · exact Or.inl h
  · obtain ⟨j, hj, rfl⟩ := nI_of h
    by_cases h2 : j < n
    · exact Or.inr (Or.inr ⟨j, h2, rfl⟩)
    · exact Or.inr (Or.inl (nI_le (by omega) hj))
end
section
/-! the odometer: seven wheels between lo and hi, the last turns fastest -/
theorem sd_mm {a c W : Nat} (h : a + 1 ≤ c) : a * W + W ≤ c * W := by
  have m := Nat.mul_le_mul_right W h
  rw [Nat.add_mul a 1 W, Nat.one_mul] at m
  exact m
theorem sd_m1 (a W : Nat) : (a + 1) * W = a * W + W := by rw [Nat.add_mul, Nat.one_mul]
theorem sd_mr {a c W r : Nat} (h : a + 1 ≤ c) (hr : r + 1 ≤ W) : a * W + r + 1 ≤ c * W := by
  have m := sd_mm (W := W) h
  omega
theorem sd_rad {a b W r s : Nat} (hr : r + 1 ≤ W) (hs : s + 1 ≤ W) (h : a * W + r = b * W + s) : a = b ∧ r = s := by
  rcases Nat.lt_trichotomy a b with g | g | g
  · have m := sd_mm (W := W) (a := a) (c := b) (by omega)
    exfalso; omega
  · subst g
    exact ⟨rfl, by omega⟩
  · have m := sd_mm (W := W) (a := b) (c := a) (by omega)
    exfalso; omega
def sd_W (lo hi : Nat → Nat) : Nat → Nat
  | 0 => 1
  | d + 1 => (hi (6 - d) - lo (6 - d) + 1) * sd_W lo hi d
def sd_ix (lo hi v : Nat → Nat) : Nat → Nat
  | 0 => 0
  | d + 1 => (v (6 - d) - lo (6 - d)) * sd_W lo hi d + sd_ix lo hi v d
def sd_B (lo hi v : Nat → Nat) : Prop := ∀ k, k < 7 → lo k ≤ v k ∧ v k ≤ hi k
noncomputable def sd_nx (lo hi v : Nat → Nat) : Nat → Nat := fun k =>
  if ∀ j, j < 7 → k < j → v j = hi j then (if v k < hi k then v k + 1 else lo k) else v k
noncomputable def sd_vt (lo hi : Nat → Nat) : Nat → Nat → Nat
  | 0 => lo
  | t + 1 => sd_nx lo hi (sd_vt lo hi t)
theorem sd_ix_lt {lo hi v : Nat → Nat} (hB : sd_B lo hi v) : ∀ d, d ≤ 7 → sd_ix lo hi v d + 1 ≤ sd_W lo hi d := by
  intro d
  induction d with
  | zero => intro _; exact Nat.le_refl 1
  | succ d ih =>
    intro hd
    have h := hB (6 - d) (by omega)
    have i := ih (by omega)
    simp only [sd_ix, sd_W]
    exact sd_mr (by omega) i
theorem sd_ix_max {lo hi v : Nat → Nat} : ∀ d, d ≤ 7 → (∀ k, k < 7 → 7 ≤ k + d → v k = hi k) → sd_ix lo hi v d + 1 = sd_W lo hi d := by
  intro d
  induction d with
  | zero => intro _ _; rfl
  | succ d ih =>
    intro hd h
    have i := ih (by omega) (fun k a b => h k a (by omega))
    simp only [sd_ix, sd_W]
    rw [h (6 - d) (by omega) (by omega), sd_m1]
    omega
theorem sd_ix_lo {lo hi v : Nat → Nat} : ∀ d, d ≤ 7 → (∀ k, k < 7 → 7 ≤ k + d → v k = lo k) → sd_ix lo hi v d = 0 := by
  intro d
  induction d with
  | zero => intro _ _; rfl
  | succ d ih =>
    intro hd h
    have i := ih (by omega) (fun k a b => h k a (by omega))
    simp only [sd_ix]
    rw [h (6 - d) (by omega) (by omega), i, Nat.sub_self, Nat.zero_mul]
theorem sd_ix_up {lo hi v w : Nat → Nat} {d : Nat} (h1 : sd_ix lo hi w d = sd_ix lo hi v d + 1) (h : ∀ k, k < 7 → k + d < 7 → w k = v k) : ∀ e, d + e ≤ 7 → sd_ix lo hi w (d + e) = sd_ix lo hi v (d + e) + 1 := by
  intro e
  induction e with
  | zero => intro _; exact h1
  | succ e ih =>
    intro he
    have i := ih (by omega)
    show sd_ix lo hi w ((d + e) + 1) = sd_ix lo hi v ((d + e) + 1) + 1
    simp only [sd_ix]
    rw [h (6 - (d + e)) (by omega) (by omega), i]
    omega
theorem sd_nx_at {lo hi v : Nat → Nat} {k : Nat} (hk : k < 7) (hm : ∀ j, j < 7 → k < j → v j = hi j) (h : v k < hi k) : sd_nx lo hi v k = v k + 1 ∧ (∀ j, j < 7 → k < j → sd_nx lo hi v j = lo j) ∧ (∀ j, j < k → sd_nx lo hi v j = v j) := by
  refine ⟨?_, ?_, ?_⟩
  · unfold sd_nx
    rw [if_pos hm, if_pos h]
  · intro j hj hkj
    have e := hm j hj hkj
    have g : ∀ i, i < 7 → j < i → v i = hi i := fun i a b => hm i a (by omega)
    have n : ¬ v j < hi j := by omega
    unfold sd_nx
    rw [if_pos g, if_neg n]
  · intro j hj
    have g : ¬ ∀ i, i < 7 → j < i → v i = hi i := fun g => by
      have := g k hk hj
      omega
    unfold sd_nx
    rw [if_neg g]
theorem sd_nx_wrap {lo hi v : Nat → Nat} (hm : ∀ j, j < 7 → v j = hi j) : ∀ j, j < 7 → sd_nx lo hi v j = lo j := by
  intro j hj
  have e := hm j hj
  have g : ∀ i, i < 7 → j < i → v i = hi i := fun i a _ => hm i a
  have n : ¬ v j < hi j := by omega
  unfold sd_nx
  rw [if_pos g, if_neg n]
theorem sd_last {lo hi v : Nat → Nat} (hB : sd_B lo hi v) : (∀ j, j < 7 → v j = hi j) ∨ ∃ k, k < 7 ∧ v k < hi k ∧ ∀ j, j < 7 → k < j → v j = hi j := by
  have H : ∀ d, d ≤ 7 → (∀ j, j < 7 → 7 ≤ j + d → v j = hi j) ∨ ∃ k, k < 7 ∧ v k < hi k ∧ ∀ j, j < 7 → k < j → v j = hi j := by
    intro d
    induction d with
    | zero => intro _; exact Or.inl (fun j a b => by omega)
    | succ d ih =>
      intro hd
      rcases ih (by omega) with g | g
      · by_cases e : v (6 - d) = hi (6 - d)
        · refine Or.inl (fun j a b => ?_)
          by_cases z : j = 6 - d
          · rw [z]; exact e
          · exact g j a (by omega)
        · have := hB (6 - d) (by omega)
          exact Or.inr ⟨6 - d, by omega, by omega, fun j a b => g j a (by omega)⟩
      · exact Or.inr g
  rcases H 7 (Nat.le_refl 7) with g | g
  · exact Or.inl (fun j a => g j a (by omega))
  · exact Or.inr g
theorem sd_nx_or (lo hi v : Nat → Nat) (k : Nat) : sd_nx lo hi v k = v k ∨ (v k < hi k ∧ sd_nx lo hi v k = v k + 1) ∨ sd_nx lo hi v k = lo k := by
  by_cases g : ∀ j, j < 7 → k < j → v j = hi j
  · by_cases h : v k < hi k
    · refine Or.inr (Or.inl ⟨h, ?_⟩)
      unfold sd_nx
      rw [if_pos g, if_pos h]
    · refine Or.inr (Or.inr ?_)
      unfold sd_nx
      rw [if_pos g, if_neg h]
  · refine Or.inl ?_
    unfold sd_nx
    rw [if_neg g]
theorem sd_nx_B {lo hi v : Nat → Nat} (hB : sd_B lo hi v) : sd_B lo hi (sd_nx lo hi v) := by
  intro k hk
  have a := hB k hk
  have b := sd_nx_or lo hi v k
  omega
theorem sd_nx_ix {lo hi v : Nat → Nat} {k : Nat} (hB : sd_B lo hi v) (hk : k < 7) (hm : ∀ j, j < 7 → k < j → v j = hi j) (h : v k < hi k) : sd_ix lo hi (sd_nx lo hi v) 7 = sd_ix lo hi v 7 + 1 := by
  obtain ⟨a, b, c⟩ := sd_nx_at (lo := lo) hk hm h
  have e0 : sd_ix lo hi v (6 - k) + 1 = sd_W lo hi (6 - k) := sd_ix_max _ (by omega) (fun j x y => hm j x (by omega))
  have e1 : sd_ix lo hi (sd_nx lo hi v) (6 - k) = 0 := sd_ix_lo _ (by omega) (fun j x y => b j x (by omega))
  have z : 6 - (6 - k) = k := by omega
  have e2 : sd_ix lo hi (sd_nx lo hi v) ((6 - k) + 1) = sd_ix lo hi v ((6 - k) + 1) + 1 := by
    have q : v k + 1 - lo k = (v k - lo k) + 1 := by
      have := hB k hk
      omega
    simp only [sd_ix]
    rw [z, a, e1, q, sd_m1]
    omega
  have e3 := sd_ix_up e2 (fun j x y => c j (by omega)) k (by omega)
  have y : (6 - k) + 1 + k = 7 := by omega
  rw [y] at e3
  exact e3
theorem sd_vt_ok {lo hi : Nat → Nat} (hl : ∀ k, k < 7 → lo k ≤ hi k) : ∀ t, t < sd_W lo hi 7 → sd_B lo hi (sd_vt lo hi t) ∧ sd_ix lo hi (sd_vt lo hi t) 7 = t := by
  intro t
  induction t with
  | zero => intro _; exact ⟨fun k hk => ⟨Nat.le_refl _, hl k hk⟩, sd_ix_lo 7 (Nat.le_refl 7) (fun _ _ _ => rfl)⟩
  | succ t ih =>
    intro ht
    obtain ⟨hB, hx⟩ := ih (by omega)
    rcases sd_last hB with g | ⟨k, hk, h, hm⟩
    · have := sd_ix_max (lo := lo) 7 (Nat.le_refl 7) (fun k a _ => g k a)
      exfalso; omega
    · refine ⟨sd_nx_B hB, ?_⟩
      have := sd_nx_ix hB hk hm h
      rw [hx] at this
      exact this
theorem sd_vt_end {lo hi : Nat → Nat} (hl : ∀ k, k < 7 → lo k ≤ hi k) {t : Nat} (ht : t < sd_W lo hi 7) : (∀ j, j < 7 → sd_vt lo hi t j = hi j) ↔ t + 1 = sd_W lo hi 7 := by
  obtain ⟨hB, hx⟩ := sd_vt_ok hl t ht
  constructor
  · intro g
    have := sd_ix_max (lo := lo) 7 (Nat.le_refl 7) (fun k a _ => g k a)
    omega
  · intro e
    rcases sd_last hB with g | ⟨k, hk, h, hm⟩
    · exact g
    · have a := sd_nx_ix hB hk hm h
      have b := sd_ix_lt (sd_nx_B hB) 7 (Nat.le_refl 7)
      exfalso; omega
theorem sd_ix_inj {lo hi v w : Nat → Nat} (hv : sd_B lo hi v) (hw : sd_B lo hi w) : ∀ d, d ≤ 7 → sd_ix lo hi v d = sd_ix lo hi w d → ∀ k, k < 7 → 7 ≤ k + d → v k = w k := by
  intro d
  induction d with
  | zero => intro _ _ k a b; exfalso; omega
  | succ d ih =>
    intro hd h k a b
    simp only [sd_ix] at h
    obtain ⟨x, y⟩ := sd_rad (sd_ix_lt hv d (by omega)) (sd_ix_lt hw d (by omega)) h
    by_cases z : k = 6 - d
    · subst z
      have := hv (6 - d) a
      have := hw (6 - d) a
      omega
    · exact ih (by omega) y k a (by omega)
theorem sd_hit {lo hi v : Nat → Nat} (hv : sd_B lo hi v) : ∃ t, t < sd_W lo hi 7 ∧ ∀ k, k < 7 → sd_vt lo hi t k = v k := by
  have hl : ∀ k, k < 7 → lo k ≤ hi k := fun k hk => Nat.le_trans (hv k hk).1 (hv k hk).2
  have ht := sd_ix_lt hv 7 (Nat.le_refl 7)
  obtain ⟨hB, hx⟩ := sd_vt_ok hl (sd_ix lo hi v 7) ht
  exact ⟨_, ht, fun k hk => sd_ix_inj hB hv 7 (Nat.le_refl 7) hx k hk (by omega)⟩
end
section
/-! what a survey finds: (ways, least, most, firsts, lows, highs) after t trials -/
abbrev sd_R : Type := Nat × Int32 × Int32 × (Nat → Int32) × (Nat → Int32) × (Nat → Int32)
noncomputable def sd_nt (c : Int32) (n : Nat → Int32) (r : sd_R) : sd_R :=
  if r.1 = 0 then (1, c, c, n, n, n)
  else if r.2.1 ≤ c then
    (if c = r.2.1 then (r.1 + 1, r.2.1, (if c ≤ r.2.2.1 then r.2.2.1 else c), r.2.2.2.1, (fun k => if r.2.2.2.2.1 k ≤ n k then r.2.2.2.2.1 k else n k), (fun k => if n k ≤ r.2.2.2.2.2 k then r.2.2.2.2.2 k else n k))
    else (r.1, r.2.1, (if c ≤ r.2.2.1 then r.2.2.1 else c), r.2.2.2.1, r.2.2.2.2.1, r.2.2.2.2.2))
  else (1, c, (if c ≤ r.2.2.1 then r.2.2.1 else c), n, n, n)
noncomputable def sd_rs (lo hi : Nat → Nat) (ok : (Nat → Nat) → Bool) (cs : (Nat → Nat) → Int32) : Nat → sd_R
  | 0 => (0, 0, 0, (fun _ => 0), (fun _ => 0), (fun _ => 0))
  | t + 1 => if ok (sd_vt lo hi t) = true then sd_nt (cs (sd_vt lo hi t)) (fun k => nI (sd_vt lo hi t k)) (sd_rs lo hi ok cs t) else sd_rs lo hi ok cs t
theorem sd_nt_0 {c : Int32} {n : Nat → Int32} {r : sd_R} (h : r.1 = 0) : sd_nt c n r = (1, c, c, n, n, n) := by
  unfold sd_nt; rw [if_pos h]
theorem sd_nt_l {c : Int32} {n : Nat → Int32} {r : sd_R} (h : ¬ r.1 = 0) (hc : ¬ r.2.1 ≤ c) : sd_nt c n r = (1, c, (if c ≤ r.2.2.1 then r.2.2.1 else c), n, n, n) := by
  unfold sd_nt; rw [if_neg h, if_neg hc]
theorem sd_nt_e {c : Int32} {n : Nat → Int32} {r : sd_R} (h : ¬ r.1 = 0) (hc : r.2.1 ≤ c) (he : c = r.2.1) : sd_nt c n r = (r.1 + 1, r.2.1, (if c ≤ r.2.2.1 then r.2.2.1 else c), r.2.2.2.1, (fun k => if r.2.2.2.2.1 k ≤ n k then r.2.2.2.2.1 k else n k), (fun k => if n k ≤ r.2.2.2.2.2 k then r.2.2.2.2.2 k else n k)) := by
  unfold sd_nt; rw [if_neg h, if_pos hc, if_pos he]
theorem sd_nt_g {c : Int32} {n : Nat → Int32} {r : sd_R} (h : ¬ r.1 = 0) (hc : r.2.1 ≤ c) (he : ¬ c = r.2.1) : sd_nt c n r = (r.1, r.2.1, (if c ≤ r.2.2.1 then r.2.2.1 else c), r.2.2.2.1, r.2.2.2.2.1, r.2.2.2.2.2) := by
  unfold sd_nt; rw [if_neg h, if_pos hc, if_neg he]
theorem sd_nt_w (c : Int32) (n : Nat → Int32) (r : sd_R) : (sd_nt c n r).1 ≤ r.1 + 1 ∧ (sd_nt c n r).1 ≠ 0 := by
  by_cases h : r.1 = 0
  · rw [sd_nt_0 h]; exact ⟨by dsimp only; omega, Nat.one_ne_zero⟩
  · by_cases hc : r.2.1 ≤ c
    · by_cases he : c = r.2.1
      · rw [sd_nt_e h hc he]; exact ⟨Nat.le_refl _, Nat.succ_ne_zero _⟩
      · rw [sd_nt_g h hc he]; exact ⟨Nat.le_succ _, h⟩
    · rw [sd_nt_l h hc]; exact ⟨by dsimp only; omega, Nat.one_ne_zero⟩
theorem sd_nt_m (c : Int32) (n : Nat → Int32) (r : sd_R) : (sd_nt c n r).2.1 = c ∧ (r.1 = 0 ∨ c ≤ r.2.1) ∨ (sd_nt c n r).2.1 = r.2.1 ∧ r.1 ≠ 0 ∧ r.2.1 ≤ c := by
  by_cases h : r.1 = 0
  · rw [sd_nt_0 h]; exact Or.inl ⟨rfl, Or.inl h⟩
  · by_cases hc : r.2.1 ≤ c
    · by_cases he : c = r.2.1
      · rw [sd_nt_e h hc he]; exact Or.inr ⟨rfl, h, hc⟩
      · rw [sd_nt_g h hc he]; exact Or.inr ⟨rfl, h, hc⟩
    · rw [sd_nt_l h hc]; exact Or.inl ⟨rfl, Or.inr (Int32.le_of_lt (Int32.not_le.mp hc))⟩
section
variable {lo hi : Nat → Nat} {ok : (Nat → Nat) → Bool} {cs : (Nat → Nat) → Int32}
theorem sd_rs_y {t : Nat} (h : ok (sd_vt lo hi t) = true) : sd_rs lo hi ok cs (t + 1) = sd_nt (cs (sd_vt lo hi t)) (fun k => nI (sd_vt lo hi t k)) (sd_rs lo hi ok cs t) := by
  show (if ok (sd_vt lo hi t) = true then _ else _) = _
  rw [if_pos h]
theorem sd_rs_n {t : Nat} (h : ok (sd_vt lo hi t) = false) : sd_rs lo hi ok cs (t + 1) = sd_rs lo hi ok cs t := by
  show (if ok (sd_vt lo hi t) = true then _ else _) = _
  rw [if_neg (by rw [h]; decide)]
theorem sd_rs_w : ∀ t, (sd_rs lo hi ok cs t).1 ≤ t := by
  intro t
  induction t with
  | zero => exact Nat.le_refl 0
  | succ t ih =>
    cases h : ok (sd_vt lo hi t) with
    | false => rw [sd_rs_n h]; omega
    | true =>
      rw [sd_rs_y h]
      have := (sd_nt_w (cs (sd_vt lo hi t)) (fun k => nI (sd_vt lo hi t k)) (sd_rs lo hi ok cs t)).1
      omega
theorem sd_rs_m : ∀ t, ((sd_rs lo hi ok cs t).1 = 0 ∧ ∀ s, s < t → ok (sd_vt lo hi s) = false) ∨ ((sd_rs lo hi ok cs t).1 ≠ 0 ∧ (∃ s, s < t ∧ ok (sd_vt lo hi s) = true ∧ (sd_rs lo hi ok cs t).2.1 = cs (sd_vt lo hi s)) ∧ ∀ s, s < t → ok (sd_vt lo hi s) = true → (sd_rs lo hi ok cs t).2.1 ≤ cs (sd_vt lo hi s)) := by
  intro t
  induction t with
  | zero => exact Or.inl ⟨rfl, fun s h => absurd h (Nat.not_lt_zero s)⟩
  | succ t ih =>
    cases h : ok (sd_vt lo hi t) with
    | false =>
      rw [sd_rs_n h]
      rcases ih with ⟨a, b⟩ | ⟨a, ⟨s, hs, hk, he⟩, c⟩
      · refine Or.inl ⟨a, fun s hs => ?_⟩
        by_cases z : s = t
        · rw [z]; exact h
        · exact b s (by omega)
      · refine Or.inr ⟨a, ⟨s, by omega, hk, he⟩, fun s' hs' hk' => ?_⟩
        by_cases z : s' = t
        · rw [z, h] at hk'; cases hk'
        · exact c s' (by omega) hk'
    | true =>
      rw [sd_rs_y h]
      refine Or.inr ⟨(sd_nt_w _ _ _).2, ?_⟩
      rcases sd_nt_m (cs (sd_vt lo hi t)) (fun k => nI (sd_vt lo hi t k)) (sd_rs lo hi ok cs t) with ⟨e, g⟩ | ⟨e, g, l⟩
      · refine ⟨⟨t, by omega, h, e⟩, fun s hs hk => ?_⟩
        rw [e]
        by_cases z : s = t
        · rw [z]; exact Int32.le_refl _
        · rcases ih with ⟨a, b⟩ | ⟨a, _, c⟩
          · have := b s (by omega)
            rw [this] at hk; cases hk
          · rcases g with g | g
            · exact absurd g a
            · exact Int32.le_trans g (c s (by omega) hk)
      · rcases ih with ⟨a, _⟩ | ⟨_, ⟨s, hs, hk, he⟩, c⟩
        · exact absurd a g
        · refine ⟨⟨s, by omega, hk, by rw [e]; exact he⟩, fun s' hs' hk' => ?_⟩
          rw [e]
          by_cases z : s' = t
          · rw [z]; exact l
          · exact c s' (by omega) hk'
end
theorem sd_rs_same {lo hi lo' hi' : Nat → Nat} {ok ok' : (Nat → Nat) → Bool} {cs cs' : (Nat → Nat) → Int32} {T T' : Nat}
    (f : ∀ s, s < T → ok (sd_vt lo hi s) = true → ∃ s', s' < T' ∧ ok' (sd_vt lo' hi' s') = true ∧ cs' (sd_vt lo' hi' s') = cs (sd_vt lo hi s))
    (g : ∀ s, s < T' → ok' (sd_vt lo' hi' s) = true → ∃ s', s' < T ∧ ok (sd_vt lo hi s') = true ∧ cs (sd_vt lo hi s') = cs' (sd_vt lo' hi' s)) :
    ((sd_rs lo hi ok cs T).1 = 0 ∧ (sd_rs lo' hi' ok' cs' T').1 = 0) ∨ ((sd_rs lo hi ok cs T).1 ≠ 0 ∧ (sd_rs lo' hi' ok' cs' T').1 ≠ 0 ∧ (sd_rs lo hi ok cs T).2.1 = (sd_rs lo' hi' ok' cs' T').2.1) := by
  rcases sd_rs_m (lo := lo) (hi := hi) (ok := ok) (cs := cs) T with ⟨a, b⟩ | ⟨a, ⟨s, hs, hk, he⟩, c⟩
  · rcases sd_rs_m (lo := lo') (hi := hi') (ok := ok') (cs := cs') T' with ⟨a', b'⟩ | ⟨a', ⟨s', hs', hk', he'⟩, c'⟩
    · exact Or.inl ⟨a, a'⟩
    · obtain ⟨q, hq, hqk, _⟩ := g s' hs' hk'
      rw [b q hq] at hqk; cases hqk
  · rcases sd_rs_m (lo := lo') (hi := hi') (ok := ok') (cs := cs') T' with ⟨a', b'⟩ | ⟨a', ⟨s', hs', hk', he'⟩, c'⟩
    · obtain ⟨q, hq, hqk, _⟩ := f s hs hk
      rw [b' q hq] at hqk; cases hqk
    · refine Or.inr ⟨a, a', Int32.le_antisymm ?_ ?_⟩
      · obtain ⟨q, hq, hqk, e⟩ := g s' hs' hk'
        rw [he', ← e]; exact c q hq hqk
      · obtain ⟨q, hq, hqk, e⟩ := f s hs hk
        rw [he, ← e]; exact c' q hq hqk
/-! sums over the lines, in Int32 -/
def sd_sum (f : Nat → Int32) : Nat → Int32
  | 0 => 0
  | n + 1 => sd_sum f n + f n
theorem sd_sum_c {f g : Nat → Int32} : ∀ n, (∀ j, j < n → f j = g j) → sd_sum f n = sd_sum g n := by
  intro n
  induction n with
  | zero => intro _; rfl
  | succ n ih =>
    intro h
    simp only [sd_sum]
    rw [ih (fun j hj => h j (by omega)), h n (by omega)]
theorem sd_sum_1 {f g : Nat → Int32} {k : Nat} : ∀ n, k < n → (∀ j, j < n → j ≠ k → g j = f j) → sd_sum g n = sd_sum f n + (g k - f k) := by
  intro n
  induction n with
  | zero => intro h; exact absurd h (Nat.not_lt_zero k)
  | succ n ih =>
    intro hk h
    simp only [sd_sum]
    by_cases z : k = n
    · subst z
      rw [sd_sum_c (f := g) (g := f) k (fun j hj => h j (by omega) (by omega))]
      grind
    · rw [ih (by omega) (fun j hj hn => h j (by omega) hn), h n (by omega) (fun e => z e.symm)]
      grind
def sd_S (src tgt : Nat → Int32) (v : Nat → Nat) (p : Nat) : Int32 := sd_sum (fun k => (if (src k).toNatClampNeg = p then nI (v k) else 0) - (if (tgt k).toNatClampNeg = p then nI (v k) else 0)) 7
def sd_C (pr : Nat → Int32) (v : Nat → Nat) : Int32 := sd_sum (fun k => nI (v k) * pr k) 7
theorem sd_S_c {src tgt : Nat → Int32} {v w : Nat → Nat} {p : Nat} (h : ∀ k, k < 7 → v k = w k) : sd_S src tgt v p = sd_S src tgt w p := by
  unfold sd_S
  exact sd_sum_c 7 (fun j hj => by rw [h j hj])
theorem sd_C_c {pr : Nat → Int32} {v w : Nat → Nat} (h : ∀ k, k < 7 → v k = w k) : sd_C pr v = sd_C pr w := by
  unfold sd_C
  exact sd_sum_c 7 (fun j hj => by rw [h j hj])
theorem sd_S_1 {src tgt : Nat → Int32} {v w : Nat → Nat} {k p : Nat} (hk : k < 7) (h : ∀ j, j < 7 → j ≠ k → w j = v j) : sd_S src tgt w p = sd_S src tgt v p + (if (src k).toNatClampNeg = p then nI (w k) - nI (v k) else 0) - (if (tgt k).toNatClampNeg = p then nI (w k) - nI (v k) else 0) := by
  unfold sd_S
  rw [sd_sum_1 (f := fun k => (if (src k).toNatClampNeg = p then nI (v k) else 0) - (if (tgt k).toNatClampNeg = p then nI (v k) else 0)) 7 hk (fun j hj hn => by rw [h j hj hn])]
  by_cases a : (src k).toNatClampNeg = p
  · by_cases b : (tgt k).toNatClampNeg = p
    · simp only [a, b, if_true]; grind
    · simp only [a, b, if_true, if_false]; grind
  · by_cases b : (tgt k).toNatClampNeg = p
    · simp only [a, b, if_true, if_false]; grind
    · simp only [a, b, if_false]; grind
theorem sd_C_1 {pr : Nat → Int32} {v w : Nat → Nat} {k : Nat} (hk : k < 7) (h : ∀ j, j < 7 → j ≠ k → w j = v j) : sd_C pr w = sd_C pr v + (nI (w k) - nI (v k)) * pr k := by
  unfold sd_C
  rw [sd_sum_1 (f := fun k => nI (v k) * pr k) 7 hk (fun j hj hn => by rw [h j hj hn])]
  grind
/-- a price: -9 .. 9 -/
def sd_P (x : Int32) : Prop := ∃ z : Int, -9 ≤ z ∧ z ≤ 9 ∧ x = Int32.ofInt z
theorem sd_C_z {pr : Nat → Int32} {v : Nat → Nat} (hp : ∀ k, k < 7 → sd_P (pr k)) (hv : ∀ k, k < 7 → v k ≤ 4) : ∀ n : Nat, n ≤ 7 → ∃ z : Int, -36 * (n : Int) ≤ z ∧ z ≤ 36 * (n : Int) ∧ sd_sum (fun k => nI (v k) * pr k) n = Int32.ofInt z := by
  intro n
  induction n with
  | zero => intro _; exact ⟨0, by omega, by omega, rfl⟩
  | succ n ih =>
    intro hn
    obtain ⟨z, h1, h2, e⟩ := ih (by omega)
    obtain ⟨y, h3, h4, ey⟩ := hp n (by omega)
    have hv' := hv n (by omega)
    refine ⟨z + (v n : Int) * y, ?_, ?_, ?_⟩
    · have : v n = 0 ∨ v n = 1 ∨ v n = 2 ∨ v n = 3 ∨ v n = 4 := by omega
      rcases this with q | q | q | q | q <;> rw [q] <;> omega
    · have : v n = 0 ∨ v n = 1 ∨ v n = 2 ∨ v n = 3 ∨ v n = 4 := by omega
      rcases this with q | q | q | q | q <;> rw [q] <;> omega
    · simp only [sd_sum]
      rw [e, ey, Int32.ofInt_add, Int32.ofInt_mul, Int32.ofInt_eq_ofNat]
      rfl
theorem sd_C_ne {pr : Nat → Int32} {v : Nat → Nat} (hp : ∀ k, k < 7 → sd_P (pr k)) (hv : ∀ k, k < 7 → v k ≤ 4) : sd_C pr v ≠ -100000 := by
  obtain ⟨z, h1, h2, e⟩ := sd_C_z hp hv 7 (Nat.le_refl 7)
  intro h
  unfold sd_C at h
  rw [e] at h
  have t := congrArg Int32.toInt h
  rw [Int32.toInt_ofInt_of_le (by omega) (by omega)] at t
  have m : (-100000 : Int32).toInt = -100000 := by decide
  omega
end
section
/-! X: its small methods, each with a general post -/
theorem sd_7n {j : Nat} (h : j < 7) : ¬ (7 : Int32) ≤ nI j := nI_ge (b := 7) h (by decide)
theorem sd_7y : (7 : Int32) ≤ nI 7 := by decide
theorem sd_5n {j : Nat} (h : j < 5) : ¬ (5 : Int32) ≤ nI j := nI_ge (b := 5) h (by decide)
theorem sd_5y : (5 : Int32) ≤ nI 5 := by decide
theorem sd_up2 (f : Nat → Int32) (a b p : Nat) (m : Int32) : upd (upd f a (f a + m)) b (upd f a (f a + m) b - m) p = f p + (if a = p then m else 0) - (if b = p then m else 0) := by
  by_cases ha : a = p
  · subst ha
    by_cases hb : b = a
    · subst hb
      rw [pk_us, pk_us, if_pos rfl]
    · rw [pk_un (fun e => hb e.symm), pk_us, if_pos rfl, if_neg hb, Int32.sub_zero]
  · by_cases hb : b = p
    · subst hb
      rw [pk_us, pk_un (fun e => ha e.symm), if_neg ha, if_pos rfl, Int32.add_zero]
    · rw [pk_un (fun e => hb e.symm), pk_un (fun e => ha e.symm), if_neg ha, if_neg hb, Int32.add_zero, Int32.sub_zero]
theorem sd_ask35 {sp fo bc lc gc : Int32} {pe so ta ro pc ow lw hg nu se fb sb lb : Nat → Int32} {post : SX → Prop} : ∀ (d j : Nat) (wn : Nat → Int32), j + d = 5 → (∀ p, p < j → wn p = ow p) → (∀ wn' : Nat → Int32, (∀ p, p < 5 → wn' p = ow p) → post (sp, fo, bc, lc, gc, pe, so, ta, ro, pc, ow, lw, hg, wn', nu, se, fb, sb, lb)) → wX_askAsItIs_35 post sp fo bc lc gc (d + 1) (nI j) pe so ta ro pc ow lw hg wn nu se fb sb lb := by
  intro d
  induction d with
  | zero =>
    intro j wn hj h H
    obtain rfl : j = 5 := by omega
    exact br_t sd_5y (H wn h)
  | succ d ih =>
    intro j wn hj h H
    have hi : vp_in (nI j) 5 := vp_in_nI (by omega) (by omega)
    have cj : (nI j).toNatClampNeg = j := nI_clamp (by omega)
    refine br_f (sd_5n (by omega)) ⟨hi, hi, nm_e (nm_r (nI_1 j) ?_)⟩
    rw [cj]
    exact ih (j + 1) _ (by omega) (lt_s (fun p hp => by rw [pk_un (by omega)]; exact h p hp) pk_us) H
theorem sd_ask2 {sp fo bc lc gc : Int32} {pe so ta ro pc ow wn nu se fb sb lb : Nat → Int32} {post : SX → Prop} : ∀ (d j : Nat) (lw hg : Nat → Int32), j + d = 7 → (∀ k, k < j → lw k = 0) → (∀ k, k < j → hg k = ro k) → (∀ lw' hg' wn' : Nat → Int32, (∀ k, k < 7 → lw' k = 0) → (∀ k, k < 7 → hg' k = ro k) → (∀ p, p < 5 → wn' p = ow p) → post (sp, fo, bc, lc, gc, pe, so, ta, ro, pc, ow, lw', hg', wn', nu, se, fb, sb, lb)) → wX_askAsItIs_2 post sp fo bc lc gc (d + 1) (nI j) pe so ta ro pc ow lw hg wn nu se fb sb lb := by
  intro d
  induction d with
  | zero =>
    intro j lw hg hj h1 h2 H
    obtain rfl : j = 7 := by omega
    exact br_t sd_7y ⟨6, sd_ask35 5 0 wn rfl lt_0 (fun wn' h3 => H lw hg wn' h1 h2 h3)⟩
  | succ d ih =>
    intro j lw hg hj h1 h2 H
    have hi : vp_in (nI j) 7 := vp_in_nI (by omega) (by omega)
    have cj : (nI j).toNatClampNeg = j := nI_clamp (by omega)
    refine br_f (sd_7n (by omega)) ⟨hi, nm_e ⟨hi, hi, nm_e (nm_r (nI_1 j) ?_)⟩⟩
    rw [cj]
    exact ih (j + 1) _ _ (by omega) (lt_s (fun p hp => by rw [pk_un (by omega)]; exact h1 p hp) pk_us) (lt_s (fun p hp => by rw [pk_un (by omega)]; exact h2 p hp) pk_us) H
theorem sd_ask {sp fo bc lc gc : Int32} {pe so ta ro pc ow lw hg wn nu se fb sb lb : Nat → Int32} {post : SX → Prop} (H : ∀ lw' hg' wn' : Nat → Int32, (∀ k, k < 7 → lw' k = 0) → (∀ k, k < 7 → hg' k = ro k) → (∀ p, p < 5 → wn' p = ow p) → post (sp, fo, bc, lc, gc, pe, so, ta, ro, pc, ow, lw', hg', wn', nu, se, fb, sb, lb)) : wpX_askAsItIs post (sp, fo, bc, lc, gc, pe, so, ta, ro, pc, ow, lw, hg, wn, nu, se, fb, sb, lb) :=
  ⟨8, sd_ask2 7 0 lw hg rfl lt_0 lt_0 H⟩
/-- sums and cost of the vector v -/
def sd_M (so ta pc : Nat → Int32) (v : Nat → Nat) (se : Nat → Int32) (sp : Int32) : Prop := (∀ p, p < 5 → se p = sd_S so ta v p) ∧ sp = sd_C pc v
theorem sd_M_c {so ta pc : Nat → Int32} {v w : Nat → Nat} {se : Nat → Int32} {sp : Int32} (h : ∀ k, k < 7 → v k = w k) (hM : sd_M so ta pc v se sp) : sd_M so ta pc w se sp :=
  ⟨fun p hp => by rw [hM.1 p hp]; exact sd_S_c h, by rw [hM.2]; exact sd_C_c h⟩
theorem sd_give {sp fo bc lc gc : Int32} {pe so ta ro pc ow lw hg wn nu se fb sb lb : Nat → Int32} {post : SX → Prop} {v w : Nat → Nat} {k : Nat} {n : Int32} (hk : k < 7) (hs : vp_in (so k) 5) (ht : vp_in (ta k) 5) (hw : ∀ j, j < 7 → j ≠ k → w j = v j) (en : n = nI (w k)) (hn : nu k = nI (v k)) (hM : sd_M so ta pc v se sp) (H : ∀ (se' : Nat → Int32) (sp' : Int32), sd_M so ta pc w se' sp' → post (sp', fo, bc, lc, gc, pe, so, ta, ro, pc, ow, lw, hg, wn, upd nu k (nI (w k)), se', fb, sb, lb)) : wpX_giveNumber post (sp, fo, bc, lc, gc, pe, so, ta, ro, pc, ow, lw, hg, wn, nu, se, fb, sb, lb) (nI k) n := by
  have ck : (nI k).toNatClampNeg = k := nI_clamp (by omega)
  have hi : vp_in (nI k) 7 := vp_in_nI hk (by omega)
  subst en
  unfold wpX_giveNumber
  dsimp only
  rw [ck]
  refine ⟨hi, nm_e ⟨hi, nm_e ⟨hi, hs, hs, nm_e ⟨hi, ht, ht, nm_e ⟨hi, nm_e (H _ _ ⟨fun p hp => ?_, ?_⟩)⟩⟩⟩⟩⟩
  · rw [sd_S_1 hk hw, ← hM.1 p hp, hn]; exact sd_up2 _ _ _ _ _
  · rw [sd_C_1 hk hw, hM.2, hn]
/-! startTrials -/
def sd_pp (lo hi : Nat → Nat) : Nat → Nat
  | 0 => 1
  | n + 1 => sd_pp lo hi n * (hi n - lo n + 1)
theorem sd_pp_W (lo hi : Nat → Nat) : ∀ i, i ≤ 7 → sd_pp lo hi i * sd_W lo hi (7 - i) = sd_W lo hi 7 := by
  intro i
  induction i with
  | zero => intro _; exact Nat.one_mul _
  | succ i ih =>
    intro h
    have e := ih (by omega)
    have z : 7 - i = (7 - (i + 1)) + 1 := by omega
    have y : 6 - (7 - (i + 1)) = i := by omega
    rw [z] at e
    simp only [sd_W] at e
    rw [y, ← Nat.mul_assoc] at e
    exact e
theorem sd_pp_7 (lo hi : Nat → Nat) : sd_pp lo hi 7 = sd_W lo hi 7 := by
  have e := sd_pp_W lo hi 7 (Nat.le_refl 7)
  rw [Nat.sub_self] at e
  exact (Nat.mul_one _).symm.trans e
theorem sd_W_le {lo hi : Nat → Nat} (h : ∀ k, k < 7 → hi k ≤ 4) : ∀ d, d ≤ 7 → sd_W lo hi d ≤ 5 ^ d := by
  intro d
  induction d with
  | zero => intro _; exact Nat.le_refl 1
  | succ d ih =>
    intro hd
    have a := ih (by omega)
    have b := h (6 - d) (by omega)
    simp only [sd_W]
    rw [Nat.pow_succ, Nat.mul_comm (5 ^ d) 5]
    exact Nat.mul_le_mul (by omega) a
theorem sd_W_7 {lo hi : Nat → Nat} (h : ∀ k, k < 7 → hi k ≤ 4) : sd_W lo hi 7 < 2 ^ 31 :=
  Nat.lt_of_le_of_lt (sd_W_le h 7 (Nat.le_refl 7)) (by decide)
theorem sd_sum_0 {f : Nat → Int32} (n : Nat) (h : ∀ j, j < n → f j = 0) : sd_sum f n = 0 := by
  induction n with
  | zero => rfl
  | succ n ih =>
    simp only [sd_sum]
    rw [ih (fun j hj => h j (by omega)), h n (by omega), Int32.add_zero]
theorem sd_M_0 {so ta pc : Nat → Int32} {v : Nat → Nat} {se : Nat → Int32} (hv : ∀ k, k < 7 → v k = 0) (h : ∀ p, p < 5 → se p = 0) : sd_M so ta pc v se 0 := by
  refine ⟨fun p hp => ?_, ?_⟩
  · rw [h p hp]
    unfold sd_S
    refine (sd_sum_0 7 (fun j hj => ?_)).symm
    rw [hv j hj, nI_0, ite_self, ite_self, Int32.sub_zero]
  · unfold sd_C
    refine (sd_sum_0 7 (fun j hj => ?_)).symm
    rw [hv j hj, nI_0, Int32.zero_mul]
def sd_iv (lo : Nat → Nat) (i : Nat) : Nat → Nat := fun j => if j < i then lo j else 0
theorem sd_st29 {fo bc lc gc : Int32} {pe so ta ro pc ow lw hg wn fb sb lb : Nat → Int32} {post : Int32 → SX → Prop} {lo hi : Nat → Nat} (hl : ∀ k, k < 7 → lo k ≤ hi k) (hlw : ∀ k, k < 7 → lw k = nI (lo k)) (hhg : ∀ k, k < 7 → hg k = nI (hi k)) (hs : ∀ k, k < 7 → vp_in (so k) 5) (ht : ∀ k, k < 7 → vp_in (ta k) 5) : ∀ (d i : Nat) (sp : Int32) (nu se : Nat → Int32), i + d = 7 → (∀ k, k < i → nu k = nI (lo k)) → sd_M so ta pc (sd_iv lo i) se sp → (∀ (sp' : Int32) (nu' se' : Nat → Int32), (∀ k, k < 7 → nu' k = nI (lo k)) → sd_M so ta pc lo se' sp' → post (nI (sd_W lo hi 7)) (sp', fo, bc, lc, gc, pe, so, ta, ro, pc, ow, lw, hg, wn, nu', se', fb, sb, lb)) → wX_startTrials_29 post (d + 1) (nI (sd_pp lo hi i)) (nI i) sp fo bc lc gc pe so ta ro pc ow lw hg wn nu se fb sb lb := by
  intro d
  induction d with
  | zero =>
    intro i sp nu se hi' hn hM H
    obtain rfl : i = 7 := by omega
    rw [sd_pp_7]
    exact br_t sd_7y (H sp nu se hn (sd_M_c (fun k hk => if_pos hk) hM))
  | succ d ih =>
    intro i sp nu se hi' hn hM H
    have hin : vp_in (nI i) 7 := vp_in_nI (by omega) (by omega)
    have ci : (nI i).toNatClampNeg = i := nI_clamp (by omega)
    refine br_f (sd_7n (by omega)) ⟨hin, nm_e ⟨hin, ?_⟩⟩
    rw [ci]
    refine sd_give (v := sd_iv lo i) (w := sd_iv lo (i + 1)) (by omega) (hs i (by omega)) (ht i (by omega)) (fun j hj hne => ?_) ?_ ?_ hM (fun se' sp' hM' => ?_)
    · unfold sd_iv
      by_cases z : j < i
      · rw [if_pos z, if_pos (by omega)]
      · rw [if_neg z, if_neg (by omega)]
    · rw [hlw i (by omega)]
      exact congrArg nI (if_pos (Nat.lt_succ_self i)).symm
    · rw [pk_us]
      exact (congrArg nI (if_neg (Nat.lt_irrefl i) : sd_iv lo i i = 0)).symm
    · dsimp only
      have e1 : nI (sd_pp lo hi i) * (hg i - lw i + 1) = nI (sd_pp lo hi (i + 1)) := by
        rw [hlw i (by omega), hhg i (by omega), pk_sub (hl i (by omega)), nI_1, pk_mul]
        rfl
      refine ⟨hin, hin, nm_r e1 (nm_r (nI_1 i) ?_)⟩
      refine ih (i + 1) sp' _ se' (by omega) (lt_s (fun k hk => ?_) ?_) hM' H
      · rw [pk_un (by omega), pk_un (by omega)]; exact hn k hk
      · rw [pk_us]; exact congrArg nI (if_pos (Nat.lt_succ_self i))
theorem sd_st9 {sp fo bc lc gc : Int32} {pe so ta ro pc ow lw hg wn nu fb sb lb : Nat → Int32} {x1 : Int32} {post : Int32 → SX → Prop} : ∀ (d j : Nat) (se : Nat → Int32), j + d = 5 → (∀ p, p < j → se p = 0) → (∀ se' : Nat → Int32, (∀ p, p < 5 → se' p = 0) → ∃ n, wX_startTrials_29 post n x1 0 sp fo bc lc gc pe so ta ro pc ow lw hg wn nu se' fb sb lb) → wX_startTrials_9 post x1 sp fo bc lc gc (d + 1) (nI j) pe so ta ro pc ow lw hg wn nu se fb sb lb := by
  intro d
  induction d with
  | zero =>
    intro j se hj h H
    obtain rfl : j = 5 := by omega
    exact br_t sd_5y (H se h)
  | succ d ih =>
    intro j se hj h H
    have hi : vp_in (nI j) 5 := vp_in_nI (by omega) (by omega)
    have cj : (nI j).toNatClampNeg = j := nI_clamp (by omega)
    refine br_f (sd_5n (by omega)) ⟨hi, nm_e (nm_r (nI_1 j) ?_)⟩
    rw [cj]
    exact ih (j + 1) _ (by omega) (lt_s (fun p hp => by rw [pk_un (by omega)]; exact h p hp) pk_us) H
theorem sd_start {sp fo bc lc gc : Int32} {pe so ta ro pc ow lw hg wn nu se fb sb lb : Nat → Int32} {post : Int32 → SX → Prop} {lo hi : Nat → Nat} (hl : ∀ k, k < 7 → lo k ≤ hi k) (hlw : ∀ k, k < 7 → lw k = nI (lo k)) (hhg : ∀ k, k < 7 → hg k = nI (hi k)) (hs : ∀ k, k < 7 → vp_in (so k) 5) (ht : ∀ k, k < 7 → vp_in (ta k) 5) (H : ∀ (sp' : Int32) (nu' se' : Nat → Int32), (∀ k, k < 7 → nu' k = nI (lo k)) → sd_M so ta pc lo se' sp' → post (nI (sd_W lo hi 7)) (sp', fo, bc, lc, gc, pe, so, ta, ro, pc, ow, lw, hg, wn, nu', se', fb, sb, lb)) : wpX_startTrials post (sp, fo, bc, lc, gc, pe, so, ta, ro, pc, ow, lw, hg, wn, nu, se, fb, sb, lb) :=
  ⟨6, sd_st9 5 0 se rfl lt_0 (fun se' h => ⟨8, sd_st29 hl hlw hhg hs ht 7 0 0 nu se' rfl lt_0 (sd_M_0 (fun _ _ => if_neg (Nat.not_lt_zero _)) h) H⟩)⟩
/-! isShipment -/
theorem sd_ship2 {sp fo bc lc gc : Int32} {pe so ta ro pc ow lw hg wn nu se fb sb lb : Nat → Int32} {post : Int32 → Prop} (h1 : (∀ p, p < 5 → se p = wn p) → post 1) (h0 : (¬ ∀ p, p < 5 → se p = wn p) → post 0) : ∀ d j : Nat, j + d = 5 → (∀ p, p < j → se p = wn p) → wX_isShipment_2 post sp fo bc lc gc pe so ta ro pc ow lw hg wn nu se fb sb lb (d + 1) (nI j) := by
  intro d
  induction d with
  | zero =>
    intro j hj h
    obtain rfl : j = 5 := by omega
    exact br_t sd_5y (h1 h)
  | succ d ih =>
    intro j hj h
    have hi : vp_in (nI j) 5 := vp_in_nI (by omega) (by omega)
    have cj : (nI j).toNatClampNeg = j := nI_clamp (by omega)
    refine br_f (sd_5n (by omega)) ⟨hi, hi, ?_⟩
    rw [cj]
    exact br_c (fun z => nm_r (nI_1 j) (ih (j + 1) (by omega) (lt_s h z))) (fun z => h0 (fun g => z (g j (by omega))))
theorem sd_ship {sp fo bc lc gc : Int32} {pe so ta ro pc ow lw hg wn nu se fb sb lb : Nat → Int32} {post : Int32 → Prop} (h1 : (∀ p, p < 5 → se p = wn p) → post 1) (h0 : (¬ ∀ p, p < 5 → se p = wn p) → post 0) : wpX_isShipment post (sp, fo, bc, lc, gc, pe, so, ta, ro, pc, ow, lw, hg, wn, nu, se, fb, sb, lb) :=
  ⟨6, sd_ship2 h1 h0 5 0 rfl lt_0⟩
end
section
/-! X: what it notes, its next trial, its survey -/
def sd_XF (r : sd_R) (fo bc lc gc : Int32) (fb sb lb : Nat → Int32) : Prop :=
  (r.1 = 0 ∧ fo = 0 ∧ bc = 0) ∨ (r.1 ≠ 0 ∧ fo = 1 ∧ bc = nI r.1 ∧ lc = r.2.1 ∧ gc = r.2.2.1 ∧ ∀ k, k < 7 → fb k = r.2.2.2.1 k ∧ sb k = r.2.2.2.2.1 k ∧ lb k = r.2.2.2.2.2 k)
theorem sd_nfb15 {sp fo bc lc gc : Int32} {pe so ta ro pc ow lw hg wn nu se : Nat → Int32} {post : SX → Prop} : ∀ (d j : Nat) (fb sb lb : Nat → Int32), j + d = 7 → (∀ k, k < j → fb k = nu k ∧ sb k = nu k ∧ lb k = nu k) → (∀ fb' sb' lb' : Nat → Int32, (∀ k, k < 7 → fb' k = nu k ∧ sb' k = nu k ∧ lb' k = nu k) → post (sp, fo, bc, lc, gc, pe, so, ta, ro, pc, ow, lw, hg, wn, nu, se, fb', sb', lb')) → wX_noteFirstBest_15 post sp fo bc lc gc (d + 1) (nI j) pe so ta ro pc ow lw hg wn nu se fb sb lb := by
  intro d
  induction d with
  | zero =>
    intro j fb sb lb hj h H
    obtain rfl : j = 7 := by omega
    exact br_t sd_7y (H fb sb lb h)
  | succ d ih =>
    intro j fb sb lb hj h H
    have hi : vp_in (nI j) 7 := vp_in_nI (by omega) (by omega)
    have cj : (nI j).toNatClampNeg = j := nI_clamp (by omega)
    refine br_f (sd_7n (by omega)) ⟨hi, hi, nm_e ⟨hi, hi, nm_e ⟨hi, hi, nm_e (nm_r (nI_1 j) ?_)⟩⟩⟩
    rw [cj]
    exact ih (j + 1) _ _ _ (by omega) (lt_s (fun p hp => by rw [pk_un (by omega), pk_un (by omega), pk_un (by omega)]; exact h p hp) ⟨pk_us, pk_us, pk_us⟩) H
theorem sd_nfb {sp fo bc lc gc : Int32} {pe so ta ro pc ow lw hg wn nu se fb sb lb : Nat → Int32} {post : SX → Prop} (H : ∀ fb' sb' lb' : Nat → Int32, (∀ k, k < 7 → fb' k = nu k ∧ sb' k = nu k ∧ lb' k = nu k) → post (sp, fo, 1, sp, gc, pe, so, ta, ro, pc, ow, lw, hg, wn, nu, se, fb', sb', lb')) : wpX_noteFirstBest post (sp, fo, bc, lc, gc, pe, so, ta, ro, pc, ow, lw, hg, wn, nu, se, fb, sb, lb) :=
  ⟨8, sd_nfb15 7 0 fb sb lb rfl lt_0 H⟩
theorem sd_nob12 {sp fo bc lc gc : Int32} {pe so ta ro pc ow lw hg wn nu se fb : Nat → Int32} {post : SX → Prop} {sb0 lb0 : Nat → Int32} : ∀ (d j : Nat) (sb lb : Nat → Int32), j + d = 7 → (∀ k, k < j → sb k = (if sb0 k ≤ nu k then sb0 k else nu k) ∧ lb k = (if nu k ≤ lb0 k then lb0 k else nu k)) → (∀ k, j ≤ k → sb k = sb0 k ∧ lb k = lb0 k) → (∀ sb' lb' : Nat → Int32, (∀ k, k < 7 → sb' k = (if sb0 k ≤ nu k then sb0 k else nu k) ∧ lb' k = (if nu k ≤ lb0 k then lb0 k else nu k)) → post (sp, fo, bc, lc, gc, pe, so, ta, ro, pc, ow, lw, hg, wn, nu, se, fb, sb', lb')) → wX_noteOtherBest_12 post sp fo bc lc gc (d + 1) (nI j) pe so ta ro pc ow lw hg wn nu se fb sb lb := by
  intro d
  induction d with
  | zero =>
    intro j sb lb hj h _ H
    obtain rfl : j = 7 := by omega
    exact br_t sd_7y (H sb lb h)
  | succ d ih =>
    intro j sb lb hj h g H
    have hi : vp_in (nI j) 7 := vp_in_nI (by omega) (by omega)
    have cj : (nI j).toNatClampNeg = j := nI_clamp (by omega)
    have gj := g j (Nat.le_refl j)
    have K : ∀ sb' : Nat → Int32, (∀ k, k < j → sb' k = sb k) → sb' j = (if sb0 j ≤ nu j then sb0 j else nu j) → (∀ k, j + 1 ≤ k → sb' k = sb k) → wX_noteOtherBest_45 post (wX_noteOtherBest_12 post sp fo bc lc gc (d + 1)) (nI j) sp fo bc lc gc pe so ta ro pc ow lw hg wn nu se fb sb' lb := by
      intro sb' a b c
      refine ⟨hi, hi, ?_⟩
      rw [cj]
      refine br_c (fun z => nm_r (nI_1 j) (ih (j + 1) _ _ (by omega) (lt_s (fun k hk => ?_) ⟨b, ?_⟩) (fun k hk => ?_) H)) (fun z => ⟨hi, hi, nm_e (nm_r (nI_1 j) (ih (j + 1) _ _ (by omega) (lt_s (fun k hk => ?_) ⟨b, ?_⟩) (fun k hk => ?_) H))⟩)
      · rw [a k hk]; exact h k hk
      · rw [gj.2] at z ⊢
        rw [if_pos z]
      · rw [c k hk]; exact g k (by omega)
      · rw [a k hk, pk_un (by omega)]; exact h k hk
      · rw [gj.2] at z
        rw [pk_us, if_neg z]
      · rw [c k hk, pk_un (by omega)]; exact g k (by omega)
    refine br_f (sd_7n (by omega)) ⟨hi, hi, ?_⟩
    rw [cj]
    refine br_c (fun z => K sb (fun _ _ => rfl) ?_ (fun _ _ => rfl)) (fun z => ⟨hi, hi, nm_e (K _ (fun k hk => pk_un (by omega)) ?_ (fun k hk => pk_un (by omega)))⟩)
    · rw [gj.1] at z ⊢
      rw [if_pos z]
    · rw [gj.1] at z
      rw [pk_us, if_neg z]
theorem sd_nob {sp fo bc lc gc : Int32} {pe so ta ro pc ow lw hg wn nu se fb sb lb : Nat → Int32} {post : SX → Prop} (H : ∀ sb' lb' : Nat → Int32, (∀ k, k < 7 → sb' k = (if sb k ≤ nu k then sb k else nu k) ∧ lb' k = (if nu k ≤ lb k then lb k else nu k)) → post (sp, fo, bc + 1, lc, gc, pe, so, ta, ro, pc, ow, lw, hg, wn, nu, se, fb, sb', lb')) : wpX_noteOtherBest post (sp, fo, bc, lc, gc, pe, so, ta, ro, pc, ow, lw, hg, wn, nu, se, fb, sb, lb) :=
  nm_e ⟨8, sd_nob12 7 0 sb lb rfl lt_0 (fun _ _ => ⟨rfl, rfl⟩) H⟩
theorem sd_n44 {sp fo bc lc gc : Int32} {pe so ta ro pc ow lw hg wn nu se fb sb lb : Nat → Int32} {post : SX → Prop} (H : ∀ fb' sb' lb' : Nat → Int32, (∀ k, k < 7 → fb' k = nu k ∧ sb' k = nu k ∧ lb' k = nu k) → post (sp, 1, 1, sp, gc, pe, so, ta, ro, pc, ow, lw, hg, wn, nu, se, fb', sb', lb')) : wX_noteShipment_44 post sp fo bc lc gc pe so ta ro pc ow lw hg wn nu se fb sb lb := by
  unfold wX_noteShipment_44
  exact sd_nfb H
theorem sd_n26 {sp fo bc lc gc : Int32} {pe so ta ro pc ow lw hg wn nu se fb sb lb : Nat → Int32} {post : SX → Prop} {r : sd_R} {n : Nat → Int32} (hn : ∀ k, k < 7 → nu k = n k) (h0 : r.1 ≠ 0) (hf : fo = 1) (hb : bc = nI r.1) (hl : lc = r.2.1) (hgc : gc = (if sp ≤ r.2.2.1 then r.2.2.1 else sp)) (hk : ∀ k, k < 7 → fb k = r.2.2.2.1 k ∧ sb k = r.2.2.2.2.1 k ∧ lb k = r.2.2.2.2.2 k) (H : ∀ (bc' lc' : Int32) (fb' sb' lb' : Nat → Int32), sd_XF (sd_nt sp n r) 1 bc' lc' gc fb' sb' lb' → post (sp, 1, bc', lc', gc, pe, so, ta, ro, pc, ow, lw, hg, wn, nu, se, fb', sb', lb')) : wX_noteShipment_26 post sp fo bc lc gc pe so ta ro pc ow lw hg wn nu se fb sb lb := by
  unfold wX_noteShipment_26
  refine br_f (by rw [hf]; decide) ?_
  by_cases c : lc ≤ sp
  · refine br_t c ?_
    by_cases e : sp = lc
    · refine br_t e (sd_nob (fun sb' lb' h => ?_))
      dsimp only
      refine H _ _ _ _ _ (Or.inr ?_)
      rw [hl] at c e
      rw [sd_nt_e h0 c e]
      refine ⟨Nat.succ_ne_zero _, rfl, by rw [hb]; exact nI_1 _, hl, hgc, fun k hk7 => ?_⟩
      obtain ⟨a1, a2, a3⟩ := hk k hk7
      obtain ⟨b1, b2⟩ := h k hk7
      dsimp only
      rw [b1, b2, a1, a2, a3, hn k hk7]
      exact ⟨rfl, rfl, rfl⟩
    · refine br_f e (H _ _ _ _ _ (Or.inr ?_))
      rw [hl] at c e
      rw [sd_nt_g h0 c e]
      exact ⟨h0, rfl, hb, hl, hgc, hk⟩
  · refine br_f c (sd_n44 (fun fb' sb' lb' h => H _ _ _ _ _ (Or.inr ?_)))
    rw [hl] at c
    rw [sd_nt_l h0 c]
    refine ⟨Nat.one_ne_zero, rfl, rfl, rfl, hgc, fun k hk7 => ?_⟩
    dsimp only
    rw [← hn k hk7]
    exact h k hk7
theorem sd_note {sp fo bc lc gc : Int32} {pe so ta ro pc ow lw hg wn nu se fb sb lb : Nat → Int32} {post : SX → Prop} {r : sd_R} {n : Nat → Int32} (hn : ∀ k, k < 7 → nu k = n k) (hX : sd_XF r fo bc lc gc fb sb lb) (H : ∀ (fo' bc' lc' gc' : Int32) (fb' sb' lb' : Nat → Int32), sd_XF (sd_nt sp n r) fo' bc' lc' gc' fb' sb' lb' → post (sp, fo', bc', lc', gc', pe, so, ta, ro, pc, ow, lw, hg, wn, nu, se, fb', sb', lb')) : wpX_noteShipment post (sp, fo, bc, lc, gc, pe, so, ta, ro, pc, ow, lw, hg, wn, nu, se, fb, sb, lb) := by
  unfold wpX_noteShipment
  dsimp only
  rcases hX with ⟨h0, hf, hb⟩ | ⟨h0, hf, hb, hl, hgc, hk⟩
  · refine br_t hf ?_
    unfold wX_noteShipment_18 wX_noteShipment_26
    refine br_t hf (sd_n44 (fun fb' sb' lb' h => H _ _ _ _ _ _ _ (Or.inr ?_)))
    rw [sd_nt_0 h0]
    refine ⟨Nat.one_ne_zero, rfl, rfl, rfl, rfl, fun k hk7 => ?_⟩
    dsimp only
    rw [← hn k hk7]
    exact h k hk7
  · refine br_f (by rw [hf]; decide) ?_
    by_cases c : sp ≤ gc
    · refine br_t c (sd_n26 hn h0 hf hb hl ?_ hk (fun bc' lc' fb' sb' lb' h => H _ _ _ _ _ _ _ h))
      rw [hgc] at c ⊢
      rw [if_pos c]
    · refine br_f c ?_
      unfold wX_noteShipment_18
      refine sd_n26 hn h0 hf hb hl ?_ hk (fun bc' lc' fb' sb' lb' h => H _ _ _ _ _ _ _ h)
      rw [hgc] at c
      rw [if_neg c]
/-! nextTrial -/
theorem sd_next3 {fo bc lc gc : Int32} {pe so ta ro pc ow lw hg wn fb sb lb : Nat → Int32} {post : SX → Prop} {lo hi v : Nat → Nat} (hB : sd_B lo hi v) (h4 : ∀ k, k < 7 → hi k ≤ 4) (hlw : ∀ k, k < 7 → lw k = nI (lo k)) (hhg : ∀ k, k < 7 → hg k = nI (hi k)) (hs : ∀ k, k < 7 → vp_in (so k) 5) (ht : ∀ k, k < 7 → vp_in (ta k) 5) (H : ∀ (sp' : Int32) (nu' se' : Nat → Int32), (∀ k, k < 7 → nu' k = nI (sd_nx lo hi v k)) → sd_M so ta pc (sd_nx lo hi v) se' sp' → post (sp', fo, bc, lc, gc, pe, so, ta, ro, pc, ow, lw, hg, wn, nu', se', fb, sb, lb)) : ∀ (d : Nat) (sp : Int32) (nu se : Nat → Int32), d ≤ 7 → (∀ j, j < 7 → d ≤ j → v j = hi j) → (∀ k, k < 7 → nu k = nI (if k < d then v k else lo k)) → sd_M so ta pc (fun k => if k < d then v k else lo k) se sp → wX_nextTrial_3 post (d + 1) (nI d + (-1)) sp fo bc lc gc pe so ta ro pc ow lw hg wn nu se fb sb lb := by
  intro d
  induction d with
  | zero =>
    intro sp nu se _ hm hn hM
    have e : ∀ k, k < 7 → (if k < 0 then v k else lo k) = sd_nx lo hi v k := fun k hk => by
      rw [if_neg (Nat.not_lt_zero k), sd_nx_wrap (fun j a => hm j a (Nat.zero_le j)) k hk]
    exact br_t (by decide) (H sp nu se (fun k hk => by rw [hn k hk, e k hk]) (sd_M_c e hM))
  | succ d ih =>
    intro sp nu se hd hm hn hM
    have hi' : vp_in (nI d) 7 := vp_in_nI (by omega) (by omega)
    have cd : (nI d).toNatClampNeg = d := nI_clamp (by omega)
    have nd : nu d = nI (v d) := by rw [hn d (by omega), if_pos (Nat.lt_succ_self d)]
    have bd := hB d (by omega)
    have b4 := h4 d (by omega)
    rw [pk_m1]
    refine br_f (nI_pos (by omega)) ⟨hi', hi', ?_⟩
    rw [cd, nd, hhg d (by omega)]
    by_cases c : v d < hi d
    · obtain ⟨n1, n2, n3⟩ := sd_nx_at (lo := lo) (by omega) (fun j a b => hm j a (by omega)) c
      refine br_f (nI_ge c (by omega)) ⟨hi', ?_⟩
      have hw : ∀ j, j < 7 → j ≠ d → sd_nx lo hi v j = (if j < d + 1 then v j else lo j) := fun j hj hne => by
        by_cases z : j < d
        · rw [n3 j z, if_pos (by omega)]
        · rw [n2 j hj (by omega), if_neg (by omega)]
      refine sd_give (v := fun k => if k < d + 1 then v k else lo k) (w := sd_nx lo hi v) (by omega) (hs d (by omega)) (ht d (by omega)) hw ?_ (hn d (by omega)) hM (fun se' sp' hM' => H _ _ _ (fun k hk => ?_) hM')
      · rw [n1]; exact nI_1 _
      · by_cases z : k = d
        · rw [z, pk_us]
        · rw [pk_un z, hn k hk, hw k hk z]
    · refine br_t (nI_le (by omega) (by omega)) ⟨hi', ?_⟩
      have hw : ∀ j, j < 7 → j ≠ d → (if j < d then v j else lo j) = (if j < d + 1 then v j else lo j) := fun j hj hne => by
        by_cases z : j < d
        · rw [if_pos z, if_pos (by omega)]
        · rw [if_neg z, if_neg (by omega)]
      refine sd_give (v := fun k => if k < d + 1 then v k else lo k) (w := fun k => if k < d then v k else lo k) (by omega) (hs d (by omega)) (ht d (by omega)) hw ?_ (hn d (by omega)) hM (fun se' sp' hM' => ?_)
      · rw [hlw d (by omega), if_neg (Nat.lt_irrefl d)]
      · dsimp only
        refine nm_e (ih sp' _ se' (by omega) (fun j a b => ?_) (fun k hk => ?_) hM')
        · by_cases z : j = d
          · subst z; omega
          · exact hm j a (by omega)
        · by_cases z : k = d
          · rw [z, pk_us]
          · rw [pk_un z, hn k hk, hw k hk z]
theorem sd_next {sp fo bc lc gc : Int32} {pe so ta ro pc ow lw hg wn nu se fb sb lb : Nat → Int32} {post : SX → Prop} {lo hi v : Nat → Nat} (hB : sd_B lo hi v) (h4 : ∀ k, k < 7 → hi k ≤ 4) (hlw : ∀ k, k < 7 → lw k = nI (lo k)) (hhg : ∀ k, k < 7 → hg k = nI (hi k)) (hs : ∀ k, k < 7 → vp_in (so k) 5) (ht : ∀ k, k < 7 → vp_in (ta k) 5) (hn : ∀ k, k < 7 → nu k = nI (v k)) (hM : sd_M so ta pc v se sp) (H : ∀ (sp' : Int32) (nu' se' : Nat → Int32), (∀ k, k < 7 → nu' k = nI (sd_nx lo hi v k)) → sd_M so ta pc (sd_nx lo hi v) se' sp' → post (sp', fo, bc, lc, gc, pe, so, ta, ro, pc, ow, lw, hg, wn, nu', se', fb, sb, lb)) : wpX_nextTrial post (sp, fo, bc, lc, gc, pe, so, ta, ro, pc, ow, lw, hg, wn, nu, se, fb, sb, lb) :=
  ⟨8, sd_next3 hB h4 hlw hhg hs ht H 7 sp nu se (Nat.le_refl 7) (fun j a b => absurd a (Nat.not_lt.mpr b)) (fun k hk => by rw [hn k hk, if_pos hk]) (sd_M_c (fun k hk => (if_pos hk).symm) hM)⟩
/-! survey -/
theorem sd_sv17 {pe so ta ro pc ow lw hg wn : Nat → Int32} {post : SX → Prop} {lo hi : Nat → Nat} {ok : (Nat → Nat) → Bool} (hl : ∀ k, k < 7 → lo k ≤ hi k) (h4 : ∀ k, k < 7 → hi k ≤ 4) (hlw : ∀ k, k < 7 → lw k = nI (lo k)) (hhg : ∀ k, k < 7 → hg k = nI (hi k)) (hs : ∀ k, k < 7 → vp_in (so k) 5) (ht : ∀ k, k < 7 → vp_in (ta k) 5) (hok : ∀ v, ok v = true ↔ ∀ p, p < 5 → sd_S so ta v p = wn p)
    (H : ∀ (sp fo bc lc gc : Int32) (nu se fb sb lb : Nat → Int32), sd_XF (sd_rs lo hi ok (sd_C pc) (sd_W lo hi 7)) fo bc lc gc fb sb lb → post (sp, fo, bc, lc, gc, pe, so, ta, ro, pc, ow, lw, hg, wn, nu, se, fb, sb, lb)) :
    ∀ (d t : Nat) (sp fo bc lc gc : Int32) (nu se fb sb lb : Nat → Int32), t + d = sd_W lo hi 7 → (∀ k, k < 7 → nu k = nI (sd_vt lo hi t k)) → sd_M so ta pc (sd_vt lo hi t) se sp → sd_XF (sd_rs lo hi ok (sd_C pc) t) fo bc lc gc fb sb lb → wX_survey_17 post (nI (sd_W lo hi 7)) (d + 1) (nI t) sp fo bc lc gc pe so ta ro pc ow lw hg wn nu se fb sb lb := by
  have hT := sd_W_7 (lo := lo) h4
  intro d
  induction d with
  | zero =>
    intro t sp fo bc lc gc nu se fb sb lb hd hn hM hX
    obtain rfl : t = sd_W lo hi 7 := by omega
    exact br_t (Int32.le_refl _) (H _ _ _ _ _ _ _ _ _ _ hX)
  | succ d ih =>
    intro t sp fo bc lc gc nu se fb sb lb hd hn hM hX
    have hB := (sd_vt_ok hl t (by omega)).1
    have K : ∀ (fo bc lc gc : Int32) (fb sb lb : Nat → Int32), sd_XF (sd_rs lo hi ok (sd_C pc) (t + 1)) fo bc lc gc fb sb lb → wX_survey_33 post (wX_survey_17 post (nI (sd_W lo hi 7)) (d + 1)) (nI (sd_W lo hi 7)) (nI t) sp fo bc lc gc pe so ta ro pc ow lw hg wn nu se fb sb lb := by
      intro fo bc lc gc fb sb lb hX'
      unfold wX_survey_33
      refine sd_next hB h4 hlw hhg hs ht hn hM (fun sp' nu' se' a b => ?_)
      dsimp only
      exact nm_r (nI_1 t) (ih (t + 1) _ _ _ _ _ _ _ _ _ _ (by omega) a b hX')
    refine br_f (nI_ge (by omega) hT) ?_
    refine sd_ship (fun g => ?_) (fun g => ?_)
    · refine br_f (by decide) (sd_note (n := fun k => nI (sd_vt lo hi t k)) hn hX (fun fo' bc' lc' gc' fb' sb' lb' hX' => ?_))
      dsimp only
      refine K _ _ _ _ _ _ _ ?_
      rw [sd_rs_y ((hok _).mpr (fun p hp => by rw [← hM.1 p hp]; exact g p hp)), ← hM.2]
      exact hX'
    · refine br_t rfl (K _ _ _ _ _ _ _ ?_)
      rw [sd_rs_n (Bool.eq_false_iff.mpr (fun e => g (fun p hp => by rw [hM.1 p hp]; exact (hok _).mp e p hp)))]
      exact hX
theorem sd_survey {sp fo bc lc gc : Int32} {pe so ta ro pc ow lw hg wn nu se fb sb lb : Nat → Int32} {post : SX → Prop} {lo hi : Nat → Nat} {ok : (Nat → Nat) → Bool} (hl : ∀ k, k < 7 → lo k ≤ hi k) (h4 : ∀ k, k < 7 → hi k ≤ 4) (hlw : ∀ k, k < 7 → lw k = nI (lo k)) (hhg : ∀ k, k < 7 → hg k = nI (hi k)) (hs : ∀ k, k < 7 → vp_in (so k) 5) (ht : ∀ k, k < 7 → vp_in (ta k) 5) (hok : ∀ v, ok v = true ↔ ∀ p, p < 5 → sd_S so ta v p = wn p)
    (H : ∀ (sp fo bc lc gc : Int32) (nu se fb sb lb : Nat → Int32), sd_XF (sd_rs lo hi ok (sd_C pc) (sd_W lo hi 7)) fo bc lc gc fb sb lb → post (sp, fo, bc, lc, gc, pe, so, ta, ro, pc, ow, lw, hg, wn, nu, se, fb, sb, lb)) : wpX_survey post (sp, fo, bc, lc, gc, pe, so, ta, ro, pc, ow, lw, hg, wn, nu, se, fb, sb, lb) := by
  unfold wpX_survey
  dsimp only
  refine sd_start hl hlw hhg hs ht (fun sp' nu' se' a b => ?_)
  dsimp only
  exact ⟨_, sd_sv17 hl h4 hlw hhg hs ht hok H (sd_W lo hi 7) 0 _ _ _ _ _ _ _ _ _ _ (Nat.zero_add _) a b (Or.inl ⟨rfl, rfl, rfl⟩)⟩
end
section
/-! Y: its small methods, each with a general post -/
theorem sd_beg2 {ml mm mw : Int32} {pe so ta rs pc ow ex f1 f2 f3 : Nat → Int32} {post : SY → Prop} : ∀ (d j : Nat) (nm : Nat → Int32), j + d = 7 → (∀ k, k < j → nm k = 0) → (∀ nm' : Nat → Int32, (∀ k, k < 7 → nm' k = 0) → post (-100000, -100000, 0, pe, so, ta, rs, pc, ow, nm', ex, f1, f2, f3)) → wY_begin_2 post ml mm mw (d + 1) (nI j) pe so ta rs pc ow nm ex f1 f2 f3 := by
  intro d
  induction d with
  | zero =>
    intro j nm hj h H
    obtain rfl : j = 7 := by omega
    exact br_t sd_7y (H nm h)
  | succ d ih =>
    intro j nm hj h H
    have hi : vp_in (nI j) 7 := vp_in_nI (by omega) (by omega)
    have cj : (nI j).toNatClampNeg = j := nI_clamp (by omega)
    refine br_f (sd_7n (by omega)) ⟨hi, nm_e (nm_r (nI_1 j) ?_)⟩
    rw [cj]
    exact ih (j + 1) _ (by omega) (lt_s (fun p hp => by rw [pk_un (by omega)]; exact h p hp) pk_us) H
theorem sd_beg {ml mm mw : Int32} {pe so ta rs pc ow nm ex f1 f2 f3 : Nat → Int32} {post : SY → Prop} (H : ∀ nm' : Nat → Int32, (∀ k, k < 7 → nm' k = 0) → post (-100000, -100000, 0, pe, so, ta, rs, pc, ow, nm', ex, f1, f2, f3)) : wpY_begin post (ml, mm, mw, pe, so, ta, rs, pc, ow, nm, ex, f1, f2, f3) :=
  ⟨8, sd_beg2 7 0 nm rfl lt_0 H⟩
def sd_z : Nat → Nat := fun _ => 0
theorem sd_adv3 {ml mm mw : Int32} {pe so ta rs pc ow ex f1 f2 f3 : Nat → Int32} {post : Int32 → SY → Prop} {hi v : Nat → Nat} (hB : sd_B sd_z hi v) (h4 : ∀ k, k < 7 → hi k ≤ 4) (hp : ∀ k, k < 7 → pe k = 0 → hi k = 0) (hq : ∀ k, k < 7 → ¬ pe k = 0 → rs k = nI (hi k)) (H1 : ∀ nm' : Nat → Int32, (¬ ∀ j, j < 7 → v j = hi j) → (∀ k, k < 7 → nm' k = nI (sd_nx sd_z hi v k)) → post 1 (ml, mm, mw, pe, so, ta, rs, pc, ow, nm', ex, f1, f2, f3)) (H0 : ∀ nm' : Nat → Int32, (∀ j, j < 7 → v j = hi j) → post 0 (ml, mm, mw, pe, so, ta, rs, pc, ow, nm', ex, f1, f2, f3)) : ∀ (d : Nat) (nm : Nat → Int32), d ≤ 7 → (∀ j, j < 7 → d ≤ j → v j = hi j) → (∀ k, k < 7 → nm k = nI (if k < d then v k else 0)) → wY_advance_3 post ml mm mw (d + 1) (nI d + (-1)) pe so ta rs pc ow nm ex f1 f2 f3 := by
  intro d
  induction d with
  | zero =>
    intro nm _ hm hn
    exact br_t (by decide) (H0 nm (fun j a => hm j a (Nat.zero_le j)))
  | succ d ih =>
    intro nm hd hm hn
    have hi' : vp_in (nI d) 7 := vp_in_nI (by omega) (by omega)
    have cd : (nI d).toNatClampNeg = d := nI_clamp (by omega)
    have nd : nm d = nI (v d) := by rw [hn d (by omega), if_pos (Nat.lt_succ_self d)]
    have bd := hB d (by omega)
    have b4 := h4 d (by omega)
    have S : v d = hi d → wY_advance_3 post ml mm mw (d + 1) (nI d + (-1)) pe so ta rs pc ow (upd nm d 0) ex f1 f2 f3 := by
      intro e
      refine ih _ (by omega) (fun j a b => ?_) (fun k hk => ?_)
      · by_cases z : j = d
        · rw [z]; exact e
        · exact hm j a (by omega)
      · by_cases z : k = d
        · rw [z, pk_us, if_neg (Nat.lt_irrefl d)]; rfl
        · rw [pk_un z, hn k hk]
          by_cases y : k < d
          · rw [if_pos y, if_pos (by omega)]
          · rw [if_neg y, if_neg (by omega)]
    rw [pk_m1]
    refine br_f (nI_pos (by omega)) ⟨hi', ?_⟩
    rw [cd]
    by_cases p0 : pe d = 0
    · have := hp d (by omega) p0
      exact br_t p0 ⟨hi', nm_e (nm_e (S (by omega)))⟩
    · refine br_f p0 ⟨hi', hi', ?_⟩
      rw [nd, hq d (by omega) p0]
      by_cases c : v d < hi d
      · obtain ⟨n1, n2, n3⟩ := sd_nx_at (lo := sd_z) (by omega) (fun j a b => hm j a (by omega)) c
        refine br_f (nI_ge c (by omega)) ⟨hi', hi', nm_e (H1 _ (fun g => ?_) (fun k hk => ?_))⟩
        · have := g d (by omega)
          omega
        · by_cases z : k = d
          · rw [z, pk_us, n1]; exact nI_1 _
          · rw [pk_un z, hn k hk]
            by_cases y : k < d
            · rw [n3 k y, if_pos (by omega)]
            · rw [n2 k hk (by omega), if_neg (by omega)]; rfl
      · exact br_t (nI_le (by omega) (by omega)) ⟨hi', nm_e (nm_e (S (by omega)))⟩
theorem sd_adv {ml mm mw : Int32} {pe so ta rs pc ow nm ex f1 f2 f3 : Nat → Int32} {post : Int32 → SY → Prop} {hi v : Nat → Nat} (hB : sd_B sd_z hi v) (h4 : ∀ k, k < 7 → hi k ≤ 4) (hp : ∀ k, k < 7 → pe k = 0 → hi k = 0) (hq : ∀ k, k < 7 → ¬ pe k = 0 → rs k = nI (hi k)) (hn : ∀ k, k < 7 → nm k = nI (v k)) (H1 : ∀ nm' : Nat → Int32, (¬ ∀ j, j < 7 → v j = hi j) → (∀ k, k < 7 → nm' k = nI (sd_nx sd_z hi v k)) → post 1 (ml, mm, mw, pe, so, ta, rs, pc, ow, nm', ex, f1, f2, f3)) (H0 : ∀ nm' : Nat → Int32, (∀ j, j < 7 → v j = hi j) → post 0 (ml, mm, mw, pe, so, ta, rs, pc, ow, nm', ex, f1, f2, f3)) : wpY_advance post (ml, mm, mw, pe, so, ta, rs, pc, ow, nm, ex, f1, f2, f3) :=
  ⟨8, sd_adv3 hB h4 hp hq H1 H0 7 nm (Nat.le_refl 7) (fun j a b => absurd a (Nat.not_lt.mpr b)) (fun k hk => by rw [hn k hk, if_pos hk])⟩
/-! weigh -/
theorem sd_w28 {ml mm mw : Int32} {pe so ta rs pc ow nm f1 f2 f3 : Nat → Int32} {post : SY → Prop} {v : Nat → Nat} (h4 : ∀ k, k < 7 → v k ≤ 4) (hn : ∀ k, k < 7 → nm k = nI (v k)) (hs : ∀ k, k < 7 → vp_in (so k) 5) (ht : ∀ k, k < 7 → vp_in (ta k) 5) : ∀ (d i : Nat) (ex : Nat → Int32), i + d = 7 → (∀ p, p < 5 → ex p = -(ow p) + sd_sum (fun k => (if (so k).toNatClampNeg = p then nI (v k) else 0) - (if (ta k).toNatClampNeg = p then nI (v k) else 0)) i) → (∀ ex' : Nat → Int32, (∀ p, p < 5 → ex' p = -(ow p) + sd_S so ta v p) → post (ml, mm, mw, pe, so, ta, rs, pc, ow, nm, ex', f1, f2, f3)) → wY_weigh_28 post ml mm mw (d + 1) (nI i) pe so ta rs pc ow nm ex f1 f2 f3 := by
  intro d
  induction d with
  | zero =>
    intro i ex hi h H
    obtain rfl : i = 7 := by omega
    exact br_t sd_7y (H ex h)
  | succ d ih =>
    intro i ex hi h H
    have hin : vp_in (nI i) 7 := vp_in_nI (by omega) (by omega)
    have ci : (nI i).toNatClampNeg = i := nI_clamp (by omega)
    have hsi := hs i (by omega)
    have hti := ht i (by omega)
    have v4 := h4 i (by omega)
    refine br_f (sd_7n (by omega)) ⟨hin, ?_⟩
    rw [ci]
    by_cases z : nm i ≤ 0
    · have vi : v i = 0 := by
        by_cases y : 0 < v i
        · rw [hn i (by omega)] at z
          exact absurd z (nI_nle y (by omega))
        · omega
      refine br_t z (nm_r (nI_1 i) (ih (i + 1) ex (by omega) (fun p hp => ?_) H))
      rw [h p hp]
      simp only [sd_sum]
      rw [vi, nI_0, ite_self, ite_self, Int32.sub_zero, Int32.add_zero]
    · refine br_f z ⟨hin, hin, hsi, hin, hsi, nm_e ⟨hin, hin, hti, hin, hti, nm_e (nm_r (nI_1 i) (ih (i + 1) _ (by omega) (fun p hp => ?_) H))⟩⟩
      rw [sd_up2, h p hp, hn i (by omega)]
      simp only [sd_sum]
      grind
theorem sd_w2 {ml mm mw : Int32} {pe so ta rs pc ow nm f1 f2 f3 : Nat → Int32} {post : SY → Prop} : ∀ (d j : Nat) (ex : Nat → Int32), j + d = 5 → (∀ p, p < j → ex p = -(ow p)) → (∀ ex' : Nat → Int32, (∀ p, p < 5 → ex' p = -(ow p)) → ∃ n, wY_weigh_28 post ml mm mw n 0 pe so ta rs pc ow nm ex' f1 f2 f3) → wY_weigh_2 post ml mm mw (d + 1) (nI j) pe so ta rs pc ow nm ex f1 f2 f3 := by
  intro d
  induction d with
  | zero =>
    intro j ex hj h H
    obtain rfl : j = 5 := by omega
    exact br_t sd_5y (H ex h)
  | succ d ih =>
    intro j ex hj h H
    have hi : vp_in (nI j) 5 := vp_in_nI (by omega) (by omega)
    have cj : (nI j).toNatClampNeg = j := nI_clamp (by omega)
    refine br_f (sd_5n (by omega)) ⟨hi, hi, nm_e (nm_r (nI_1 j) ?_)⟩
    rw [cj]
    exact ih (j + 1) _ (by omega) (lt_s (fun p hp => by rw [pk_un (by omega)]; exact h p hp) pk_us) H
theorem sd_weigh {ml mm mw : Int32} {pe so ta rs pc ow nm ex f1 f2 f3 : Nat → Int32} {post : SY → Prop} {v : Nat → Nat} (h4 : ∀ k, k < 7 → v k ≤ 4) (hn : ∀ k, k < 7 → nm k = nI (v k)) (hs : ∀ k, k < 7 → vp_in (so k) 5) (ht : ∀ k, k < 7 → vp_in (ta k) 5) (H : ∀ ex' : Nat → Int32, (∀ p, p < 5 → ex' p = -(ow p) + sd_S so ta v p) → post (ml, mm, mw, pe, so, ta, rs, pc, ow, nm, ex', f1, f2, f3)) : wpY_weigh post (ml, mm, mw, pe, so, ta, rs, pc, ow, nm, ex, f1, f2, f3) :=
  ⟨6, sd_w2 5 0 ex rfl lt_0 (fun ex' h => ⟨8, sd_w28 h4 hn hs ht 7 0 ex' rfl (fun p hp => by rw [h p hp]; exact (Int32.add_zero _).symm) H⟩)⟩
/-! balanced -/
def sd_D (x1 x2 x3 : Int32) (r : Nat) : Int32 := if nI r = x1 then x3 else if nI r = x2 then -x3 else 0
theorem sd_nb0 : narrow .boolean (.int 0) = .int 0 := by first | rfl | exact lw_bz_n 0
theorem sd_nb1 : narrow .boolean (.int 1) = .int 1 := by first | rfl | exact lw_bz_n 1
theorem sd_ba6 {ml mm mw : Int32} {pe so ta rs pc ow nm ex f1 f2 f3 : Nat → Int32} {x1 x2 x3 : Int32} {post : Int32 → Prop} (h1 : (∀ r, r < 5 → ex r = sd_D x1 x2 x3 r) → post 1) (h0 : (¬ ∀ r, r < 5 → ex r = sd_D x1 x2 x3 r) → post 0) : ∀ (d j : Nat) (x4 : Int32), j + d = 5 → ((x4 = 1 ∧ ∀ r, r < j → ex r = sd_D x1 x2 x3 r) ∨ (x4 = 0 ∧ ¬ ∀ r, r < 5 → ex r = sd_D x1 x2 x3 r)) → wY_balanced_6 post x1 x2 x3 ml mm mw pe so ta rs pc ow nm ex f1 f2 f3 (d + 1) x4 (nI j) := by
  intro d
  induction d with
  | zero =>
    intro j x4 hj h
    obtain rfl : j = 5 := by omega
    rcases h with ⟨rfl, h⟩ | ⟨rfl, h⟩
    · exact br_t sd_5y ⟨sd_nb1, h1 h⟩
    · exact br_t sd_5y ⟨sd_nb0, h0 h⟩
  | succ d ih =>
    intro j x4 hj h
    have hi : vp_in (nI j) 5 := vp_in_nI (by omega) (by omega)
    have cj : (nI j).toNatClampNeg = j := nI_clamp (by omega)
    refine br_f (sd_5n (by omega)) ?_
    rcases h with ⟨rfl, h⟩ | ⟨rfl, h⟩
    · refine br_f (by decide) ⟨hi, ?_⟩
      rw [cj]
      have K : ∀ z0 : Int32, z0 = sd_D x1 x2 x3 j → wY_balanced_46 post (wY_balanced_6 post x1 x2 x3 ml mm mw pe so ta rs pc ow nm ex f1 f2 f3 (d + 1)) x1 x2 x3 (nI j) z0 (ex j) ml mm mw pe so ta rs pc ow nm ex f1 f2 f3 := by
        intro z0 ez
        exact br_c (fun z => nm_r (nI_1 j) (ih (j + 1) 1 (by omega) (Or.inl ⟨rfl, lt_s h (z.trans ez)⟩))) (fun z => nm_r (nI_1 j) (ih (j + 1) 0 (by omega) (Or.inr ⟨rfl, fun g => z ((g j (by omega)).trans ez.symm)⟩)))
      refine br_c (fun a => K _ ?_) (fun a => br_c (fun b => K _ ?_) (fun b => K _ ?_))
      · unfold sd_D; rw [if_pos a]
      · unfold sd_D; rw [if_neg a, if_pos b]
      · unfold sd_D; rw [if_neg a, if_neg b]
    · exact br_t rfl (nm_r (nI_1 j) (ih (j + 1) 0 (by omega) (Or.inr ⟨rfl, h⟩)))
theorem sd_bal {ml mm mw : Int32} {pe so ta rs pc ow nm ex f1 f2 f3 : Nat → Int32} {x1 x2 x3 : Int32} {post : Int32 → Prop} (h1 : (∀ r, r < 5 → ex r = sd_D x1 x2 x3 r) → post 1) (h0 : (¬ ∀ r, r < 5 → ex r = sd_D x1 x2 x3 r) → post 0) : wpY_balanced post (ml, mm, mw, pe, so, ta, rs, pc, ow, nm, ex, f1, f2, f3) x1 x2 x3 :=
  ⟨6, sd_ba6 h1 h0 5 0 1 rfl (Or.inl ⟨rfl, lt_0⟩)⟩
/-! cost -/
theorem sd_co4 {ml mm mw : Int32} {pe so ta rs pc ow nm ex f1 f2 f3 : Nat → Int32} {post : Int32 → Prop} {v : Nat → Nat} (hn : ∀ k, k < 7 → nm k = nI (v k)) (H : post (sd_C pc v)) : ∀ (d i : Nat), i + d = 7 → wY_cost_4 post ml mm mw pe so ta rs pc ow nm ex f1 f2 f3 (d + 1) (sd_sum (fun k => nI (v k) * pc k) i) (nI i) := by
  intro d
  induction d with
  | zero =>
    intro i hi
    obtain rfl : i = 7 := by omega
    exact br_t sd_7y H
  | succ d ih =>
    intro i hi
    have hin : vp_in (nI i) 7 := vp_in_nI (by omega) (by omega)
    have ci : (nI i).toNatClampNeg = i := nI_clamp (by omega)
    refine br_f (sd_7n (by omega)) ⟨hin, hin, nm_r ?_ (nm_r (nI_1 i) (ih (i + 1) (by omega)))⟩
    rw [ci, hn i (by omega), Int32.mul_comm]
    rfl
theorem sd_cost {ml mm mw : Int32} {pe so ta rs pc ow nm ex f1 f2 f3 : Nat → Int32} {post : Int32 → Prop} {v : Nat → Nat} (hn : ∀ k, k < 7 → nm k = nI (v k)) (H : post (sd_C pc v)) : wpY_cost post (ml, mm, mw, pe, so, ta, rs, pc, ow, nm, ex, f1, f2, f3) :=
  ⟨8, sd_co4 hn H 7 0 rfl⟩
end
section
/-! Y: what it notes, its search -/
def sd_YF (r : sd_R) (ml mm mw : Int32) (f1 f2 f3 : Nat → Int32) : Prop :=
  (r.1 = 0 ∧ mw = 0 ∧ ml = -100000 ∧ mm = -100000) ∨ (r.1 ≠ 0 ∧ mw = nI r.1 ∧ ml = r.2.1 ∧ mm = r.2.2.1 ∧ mm ≠ -100000 ∧ ∀ k, k < 7 → f1 k = r.2.2.2.1 k ∧ f2 k = r.2.2.2.2.1 k ∧ f3 k = r.2.2.2.2.2 k)
def sd_g2 (x2 x3 n f : Int32) : Int32 := if x2 = 0 then (if x3 = 0 then f else if f ≤ n then f else n) else n
def sd_g3 (x2 x3 n f : Int32) : Int32 := if x2 = 0 then (if x3 = 0 then f else if n ≤ f then f else n) else n
theorem sd_y165 {ml mm mw : Int32} {pe so ta rs pc ow nm ex f1 f2 f3 : Nat → Int32} {x1 x2 x3 : Int32} {j : Nat} {post : SY → Prop} {J : Int32 → (Nat → Int32) → (Nat → Int32) → (Nat → Int32) → (Nat → Int32) → (Nat → Int32) → (Nat → Int32) → (Nat → Int32) → (Nat → Int32) → (Nat → Int32) → (Nat → Int32) → (Nat → Int32) → Prop} (hj : j < 7) (H : J (nI (j + 1)) pe so ta rs pc ow nm ex f1 f2 (upd f3 j (nm j))) : wY_note_165 post J x1 x2 x3 (nI j) (nI j) ml mm mw pe so ta rs pc ow nm ex f1 f2 f3 := by
  have hi : vp_in (nI j) 7 := vp_in_nI hj (by omega)
  have cj : (nI j).toNatClampNeg = j := nI_clamp (by omega)
  unfold wY_note_165
  rw [cj]
  exact ⟨hi, hi, nm_e (nm_r (nI_1 j) H)⟩
theorem sd_y133 {ml mm mw : Int32} {pe so ta rs pc ow nm ex f1 f2 f3 : Nat → Int32} {x1 x2 x3 z0 : Int32} {j : Nat} {post : SY → Prop} {J : Int32 → (Nat → Int32) → (Nat → Int32) → (Nat → Int32) → (Nat → Int32) → (Nat → Int32) → (Nat → Int32) → (Nat → Int32) → (Nat → Int32) → (Nat → Int32) → (Nat → Int32) → (Nat → Int32) → Prop} (hj : j < 7) (H : ∀ f3' : Nat → Int32, (∀ k, k ≠ j → f3' k = f3 k) → f3' j = sd_g3 x2 x3 (nm j) (f3 j) → J (nI (j + 1)) pe so ta rs pc ow nm ex f1 (upd f2 j z0) f3') : wY_note_133 post J x1 x2 x3 (nI j) z0 (nI j) ml mm mw pe so ta rs pc ow nm ex f1 f2 f3 := by
  have hi : vp_in (nI j) 7 := vp_in_nI hj (by omega)
  have cj : (nI j).toNatClampNeg = j := nI_clamp (by omega)
  unfold wY_note_133
  rw [cj]
  refine ⟨hi, nm_e (br_c (fun a => br_c (fun b => ⟨hi, hi, nm_e (nm_r (nI_1 j) (H _ (fun k hk => pk_un hk) ?_))⟩) (fun b => ⟨hi, hi, br_c (fun c => ⟨hi, hi, nm_e (nm_r (nI_1 j) (H _ (fun k hk => pk_un hk) ?_))⟩) (fun c => sd_y165 hj (H _ (fun k hk => pk_un hk) ?_))⟩)) (fun a => sd_y165 hj (H _ (fun k hk => pk_un hk) ?_)))⟩
  · unfold sd_g3; rw [pk_us, if_pos a, if_pos b]
  · unfold sd_g3; rw [pk_us, if_pos a, if_neg b, if_pos c]
  · unfold sd_g3; rw [pk_us, if_pos a, if_neg b, if_neg c]
  · unfold sd_g3; rw [pk_us, if_neg a]
theorem sd_y84 {ml mm mw : Int32} {pe so ta rs pc ow nm ex f1 f2 f3 : Nat → Int32} {x1 x2 x3 z0 : Int32} {j : Nat} {post : SY → Prop} {J : Int32 → (Nat → Int32) → (Nat → Int32) → (Nat → Int32) → (Nat → Int32) → (Nat → Int32) → (Nat → Int32) → (Nat → Int32) → (Nat → Int32) → (Nat → Int32) → (Nat → Int32) → (Nat → Int32) → Prop} (hj : j < 7) (H : ∀ f2' f3' : Nat → Int32, (∀ k, k ≠ j → f2' k = f2 k ∧ f3' k = f3 k) → f2' j = sd_g2 x2 x3 (nm j) (f2 j) → f3' j = sd_g3 x2 x3 (nm j) (f3 j) → J (nI (j + 1)) pe so ta rs pc ow nm ex (upd f1 j z0) f2' f3') : wY_note_84 post J x1 x2 x3 (nI j) z0 (nI j) ml mm mw pe so ta rs pc ow nm ex f1 f2 f3 := by
  have hi : vp_in (nI j) 7 := vp_in_nI hj (by omega)
  have cj : (nI j).toNatClampNeg = j := nI_clamp (by omega)
  have K : ∀ z : Int32, z = sd_g2 x2 x3 (nm j) (f2 j) → wY_note_133 post J x1 x2 x3 (nI j) z (nI j) ml mm mw pe so ta rs pc ow nm ex (upd f1 j z0) f2 f3 := by
    intro z e
    exact sd_y133 hj (fun f3' a b => H _ f3' (fun k hk => ⟨pk_un hk, a k hk⟩) (by rw [pk_us]; exact e) b)
  unfold wY_note_84 wY_note_126 wY_note_116
  rw [cj]
  refine ⟨hi, nm_e (br_c (fun a => br_c (fun b => ⟨hi, K _ ?_⟩) (fun b => ⟨hi, hi, br_c (fun c => ⟨hi, K _ ?_⟩) (fun c => ⟨hi, K _ ?_⟩)⟩)) (fun a => ⟨hi, K _ ?_⟩))⟩
  · unfold sd_g2; rw [if_pos a, if_pos b]
  · unfold sd_g2; rw [if_pos a, if_neg b, if_pos c]
  · unfold sd_g2; rw [if_pos a, if_neg b, if_neg c]
  · unfold sd_g2; rw [if_neg a]
theorem sd_y215 {ml mm mw : Int32} {pe so ta rs pc ow nm ex f1 f2 f3 : Nat → Int32} {x1 x2 x3 z0 : Int32} {post : SY → Prop} (H : post ((if x2 = 0 then ml else x1), z0, (if x2 = 0 then (if x3 = 0 then mw else mw + 1) else 1), pe, so, ta, rs, pc, ow, nm, ex, f1, f2, f3)) : wY_note_215 post x1 x2 x3 z0 ml mm mw pe so ta rs pc ow nm ex f1 f2 f3 := by
  unfold wY_note_215 wY_note_231
  by_cases a : x2 = 0
  · rw [if_pos a, if_pos a] at H
    by_cases b : x3 = 0
    · rw [if_pos b] at H
      exact br_t a (br_t a (br_t b H))
    · rw [if_neg b] at H
      exact br_t a (br_t a (br_f b (nm_e H)))
  · rw [if_neg a, if_neg a] at H
    exact br_f a (br_f a H)
theorem sd_y50 {ml mm mw : Int32} {pe so ta rs pc ow nm ex : Nat → Int32} {x1 x2 x3 : Int32} {post : SY → Prop} {p1 p2 p3 : Nat → Int32} (H : ∀ f1 f2 f3 : Nat → Int32, (∀ k, k < 7 → f1 k = (if x2 = 0 then p1 k else nm k) ∧ f2 k = sd_g2 x2 x3 (nm k) (p2 k) ∧ f3 k = sd_g3 x2 x3 (nm k) (p3 k)) → post ((if x2 = 0 then ml else x1), (if mm = -100000 then x1 else if x1 ≤ mm then mm else x1), (if x2 = 0 then (if x3 = 0 then mw else mw + 1) else 1), pe, so, ta, rs, pc, ow, nm, ex, f1, f2, f3)) : ∀ (d j : Nat) (f1 f2 f3 : Nat → Int32), j + d = 7 → (∀ k, k < j → f1 k = (if x2 = 0 then p1 k else nm k) ∧ f2 k = sd_g2 x2 x3 (nm k) (p2 k) ∧ f3 k = sd_g3 x2 x3 (nm k) (p3 k)) → (∀ k, j ≤ k → f1 k = p1 k ∧ f2 k = p2 k ∧ f3 k = p3 k) → wY_note_50 post x1 x2 x3 ml mm mw (d + 1) (nI j) pe so ta rs pc ow nm ex f1 f2 f3 := by
  intro d
  induction d with
  | zero =>
    intro j f1 f2 f3 hj h _
    obtain rfl : j = 7 := by omega
    have HH := H f1 f2 f3 h
    refine br_t sd_7y ?_
    unfold wY_note_207
    by_cases a : mm = -100000
    · rw [if_pos a] at HH
      exact br_t a (sd_y215 HH)
    · rw [if_neg a] at HH
      by_cases b : x1 ≤ mm
      · rw [if_pos b] at HH
        exact br_f a (br_t b (sd_y215 HH))
      · rw [if_neg b] at HH
        exact br_f a (br_f b (sd_y215 HH))
  | succ d ih =>
    intro j f1 f2 f3 hj h g
    have hi : vp_in (nI j) 7 := vp_in_nI (by omega) (by omega)
    have cj : (nI j).toNatClampNeg = j := nI_clamp (by omega)
    obtain ⟨g1, g2, g3⟩ := g j (Nat.le_refl j)
    have K : ∀ z0 : Int32, z0 = (if x2 = 0 then p1 j else nm j) → wY_note_84 post (wY_note_50 post x1 x2 x3 ml mm mw (d + 1)) x1 x2 x3 (nI j) z0 (nI j) ml mm mw pe so ta rs pc ow nm ex f1 f2 f3 := by
      intro z0 e
      refine sd_y84 (by omega) (fun f2' f3' a b c => ih (j + 1) _ _ _ (by omega) (lt_s (fun k hk => ?_) ⟨?_, ?_, ?_⟩) (fun k hk => ?_))
      · rw [pk_un (by omega), (a k (by omega)).1, (a k (by omega)).2]; exact h k hk
      · rw [pk_us]; exact e
      · rw [b, g2]
      · rw [c, g3]
      · rw [pk_un (by omega), (a k (by omega)).1, (a k (by omega)).2]; exact g k (by omega)
    refine br_f (sd_7n (by omega)) ?_
    rw [cj]
    refine br_c (fun a => ⟨hi, K _ ?_⟩) (fun a => ⟨hi, K _ ?_⟩)
    · rw [if_pos a]; exact g1
    · rw [if_neg a]
theorem sd_ynote {ml mm mw : Int32} {pe so ta rs pc ow nm ex f1 f2 f3 : Nat → Int32} {post : SY → Prop} {r : sd_R} {v : Nat → Nat} (hn : ∀ k, k < 7 → nm k = nI (v k)) (hr : r.1 < 2 ^ 31) (hc : sd_C pc v ≠ -100000) (hY : sd_YF r ml mm mw f1 f2 f3) (H : ∀ (ml mm mw : Int32) (f1 f2 f3 : Nat → Int32), sd_YF (sd_nt (sd_C pc v) (fun k => nI (v k)) r) ml mm mw f1 f2 f3 → post (ml, mm, mw, pe, so, ta, rs, pc, ow, nm, ex, f1, f2, f3)) : wpY_note post (ml, mm, mw, pe, so, ta, rs, pc, ow, nm, ex, f1, f2, f3) := by
  unfold wpY_note
  dsimp only
  refine sd_cost hn ?_
  generalize sd_C pc v = c at hc H ⊢
  have L : ∀ x2 x3 : Int32, (∀ g1 g2 g3 : Nat → Int32, (∀ k, k < 7 → g1 k = (if x2 = 0 then f1 k else nm k) ∧ g2 k = sd_g2 x2 x3 (nm k) (f2 k) ∧ g3 k = sd_g3 x2 x3 (nm k) (f3 k)) → sd_YF (sd_nt c (fun k => nI (v k)) r) (if x2 = 0 then ml else c) (if mm = -100000 then c else if c ≤ mm then mm else c) (if x2 = 0 then (if x3 = 0 then mw else mw + 1) else 1) g1 g2 g3) → ∃ n, wY_note_50 post c x2 x3 ml mm mw n 0 pe so ta rs pc ow nm ex f1 f2 f3 := by
    intro x2 x3 h
    exact ⟨8, sd_y50 (fun g1 g2 g3 hg => H _ _ _ _ _ _ (h g1 g2 g3 hg)) 7 0 f1 f2 f3 rfl lt_0 (fun _ _ => ⟨rfl, rfl, rfl⟩)⟩
  have n10 : ¬ (1 : Int32) = 0 := by decide
  rcases hY with ⟨h0, hw, hl, hm⟩ | ⟨h0, hw, hl, hm, hm', hk⟩
  · refine br_t hw ?_
    unfold wY_note_20 wY_note_25
    refine br_t (by rw [hw]; decide) (L 1 0 (fun g1 g2 g3 hg => Or.inr ?_))
    rw [sd_nt_0 h0, if_neg n10, if_neg n10, if_pos hm]
    refine ⟨Nat.one_ne_zero, rfl, rfl, rfl, hc, fun k hk7 => ?_⟩
    obtain ⟨a1, a2, a3⟩ := hg k hk7
    unfold sd_g2 at a2
    unfold sd_g3 at a3
    rw [if_neg n10, hn k hk7] at a1 a2 a3
    exact ⟨a1, a2, a3⟩
  · have w0 : ¬ mw = 0 := by rw [hw]; exact nI_ne0 (by omega) hr
    have w1 : ¬ mw ≤ 0 := by rw [hw]; exact nI_nle (by omega) hr
    have mx : (if c ≤ r.2.2.1 then r.2.2.1 else c) ≠ -100000 := by
      rw [← hm]
      by_cases z : c ≤ mm
      · rw [if_pos z]; exact hm'
      · rw [if_neg z]; exact hc
    refine br_f w0 ?_
    by_cases a : ml ≤ c
    · refine br_t a ?_
      unfold wY_note_25
      refine br_f w1 ?_
      by_cases e : c = ml
      · refine br_t e (L 0 1 (fun g1 g2 g3 hg => Or.inr ?_))
        rw [hl] at a e
        rw [sd_nt_e h0 a e, if_pos rfl, if_pos rfl, if_neg n10, if_neg hm', hm]
        refine ⟨Nat.succ_ne_zero _, by rw [hw]; exact nI_1 _, hl, rfl, mx, fun k hk7 => ?_⟩
        obtain ⟨a1, a2, a3⟩ := hg k hk7
        obtain ⟨b1, b2, b3⟩ := hk k hk7
        unfold sd_g2 at a2
        unfold sd_g3 at a3
        rw [if_pos rfl] at a1 a2 a3
        rw [if_neg n10] at a2 a3
        rw [b1] at a1
        rw [b2, hn k hk7] at a2
        rw [b3, hn k hk7] at a3
        exact ⟨a1, a2, a3⟩
      · refine br_f e (L 0 0 (fun g1 g2 g3 hg => Or.inr ?_))
        rw [hl] at a e
        rw [sd_nt_g h0 a e, if_pos rfl, if_pos rfl, if_pos rfl, if_neg hm', hm]
        refine ⟨h0, hw, hl, rfl, mx, fun k hk7 => ?_⟩
        obtain ⟨a1, a2, a3⟩ := hg k hk7
        obtain ⟨b1, b2, b3⟩ := hk k hk7
        unfold sd_g2 at a2
        unfold sd_g3 at a3
        rw [if_pos rfl] at a1 a2 a3
        rw [if_pos rfl] at a2 a3
        exact ⟨a1.trans b1, a2.trans b2, a3.trans b3⟩
    · refine br_f a ?_
      unfold wY_note_20 wY_note_25
      have e : ¬ c = ml := fun e => a (by rw [e]; exact Int32.le_refl _)
      refine br_f w1 (br_f e (L 1 0 (fun g1 g2 g3 hg => Or.inr ?_)))
      rw [hl] at a
      rw [sd_nt_l h0 a, if_neg n10, if_neg n10, if_neg hm', hm]
      refine ⟨Nat.one_ne_zero, rfl, rfl, rfl, mx, fun k hk7 => ?_⟩
      obtain ⟨a1, a2, a3⟩ := hg k hk7
      unfold sd_g2 at a2
      unfold sd_g3 at a3
      rw [if_neg n10, hn k hk7] at a1 a2 a3
      exact ⟨a1, a2, a3⟩
/-! search -/
theorem sd_eqD (o s d : Int32) : -o + s = d ↔ s = o + d := by
  constructor
  · intro h; grind
  · intro h; grind
theorem sd_y7 {pe so ta rs pc ow : Nat → Int32} {x1 x2 x3 x4 x5 : Int32} {post : SY → Prop} {hi : Nat → Nat} {ok : (Nat → Nat) → Bool} (h4 : ∀ k, k < 7 → hi k ≤ 4) (hp : ∀ k, k < 7 → pe k = 0 → hi k = 0) (hq : ∀ k, k < 7 → ¬ pe k = 0 → rs k = nI (hi k)) (hs : ∀ k, k < 7 → vp_in (so k) 5) (ht : ∀ k, k < 7 → vp_in (ta k) 5) (hc : ∀ k, k < 7 → sd_P (pc k)) (hx : x4 < 0 ∨ ∃ j, j < 7 ∧ x4 = nI j)
    (hok : ∀ v, ok v = true ↔ (∀ p, p < 5 → sd_S so ta v p = ow p + sd_D x1 x2 x3 p) ∧ (x4 < 0 ∨ nI (v x4.toNatClampNeg) = x5))
    (H : ∀ (ml mm mw : Int32) (nm ex f1 f2 f3 : Nat → Int32), sd_YF (sd_rs sd_z hi ok (sd_C pc) (sd_W sd_z hi 7)) ml mm mw f1 f2 f3 → post (ml, mm, mw, pe, so, ta, rs, pc, ow, nm, ex, f1, f2, f3)) :
    ∀ (d t : Nat) (ml mm mw : Int32) (nm ex f1 f2 f3 : Nat → Int32), t + d + 1 = sd_W sd_z hi 7 → (∀ k, k < 7 → nm k = nI (sd_vt sd_z hi t k)) → sd_YF (sd_rs sd_z hi ok (sd_C pc) t) ml mm mw f1 f2 f3 → wY_search_7 post x1 x2 x3 x4 x5 (d + 2) 1 ml mm mw pe so ta rs pc ow nm ex f1 f2 f3 := by
  have hT := sd_W_7 (lo := sd_z) h4
  have hl : ∀ k, k < 7 → sd_z k ≤ hi k := fun k _ => Nat.zero_le _
  intro d
  have STEP : ∀ (n t : Nat) (ml mm mw : Int32) (nm ex f1 f2 f3 : Nat → Int32), t < sd_W sd_z hi 7 → (t + 1 ≠ sd_W sd_z hi 7 → ∀ (ml mm mw : Int32) (nm ex f1 f2 f3 : Nat → Int32), (∀ k, k < 7 → nm k = nI (sd_vt sd_z hi (t + 1) k)) → sd_YF (sd_rs sd_z hi ok (sd_C pc) (t + 1)) ml mm mw f1 f2 f3 → wY_search_7 post x1 x2 x3 x4 x5 (n + 1) 1 ml mm mw pe so ta rs pc ow nm ex f1 f2 f3) → (∀ k, k < 7 → nm k = nI (sd_vt sd_z hi t k)) → sd_YF (sd_rs sd_z hi ok (sd_C pc) t) ml mm mw f1 f2 f3 → wY_search_7 post x1 x2 x3 x4 x5 (n + 2) 1 ml mm mw pe so ta rs pc ow nm ex f1 f2 f3 := by
    intro n t ml mm mw nm ex f1 f2 f3 htT K1 hn hY
    have hB := (sd_vt_ok hl t htT).1
    have v4 : ∀ k, k < 7 → sd_vt sd_z hi t k ≤ 4 := fun k hk => Nat.le_trans (hB k hk).2 (h4 k hk)
    have A : ∀ (ml mm mw : Int32) (ex f1 f2 f3 : Nat → Int32), sd_YF (sd_rs sd_z hi ok (sd_C pc) (t + 1)) ml mm mw f1 f2 f3 → wY_search_47 post (wY_search_7 post x1 x2 x3 x4 x5 (n + 1)) x1 x2 x3 x4 x5 ml mm mw pe so ta rs pc ow nm ex f1 f2 f3 := by
      intro ml mm mw ex f1 f2 f3 hY'
      unfold wY_search_47
      refine sd_adv hB h4 hp hq hn (fun nm' a b => ?_) (fun nm' a => ?_)
      · exact K1 (fun e => a ((sd_vt_end hl htT).mpr e)) _ _ _ _ _ _ _ _ b hY'
      · have e := (sd_vt_end hl htT).mp a
        rw [e] at hY'
        exact br_t rfl (H _ _ _ _ _ _ _ _ hY')
    refine br_f (by decide) (sd_weigh v4 hn hs ht (fun ex' hex => ?_))
    dsimp only
    have F : ok (sd_vt sd_z hi t) = false → sd_YF (sd_rs sd_z hi ok (sd_C pc) (t + 1)) ml mm mw f1 f2 f3 := fun e => by
      rw [sd_rs_n e]; exact hY
    have G : ok (sd_vt sd_z hi t) = true → wY_search_43 post (wY_search_7 post x1 x2 x3 x4 x5 (n + 1)) x1 x2 x3 x4 x5 ml mm mw pe so ta rs pc ow nm ex' f1 f2 f3 := by
      intro e
      unfold wY_search_43
      refine sd_ynote hn (Nat.lt_of_le_of_lt (sd_rs_w t) (by omega)) (sd_C_ne hc v4) hY (fun ml mm mw f1 f2 f3 hY' => ?_)
      dsimp only
      refine A _ _ _ _ _ _ _ ?_
      rw [sd_rs_y e]; exact hY'
    refine sd_bal (fun g => ?_) (fun g => ?_)
    · have g' : ∀ p, p < 5 → sd_S so ta (sd_vt sd_z hi t) p = ow p + sd_D x1 x2 x3 p := fun p hp5 => (sd_eqD _ _ _).mp ((hex p hp5).symm.trans (g p hp5))
      refine br_f (by decide) (br_c (fun z => G ((hok _).mpr ⟨g', Or.inl z⟩)) (fun z => ?_))
      rcases hx with hx | ⟨j, hj, hx⟩
      · exact absurd hx z
      · have cj : x4.toNatClampNeg = j := by rw [hx]; exact nI_clamp (by omega)
        refine ⟨by rw [hx]; exact vp_in_nI hj (by omega), br_c (fun y => G ((hok _).mpr ⟨g', Or.inr ?_⟩)) (fun y => A _ _ _ _ _ _ _ (F (Bool.eq_false_iff.mpr (fun e => ?_))))⟩
        · rw [cj] at y ⊢
          rw [← hn j hj]; exact y
        · rcases ((hok _).mp e).2 with q | q
          · exact z q
          · rw [cj] at y q
            exact y ((hn j hj).trans q)
    · refine br_t rfl (A _ _ _ _ _ _ _ (F (Bool.eq_false_iff.mpr (fun e => g (fun p hp5 => ?_)))))
      rw [hex p hp5]
      exact (sd_eqD _ _ _).mpr (((hok _).mp e).1 p hp5)
  induction d with
  | zero =>
    intro t ml mm mw nm ex f1 f2 f3 hd hn hY
    exact STEP 0 t _ _ _ _ _ _ _ _ (by omega) (fun e => absurd hd e) hn hY
  | succ d ih =>
    intro t ml mm mw nm ex f1 f2 f3 hd hn hY
    exact STEP (d + 1) t _ _ _ _ _ _ _ _ (by omega) (fun _ ml mm mw nm ex f1 f2 f3 a b => ih (t + 1) _ _ _ _ _ _ _ _ (by omega) a b) hn hY
theorem sd_W_pos (lo hi : Nat → Nat) : ∀ d, 0 < sd_W lo hi d := by
  intro d
  induction d with
  | zero => exact Nat.one_pos
  | succ d ih =>
    simp only [sd_W]
    exact Nat.mul_pos (Nat.succ_pos _) ih
theorem sd_search {ml mm mw : Int32} {pe so ta rs pc ow nm ex f1 f2 f3 : Nat → Int32} {x1 x2 x3 x4 x5 : Int32} {post : SY → Prop} {hi : Nat → Nat} {ok : (Nat → Nat) → Bool} (h4 : ∀ k, k < 7 → hi k ≤ 4) (hp : ∀ k, k < 7 → pe k = 0 → hi k = 0) (hq : ∀ k, k < 7 → ¬ pe k = 0 → rs k = nI (hi k)) (hs : ∀ k, k < 7 → vp_in (so k) 5) (ht : ∀ k, k < 7 → vp_in (ta k) 5) (hc : ∀ k, k < 7 → sd_P (pc k)) (hx : x4 < 0 ∨ ∃ j, j < 7 ∧ x4 = nI j)
    (hok : ∀ v, ok v = true ↔ (∀ p, p < 5 → sd_S so ta v p = ow p + sd_D x1 x2 x3 p) ∧ (x4 < 0 ∨ nI (v x4.toNatClampNeg) = x5))
    (H : ∀ (ml mm mw : Int32) (nm ex f1 f2 f3 : Nat → Int32), sd_YF (sd_rs sd_z hi ok (sd_C pc) (sd_W sd_z hi 7)) ml mm mw f1 f2 f3 → post (ml, mm, mw, pe, so, ta, rs, pc, ow, nm, ex, f1, f2, f3)) : wpY_search post (ml, mm, mw, pe, so, ta, rs, pc, ow, nm, ex, f1, f2, f3) x1 x2 x3 x4 x5 := by
  unfold wpY_search
  dsimp only
  refine sd_beg (fun nm' h => ?_)
  dsimp only
  have h1 := sd_W_pos sd_z hi 7
  exact ⟨_, sd_y7 h4 hp hq hs ht hc hx hok H (sd_W sd_z hi 7 - 1) 0 _ _ _ _ _ _ _ _ (by omega) (fun k hk => by rw [h k hk]; rfl) (Or.inl ⟨rfl, rfl, rfl, rfl⟩)⟩
end
section
/-! spare: the greatest extra, on both sides -/
noncomputable def sd_sp (lo hi : Nat → Nat) (ex : (Nat → Nat) → Int32) (ok : (Nat → Nat) → Bool) : Nat → Int32
  | 0 => 0
  | t + 1 => if ex (sd_vt lo hi t) ≤ sd_sp lo hi ex ok t then sd_sp lo hi ex ok t else if ok (sd_vt lo hi t) = true then ex (sd_vt lo hi t) else sd_sp lo hi ex ok t
section
variable {lo hi : Nat → Nat} {ex : (Nat → Nat) → Int32} {ok : (Nat → Nat) → Bool} {t : Nat}
theorem sd_sp_a (h : ex (sd_vt lo hi t) ≤ sd_sp lo hi ex ok t) : sd_sp lo hi ex ok (t + 1) = sd_sp lo hi ex ok t := by
  show (if _ then _ else _) = _
  rw [if_pos h]
theorem sd_sp_b (h : ¬ ex (sd_vt lo hi t) ≤ sd_sp lo hi ex ok t) (k : ok (sd_vt lo hi t) = true) : sd_sp lo hi ex ok (t + 1) = ex (sd_vt lo hi t) := by
  show (if _ then _ else _) = _
  rw [if_neg h, if_pos k]
theorem sd_sp_c (h : ¬ ex (sd_vt lo hi t) ≤ sd_sp lo hi ex ok t) (k : ok (sd_vt lo hi t) = false) : sd_sp lo hi ex ok (t + 1) = sd_sp lo hi ex ok t := by
  show (if _ then _ else _) = _
  rw [if_neg h, if_neg (by rw [k]; decide)]
end
theorem sd_up3 (f : Nat → Int32) (a b p : Nat) (m : Int32) : upd (upd f a (f a - m)) b (upd f a (f a - m) b + m) p = f p - (if a = p then m else 0) + (if b = p then m else 0) := by
  by_cases ha : a = p
  · subst ha
    by_cases hb : b = a
    · subst hb
      rw [pk_us, pk_us, if_pos rfl]
    · rw [pk_un (fun e => hb e.symm), pk_us, if_pos rfl, if_neg hb, Int32.add_zero]
  · by_cases hb : b = p
    · subst hb
      rw [pk_us, pk_un (fun e => ha e.symm), if_neg ha, if_pos rfl, Int32.sub_zero]
    · rw [pk_un (fun e => hb e.symm), pk_un (fun e => ha e.symm), if_neg ha, if_neg hb, Int32.sub_zero, Int32.add_zero]
theorem sd_D_e {i j r : Nat} (e : Int32) (hi : i < 5) (hj : j < 5) (hr : r < 5) (hij : i ≠ j) : sd_D (nI i) (nI j) e r = (if i = r then e else 0) - (if j = r then e else 0) := by
  unfold sd_D
  by_cases a : i = r
  · have b : ¬ j = r := by omega
    rw [if_pos (by rw [a]), if_pos a, if_neg b, Int32.sub_zero]
  · have a' : ¬ nI r = nI i := fun z => a ((nI_eq (by omega) (by omega)).mp z).symm
    by_cases b : j = r
    · rw [if_neg a', if_pos (by rw [b]), if_neg a, if_pos b]
      grind
    · have b' : ¬ nI r = nI j := fun z => b ((nI_eq (by omega) (by omega)).mp z).symm
      rw [if_neg a', if_neg b', if_neg a, if_neg b]
      rfl
theorem sd_wD {wn ow : Nat → Int32} {i j r : Nat} (e : Int32) (hi : i < 5) (hj : j < 5) (hr : r < 5) (hij : i ≠ j) (h : wn r = ow r) : upd (upd wn i (wn i + e)) j (upd wn i (wn i + e) j - e) r = ow r + sd_D (nI i) (nI j) e r := by
  rw [sd_up2, sd_D_e e hi hj hr hij, h]
  grind
theorem sd_swe {sp fo bc lc gc : Int32} {pe so ta ro pc ow lw hg wn nu se fb sb lb : Nat → Int32} {post : Int32 → SX → Prop} {i j : Nat} {e : Int32} (hi : i < 5) (hj : j < 5) (hij : i ≠ j) (hw : ∀ r, r < 5 → wn r = ow r) (h1 : ∀ wn : Nat → Int32, (∀ r, r < 5 → wn r = ow r) → (∀ r, r < 5 → se r = ow r + sd_D (nI i) (nI j) e r) → post 1 (sp, fo, bc, lc, gc, pe, so, ta, ro, pc, ow, lw, hg, wn, nu, se, fb, sb, lb)) (h0 : ∀ wn : Nat → Int32, (∀ r, r < 5 → wn r = ow r) → (¬ ∀ r, r < 5 → se r = ow r + sd_D (nI i) (nI j) e r) → post 0 (sp, fo, bc, lc, gc, pe, so, ta, ro, pc, ow, lw, hg, wn, nu, se, fb, sb, lb)) : wpX_isShipmentWithExtra post (sp, fo, bc, lc, gc, pe, so, ta, ro, pc, ow, lw, hg, wn, nu, se, fb, sb, lb) (nI i) (nI j) e := by
  have ci : (nI i).toNatClampNeg = i := nI_clamp (by omega)
  have cj : (nI j).toNatClampNeg = j := nI_clamp (by omega)
  have vi : vp_in (nI i) 5 := vp_in_nI hi (by omega)
  have vj : vp_in (nI j) 5 := vp_in_nI hj (by omega)
  unfold wpX_isShipmentWithExtra
  dsimp only
  rw [ci, cj]
  refine ⟨vi, vi, nm_e ⟨vj, vj, nm_e ?_⟩⟩
  have W : ∀ r, r < 5 → upd (upd wn i (wn i + e)) j (upd wn i (wn i + e) j - e) r = ow r + sd_D (nI i) (nI j) e r := fun r hr => sd_wD e hi hj hr hij (hw r hr)
  generalize upd (upd wn i (wn i + e)) j (upd wn i (wn i + e) j - e) = w6 at W ⊢
  have V : ∀ r, r < 5 → upd (upd w6 i (w6 i - e)) j (upd w6 i (w6 i - e) j + e) r = ow r := fun r hr => by
    rw [sd_up3, W r hr, sd_D_e e hi hj hr hij]
    grind
  refine sd_ship (fun g => ⟨vi, vi, nm_e ⟨vj, vj, nm_e ⟨sd_nb1, h1 _ V (fun r hr => (g r hr).trans (W r hr))⟩⟩⟩) (fun g => ⟨vi, vi, nm_e ⟨vj, vj, nm_e ⟨sd_nb0, h0 _ V (fun z => g (fun r hr => (z r hr).trans (W r hr).symm))⟩⟩⟩)
theorem sd_ge11 {fo bc lc gc : Int32} {pe so ta ro pc ow lw hg fb sb lb : Nat → Int32} {post : Int32 → SX → Prop} {lo hi : Nat → Nat} {ok : (Nat → Nat) → Bool} {i j : Nat} (hi5 : i < 5) (hj5 : j < 5) (hij : i ≠ j) (hl : ∀ k, k < 7 → lo k ≤ hi k) (h4 : ∀ k, k < 7 → hi k ≤ 4) (hlw : ∀ k, k < 7 → lw k = nI (lo k)) (hhg : ∀ k, k < 7 → hg k = nI (hi k)) (hs : ∀ k, k < 7 → vp_in (so k) 5) (ht : ∀ k, k < 7 → vp_in (ta k) 5) (hok : ∀ v, ok v = true ↔ ∀ p, p < 5 → sd_S so ta v p = ow p + sd_D (nI i) (nI j) (sd_S so ta v i - ow i) p)
    (H : ∀ (sp : Int32) (wn nu se : Nat → Int32), post (sd_sp lo hi (fun v => sd_S so ta v i - ow i) ok (sd_W lo hi 7)) (sp, fo, bc, lc, gc, pe, so, ta, ro, pc, ow, lw, hg, wn, nu, se, fb, sb, lb)) :
    ∀ (d t : Nat) (sp : Int32) (wn nu se : Nat → Int32), t + d = sd_W lo hi 7 → (∀ k, k < 7 → nu k = nI (sd_vt lo hi t k)) → sd_M so ta pc (sd_vt lo hi t) se sp → (∀ r, r < 5 → wn r = ow r) → wX_greatestExtra_11 post (nI i) (nI j) (nI (sd_W lo hi 7)) (d + 1) (sd_sp lo hi (fun v => sd_S so ta v i - ow i) ok t) (nI t) sp fo bc lc gc pe so ta ro pc ow lw hg wn nu se fb sb lb := by
  have hT := sd_W_7 (lo := lo) h4
  have ci : (nI i).toNatClampNeg = i := nI_clamp (by omega)
  have vi : vp_in (nI i) 5 := vp_in_nI hi5 (by omega)
  intro d
  induction d with
  | zero =>
    intro t sp wn nu se hd hn hM hw
    obtain rfl : t = sd_W lo hi 7 := by omega
    exact br_t (Int32.le_refl _) (H _ _ _ _)
  | succ d ih =>
    intro t sp wn nu se hd hn hM hw
    have hB := (sd_vt_ok hl t (by omega)).1
    have K : ∀ (x3 : Int32) (wn : Nat → Int32), (∀ r, r < 5 → wn r = ow r) → x3 = sd_sp lo hi (fun v => sd_S so ta v i - ow i) ok (t + 1) → wX_greatestExtra_53 post (wX_greatestExtra_11 post (nI i) (nI j) (nI (sd_W lo hi 7)) (d + 1)) (nI i) (nI j) x3 (nI (sd_W lo hi 7)) (nI t) sp fo bc lc gc pe so ta ro pc ow lw hg wn nu se fb sb lb := by
      intro x3 wn hw' e
      subst e
      unfold wX_greatestExtra_53
      refine sd_next hB h4 hlw hhg hs ht hn hM (fun sp' nu' se' a b => ?_)
      dsimp only
      exact nm_r (nI_1 t) (ih (t + 1) _ _ _ _ (by omega) a b hw')
    refine br_f (nI_ge (by omega) hT) ⟨vi, vi, nm_r (by rw [ci, hM.1 i hi5, hw i hi5]) ?_⟩
    by_cases c : sd_S so ta (sd_vt lo hi t) i - ow i ≤ sd_sp lo hi (fun v => sd_S so ta v i - ow i) ok t
    · exact br_t c (K _ wn hw (sd_sp_a c).symm)
    · refine br_f c (sd_swe hi5 hj5 hij hw (fun wn' hw' g => ?_) (fun wn' hw' g => ?_))
      · exact br_f (by decide) (K _ wn' hw' (sd_sp_b c ((hok _).mpr (fun p hp => by rw [← hM.1 p hp]; exact g p hp))).symm)
      · exact br_t rfl (K _ wn' hw' (sd_sp_c c (Bool.eq_false_iff.mpr (fun e => g (fun p hp => by rw [hM.1 p hp]; exact (hok _).mp e p hp)))).symm)
theorem sd_gext {sp fo bc lc gc : Int32} {pe so ta ro pc ow lw hg wn nu se fb sb lb : Nat → Int32} {post : Int32 → SX → Prop} {lo hi : Nat → Nat} {ok : (Nat → Nat) → Bool} {i j : Nat} (hi5 : i < 5) (hj5 : j < 5) (hij : i ≠ j) (hl : ∀ k, k < 7 → lo k ≤ hi k) (h4 : ∀ k, k < 7 → hi k ≤ 4) (hlw : ∀ k, k < 7 → lw k = nI (lo k)) (hhg : ∀ k, k < 7 → hg k = nI (hi k)) (hs : ∀ k, k < 7 → vp_in (so k) 5) (ht : ∀ k, k < 7 → vp_in (ta k) 5) (hok : ∀ v, ok v = true ↔ ∀ p, p < 5 → sd_S so ta v p = ow p + sd_D (nI i) (nI j) (sd_S so ta v i - ow i) p) (hw : ∀ r, r < 5 → wn r = ow r)
    (H : ∀ (sp : Int32) (wn nu se : Nat → Int32), post (sd_sp lo hi (fun v => sd_S so ta v i - ow i) ok (sd_W lo hi 7)) (sp, fo, bc, lc, gc, pe, so, ta, ro, pc, ow, lw, hg, wn, nu, se, fb, sb, lb)) : wpX_greatestExtra post (sp, fo, bc, lc, gc, pe, so, ta, ro, pc, ow, lw, hg, wn, nu, se, fb, sb, lb) (nI i) (nI j) := by
  unfold wpX_greatestExtra
  dsimp only
  refine sd_start hl hlw hhg hs ht (fun sp' nu' se' a b => ?_)
  dsimp only
  exact ⟨_, sd_ge11 hi5 hj5 hij hl h4 hlw hhg hs ht hok H (sd_W lo hi 7) 0 _ _ _ _ (Nat.zero_add _) a b hw⟩
theorem sd_y39 {ml mm mw : Int32} {pe so ta rs pc ow f1 f2 f3 : Nat → Int32} {post : Int32 → SY → Prop} {hi : Nat → Nat} {ok : (Nat → Nat) → Bool} {i j : Nat} (hi5 : i < 5) (h4 : ∀ k, k < 7 → hi k ≤ 4) (hp : ∀ k, k < 7 → pe k = 0 → hi k = 0) (hq : ∀ k, k < 7 → ¬ pe k = 0 → rs k = nI (hi k)) (hs : ∀ k, k < 7 → vp_in (so k) 5) (ht : ∀ k, k < 7 → vp_in (ta k) 5) (hok : ∀ v, ok v = true ↔ ∀ p, p < 5 → sd_S so ta v p = ow p + sd_D (nI i) (nI j) (sd_S so ta v i - ow i) p)
    (H : ∀ (nm ex : Nat → Int32), post (sd_sp sd_z hi (fun v => sd_S so ta v i - ow i) ok (sd_W sd_z hi 7)) (ml, mm, mw, pe, so, ta, rs, pc, ow, nm, ex, f1, f2, f3)) :
    ∀ (d t : Nat) (nm ex : Nat → Int32), t + d + 1 = sd_W sd_z hi 7 → (∀ k, k < 7 → nm k = nI (sd_vt sd_z hi t k)) → wY_spare_39 post (nI i) (nI j) (d + 2) (sd_sp sd_z hi (fun v => sd_S so ta v i - ow i) ok t) 1 ml mm mw pe so ta rs pc ow nm ex f1 f2 f3 := by
  have hT := sd_W_7 (lo := sd_z) h4
  have hl : ∀ k, k < 7 → sd_z k ≤ hi k := fun k _ => Nat.zero_le _
  have ci : (nI i).toNatClampNeg = i := nI_clamp (by omega)
  have vi : vp_in (nI i) 5 := vp_in_nI hi5 (by omega)
  intro d
  have STEP : ∀ (n t : Nat) (nm ex : Nat → Int32), t < sd_W sd_z hi 7 → (t + 1 ≠ sd_W sd_z hi 7 → ∀ (nm ex : Nat → Int32), (∀ k, k < 7 → nm k = nI (sd_vt sd_z hi (t + 1) k)) → wY_spare_39 post (nI i) (nI j) (n + 1) (sd_sp sd_z hi (fun v => sd_S so ta v i - ow i) ok (t + 1)) 1 ml mm mw pe so ta rs pc ow nm ex f1 f2 f3) → (∀ k, k < 7 → nm k = nI (sd_vt sd_z hi t k)) → wY_spare_39 post (nI i) (nI j) (n + 2) (sd_sp sd_z hi (fun v => sd_S so ta v i - ow i) ok t) 1 ml mm mw pe so ta rs pc ow nm ex f1 f2 f3 := by
    intro n t nm ex htT K1 hn
    have hB := (sd_vt_ok hl t htT).1
    have v4 : ∀ k, k < 7 → sd_vt sd_z hi t k ≤ 4 := fun k hk => Nat.le_trans (hB k hk).2 (h4 k hk)
    have A : ∀ (x3 : Int32) (ex : Nat → Int32), x3 = sd_sp sd_z hi (fun v => sd_S so ta v i - ow i) ok (t + 1) → wY_spare_83 post (wY_spare_39 post (nI i) (nI j) (n + 1)) (nI i) (nI j) x3 ml mm mw pe so ta rs pc ow nm ex f1 f2 f3 := by
      intro x3 ex e
      subst e
      unfold wY_spare_83
      refine sd_adv hB h4 hp hq hn (fun nm' a b => ?_) (fun nm' a => ?_)
      · exact K1 (fun e => a ((sd_vt_end hl htT).mpr e)) _ _ b
      · have e := (sd_vt_end hl htT).mp a
        refine br_t rfl ?_
        rw [e]
        exact H _ _
    refine br_f (by decide) (sd_weigh v4 hn hs ht (fun ex' hex => ?_))
    dsimp only
    rw [ci]
    have ei : ex' i = sd_S so ta (sd_vt sd_z hi t) i - ow i := by
      rw [hex i hi5]
      grind
    unfold wY_spare_82
    refine ⟨vi, ?_⟩
    by_cases c : sd_S so ta (sd_vt sd_z hi t) i - ow i ≤ sd_sp sd_z hi (fun v => sd_S so ta v i - ow i) ok t
    · exact br_t (by rw [ei]; exact c) (A _ _ (sd_sp_a c).symm)
    · refine br_f (by rw [ei]; exact c) ⟨vi, sd_bal (fun g => ?_) (fun g => ?_)⟩
      · refine br_f (by decide) ⟨vi, A _ _ ?_⟩
        rw [ei]
        refine (sd_sp_b c ((hok _).mpr (fun p hp5 => ?_))).symm
        refine (sd_eqD _ _ _).mp ((hex p hp5).symm.trans ?_)
        rw [← ei]
        exact g p hp5
      · refine br_t rfl (A _ _ (sd_sp_c c (Bool.eq_false_iff.mpr (fun e => g (fun p hp5 => ?_)))).symm)
        rw [hex p hp5, ei]
        exact (sd_eqD _ _ _).mpr ((hok _).mp e p hp5)
  induction d with
  | zero =>
    intro t nm ex hd hn
    exact STEP 0 t _ _ (by omega) (fun e => absurd hd e) hn
  | succ d ih =>
    intro t nm ex hd hn
    exact STEP (d + 1) t _ _ (by omega) (fun _ nm ex a => ih (t + 1) _ _ (by omega) a) hn
end
section
/-! the relation; the calls that change the network -/
def sd_I (pe so ta pc ro rs : Nat → Int32) : Prop := ∀ k, k < 7 → vp_in (so k) 5 ∧ vp_in (ta k) 5 ∧ sd_P (pc k) ∧ ∃ r, r ≤ 3 ∧ rs k = nI r ∧ ro k = (if pe k = 0 then 0 else nI r)
def i_Rel (k : Nat) (u : SX) (v : SY) : Prop := match u with
  | (sp, fo, bc, lc, gc, pe, so, ta, ro, pc, ow, lw, hg, wn, nu, se, fb, sb, lb) => match v with
    | (ml, mm, mw, pe', so', ta', rs, pc', ow', nm, ex, f1, f2, f3) => pe = pe' ∧ so = so' ∧ ta = ta' ∧ pc = pc' ∧ ow = ow' ∧ sd_I pe so ta pc ro rs
theorem sd_rel {k : Nat} {sp fo bc lc gc ml mm mw : Int32} {pe so ta ro pc ow lw hg wn nu se fb sb lb rs nm ex f1 f2 f3 : Nat → Int32} (I : sd_I pe so ta pc ro rs) : i_Rel k (sp, fo, bc, lc, gc, pe, so, ta, ro, pc, ow, lw, hg, wn, nu, se, fb, sb, lb) (ml, mm, mw, pe, so, ta, rs, pc, ow, nm, ex, f1, f2, f3) := by
  unfold i_Rel
  exact ⟨rfl, rfl, rfl, rfl, rfl, I⟩
theorem i_up {k : Nat} {u : SX} {v : SY} (h : i_Rel k u v) : i_Rel (k + 4) u v := h
theorem sd_v0 : vp_in 0 5 := vp_in_nI (n := 0) (by decide) (by decide)
theorem i_vc0 : wpX_init (fun u => wpY_init (fun v => i_Rel 0 u v)) := by
  unfold wpX_init wpY_init
  exact sd_rel (fun k _ => ⟨sd_v0, sd_v0, ⟨0, by decide, by decide, rfl⟩, 0, by decide, rfl, (if_pos rfl).symm⟩)
theorem sd_I_set {pe so ta pc ro rs pe' so' ta' pc' ro' rs' : Nat → Int32} {j : Nat} (I : sd_I pe so ta pc ro rs) (h : ∀ k, k ≠ j → pe' k = pe k ∧ so' k = so k ∧ ta' k = ta k ∧ pc' k = pc k ∧ ro' k = ro k ∧ rs' k = rs k) (hj : vp_in (so' j) 5 ∧ vp_in (ta' j) 5 ∧ sd_P (pc' j) ∧ ∃ r, r ≤ 3 ∧ rs' j = nI r ∧ ro' j = (if pe' j = 0 then 0 else nI r)) : sd_I pe' so' ta' pc' ro' rs' := by
  intro k hk
  by_cases z : k = j
  · rw [z]; exact hj
  · obtain ⟨a, b, c, d, e, f⟩ := h k z
    rw [a, b, c, d, e, f]
    exact I k hk
/-- a line that is there -/
def sd_L (pe : Nat → Int32) (x : Int32) : Prop := ∃ j, j < 7 ∧ x = nI j ∧ ¬ pe j = 0
theorem sd_isL {sp fo bc lc gc : Int32} {pe so ta ro pc ow lw hg wn nu se fb sb lb : Nat → Int32} {post : Int32 → Prop} {x : Int32} (h1 : sd_L pe x → post 1) (h0 : ¬ sd_L pe x → post 0) : wpX_isLine post (sp, fo, bc, lc, gc, pe, so, ta, ro, pc, ow, lw, hg, wn, nu, se, fb, sb, lb) x := by
  unfold wpX_isLine
  dsimp only
  rcases pk_ix x (n := 7) (by decide) with a | a | ⟨j, hj, rfl⟩
  · exact br_t a (h0 (fun ⟨j, hj, e, _⟩ => by rw [e] at a; exact nI_pos (by omega) a))
  · have b : ¬ x < 0 := fun z => absurd (Int32.lt_of_le_of_lt a z) (by decide)
    exact br_f b (br_t a (h0 (fun ⟨j, hj, e, _⟩ => by rw [e] at a; exact sd_7n hj a)))
  · have cj : (nI j).toNatClampNeg = j := nI_clamp (by omega)
    refine br_f (nI_pos (by omega)) (br_f (sd_7n hj) ⟨vp_in_nI hj (by omega), ?_⟩)
    rw [cj]
    exact br_c (fun z => h0 (fun ⟨i, hi, e, g⟩ => g (by rw [← (nI_eq (by omega) (by omega)).mp e]; exact z))) (fun z => h1 ⟨j, hj, rfl, z⟩)
theorem sd_isY {ml mm mw : Int32} {pe so ta rs pc ow nm ex f1 f2 f3 : Nat → Int32} {post : Int32 → Prop} {x : Int32} (h1 : sd_L pe x → post 1) (h0 : ¬ sd_L pe x → post 0) : wpY_is post (ml, mm, mw, pe, so, ta, rs, pc, ow, nm, ex, f1, f2, f3) x := by
  unfold wpY_is
  dsimp only
  rcases pk_ix x (n := 7) (by decide) with a | a | ⟨j, hj, rfl⟩
  · exact br_t a (h0 (fun ⟨j, hj, e, _⟩ => by rw [e] at a; exact nI_pos (by omega) a))
  · have b : ¬ x < 0 := fun z => absurd (Int32.lt_of_le_of_lt a z) (by decide)
    have c : (6 : Int32) < x := Int32.lt_of_lt_of_le (by decide) a
    exact br_f b (br_t c (h0 (fun ⟨j, hj, e, _⟩ => by rw [e] at a; exact sd_7n hj a)))
  · have cj : (nI j).toNatClampNeg = j := nI_clamp (by omega)
    refine br_f (nI_pos (by omega)) (br_f (nI_nlt (b := j) (a := 6) (by omega) (by decide)) ⟨vp_in_nI hj (by omega), ?_⟩)
    rw [cj]
    exact br_c (fun z => h0 (fun ⟨i, hi, e, g⟩ => g (by rw [← (nI_eq (by omega) (by omega)).mp e]; exact z))) (fun z => h1 ⟨j, hj, rfl, z⟩)
def sd_Pl (x : Int32) : Prop := ∃ j, j < 5 ∧ x = nI j
theorem sd_pl3 (x : Int32) : (x < 0 ∧ ¬ sd_Pl x) ∨ (¬ x < 0 ∧ (5 : Int32) ≤ x ∧ (4 : Int32) < x ∧ ¬ sd_Pl x) ∨ (¬ x < 0 ∧ ¬ (5 : Int32) ≤ x ∧ ¬ (4 : Int32) < x ∧ sd_Pl x) := by
  rcases pk_ix x (n := 5) (by decide) with a | a | ⟨j, hj, rfl⟩
  · exact Or.inl ⟨a, fun ⟨j, hj, e⟩ => by rw [e] at a; exact nI_pos (by omega) a⟩
  · exact Or.inr (Or.inl ⟨fun z => absurd (Int32.lt_of_le_of_lt a z) (by decide), a, Int32.lt_of_lt_of_le (by decide) a, fun ⟨j, hj, e⟩ => by rw [e] at a; exact sd_5n hj a⟩)
  · exact Or.inr (Or.inr ⟨nI_pos (by omega), sd_5n hj, Int32.not_lt.mpr (nI_le (b := 4) (by omega) (by decide)), j, hj, rfl⟩)
theorem sd_isP {sp fo bc lc gc : Int32} {pe so ta ro pc ow lw hg wn nu se fb sb lb : Nat → Int32} {post : Int32 → Prop} {x : Int32} (h1 : sd_Pl x → post 1) (h0 : ¬ sd_Pl x → post 0) : wpX_isPlace post (sp, fo, bc, lc, gc, pe, so, ta, ro, pc, ow, lw, hg, wn, nu, se, fb, sb, lb) x := by
  unfold wpX_isPlace
  dsimp only
  rcases sd_pl3 x with ⟨a, b⟩ | ⟨a, b, c, d⟩ | ⟨a, b, c, d⟩
  · exact br_t a (h0 b)
  · exact br_f a (br_t b (h0 d))
  · exact br_f a (br_f b (h1 d))
theorem sd_plY {ml mm mw : Int32} {pe so ta rs pc ow nm ex f1 f2 f3 : Nat → Int32} {post : Int32 → Prop} {x : Int32} (h1 : sd_Pl x → post 1) (h0 : ¬ sd_Pl x → post 0) : wpY_place post (ml, mm, mw, pe, so, ta, rs, pc, ow, nm, ex, f1, f2, f3) x := by
  unfold wpY_place
  dsimp only
  rcases sd_pl3 x with ⟨a, b⟩ | ⟨a, b, c, d⟩ | ⟨a, b, c, d⟩
  · exact br_t a (h0 b)
  · exact br_f a (br_t c (h0 d))
  · exact br_f a (br_f c (h1 d))
/-- two places that differ -/
def sd_T (x y : Int32) : Prop := sd_Pl x ∧ sd_Pl y ∧ ¬ x = y
theorem sd_two {sp fo bc lc gc : Int32} {pe so ta ro pc ow lw hg wn nu se fb sb lb : Nat → Int32} {post : Int32 → Prop} {x y : Int32} (h1 : sd_T x y → post 1) (h0 : ¬ sd_T x y → post 0) : wpX_areTwoPlaces post (sp, fo, bc, lc, gc, pe, so, ta, ro, pc, ow, lw, hg, wn, nu, se, fb, sb, lb) x y := by
  unfold wpX_areTwoPlaces
  dsimp only
  refine sd_isP (fun a => br_f (by decide) (sd_isP (fun b => br_f (by decide) (br_c (fun e => h0 (fun t => t.2.2 e)) (fun e => h1 ⟨a, b, e⟩))) (fun b => br_t rfl (h0 (fun t => b t.2.1))))) (fun a => br_t rfl (h0 (fun t => a t.1)))
def sd_Wh (x : Int32) : Prop := ∃ w, w ≤ 75 ∧ x = nI w
theorem sd_wh3 (x : Int32) : (x < 0 ∧ ¬ sd_Wh x) ∨ (¬ x < 0 ∧ (75 : Int32) < x ∧ ¬ x ≤ 75 ∧ ¬ sd_Wh x) ∨ (¬ x < 0 ∧ ¬ (75 : Int32) < x ∧ x ≤ 75 ∧ sd_Wh x) := by
  rcases pk_ix x (n := 76) (by decide) with a | a | ⟨j, hj, rfl⟩
  · exact Or.inl ⟨a, fun ⟨j, hj, e⟩ => by rw [e] at a; exact nI_pos (by omega) a⟩
  · have c : (75 : Int32) < x := Int32.lt_of_lt_of_le (by decide) a
    exact Or.inr (Or.inl ⟨fun z => absurd (Int32.lt_of_le_of_lt a z) (by decide), c, Int32.not_le.mpr c, fun ⟨j, hj, e⟩ => by rw [e] at c; exact nI_nlt (b := j) (a := 75) hj (by decide) c⟩)
  · have c : nI j ≤ 75 := nI_le (b := 75) (by omega) (by decide)
    exact Or.inr (Or.inr ⟨nI_pos (by omega), Int32.not_lt.mpr c, c, j, by omega, rfl⟩)
theorem sd_isW {sp fo bc lc gc : Int32} {pe so ta ro pc ow lw hg wn nu se fb sb lb : Nat → Int32} {post : Int32 → Prop} {x : Int32} (h1 : sd_Wh x → post 1) (h0 : ¬ sd_Wh x → post 0) : wpX_isWhat post (sp, fo, bc, lc, gc, pe, so, ta, ro, pc, ow, lw, hg, wn, nu, se, fb, sb, lb) x := by
  unfold wpX_isWhat
  dsimp only
  rcases sd_wh3 x with ⟨a, b⟩ | ⟨a, b, c, d⟩ | ⟨a, b, c, d⟩
  · exact br_t a (h0 b)
  · exact br_f a (br_t b (h0 d))
  · exact br_f a (br_f b (h1 d))
theorem sd_fl2 {sp fo bc lc gc : Int32} {pe so ta ro pc ow lw hg wn nu se fb sb lb : Nat → Int32} {post : Int32 → Prop} (h7 : (∀ k, k < 7 → ¬ pe k = 0) → post 7) (hj : ∀ j, j < 7 → pe j = 0 → (∀ k, k < j → ¬ pe k = 0) → post (nI j)) : ∀ d j : Nat, j + d = 7 → (∀ k, k < j → ¬ pe k = 0) → wX_freeLine_2 post sp fo bc lc gc pe so ta ro pc ow lw hg wn nu se fb sb lb (d + 1) (nI j) := by
  intro d
  induction d with
  | zero =>
    intro j e h
    obtain rfl : j = 7 := by omega
    exact br_t sd_7y (h7 h)
  | succ d ih =>
    intro j e h
    have cj : (nI j).toNatClampNeg = j := nI_clamp (by omega)
    refine br_f (sd_7n (by omega)) ⟨vp_in_nI (by omega) (by omega), ?_⟩
    rw [cj]
    exact br_c (fun z => hj j (by omega) z h) (fun z => nm_r (nI_1 j) (ih (j + 1) (by omega) (lt_s h z)))
theorem sd_price {w : Nat} (hw : w ≤ 75) : sd_P (nI w / 4 - 9) := by
  refine ⟨(w / 4 : Nat) - 9, by omega, by omega, ?_⟩
  have e : nI w / 4 = nI (w / 4) := pk_div (d := 4) (by omega) (by decide) (by decide)
  rw [e, Int32.ofInt_sub, Int32.ofInt_eq_ofNat]
  rfl
theorem sd_room {w : Nat} (hw : w ≤ 75) : nI w - nI w / 4 * 4 = nI (w % 4) := pk_rem (d := 4) (by omega) (by decide) (by decide)
theorem sd_n4 : ¬ (4 : Int32) = 0 := by decide
theorem sd_nr1 : vp_nar .boolean 1 = 1 := by first | rfl | decide
theorem sd_nr0 : vp_nar .boolean 0 = 0 := by first | rfl | decide
end
section
/-! add, remove, change, balance, lines -/
theorem sd_ya36 {ml mm mw : Int32} {pe so ta rs pc ow nm ex f1 f2 f3 : Nat → Int32} {x1 x2 x3 : Int32} {post : Int32 → SY → Prop} (h7 : (∀ k, k < 7 → ¬ pe k = 0) → post (-2) (ml, mm, mw, pe, so, ta, rs, pc, ow, nm, ex, f1, f2, f3)) (hj : ∀ j, j < 7 → pe j = 0 → (∀ k, k < j → ¬ pe k = 0) → post (nI j) (ml, mm, mw, upd pe j (vp_nar .boolean 1), upd so j x1, upd ta j x2, upd rs j (x3 - x3 / 4 * 4), upd pc j (x3 / 4 - 9), ow, nm, ex, f1, f2, f3)) : ∀ d j : Nat, j + d = 7 → (∀ k, k < j → ¬ pe k = 0) → wY_add_36 post x1 x2 x3 ml mm mw pe so ta rs pc ow nm ex f1 f2 f3 (d + 1) (nI j) := by
  intro d
  induction d with
  | zero =>
    intro j e h
    obtain rfl : j = 7 := by omega
    exact br_t sd_7y (h7 h)
  | succ d ih =>
    intro j e h
    have cj : (nI j).toNatClampNeg = j := nI_clamp (by omega)
    have vj : vp_in (nI j) 7 := vp_in_nI (by omega) (by omega)
    refine br_f (sd_7n (by omega)) ⟨vj, ?_⟩
    rw [cj]
    refine br_c (fun z => ⟨vj, nm_e ⟨vj, nm_e ⟨vj, nm_e ?_⟩⟩⟩) (fun z => nm_r (nI_1 j) (ih (j + 1) (by omega) (lt_s h z)))
    unfold wpY_give
    dsimp only
    rw [cj]
    exact ⟨sd_n4, vj, nm_e ⟨sd_n4, vj, nm_e (hj j (by omega) z h)⟩⟩
theorem sd_addY {ml mm mw : Int32} {pe so ta rs pc ow nm ex f1 f2 f3 : Nat → Int32} {x1 x2 x3 : Int32} {post : Int32 → SY → Prop} (ht : sd_T x1 x2) (hw : sd_Wh x3) (h7 : (∀ k, k < 7 → ¬ pe k = 0) → post (-2) (ml, mm, mw, pe, so, ta, rs, pc, ow, nm, ex, f1, f2, f3)) (hj : ∀ j, j < 7 → pe j = 0 → (∀ k, k < j → ¬ pe k = 0) → post (nI j) (ml, mm, mw, upd pe j (vp_nar .boolean 1), upd so j x1, upd ta j x2, upd rs j (x3 - x3 / 4 * 4), upd pc j (x3 / 4 - 9), ow, nm, ex, f1, f2, f3)) : wpY_add post (ml, mm, mw, pe, so, ta, rs, pc, ow, nm, ex, f1, f2, f3) x1 x2 x3 := by
  unfold wpY_add
  dsimp only
  refine br_f ht.2.2 (sd_plY (fun _ => br_f (by decide) (sd_plY (fun _ => br_f (by decide) ?_) (fun g => absurd ht.2.1 g))) (fun g => absurd ht.1 g))
  rcases sd_wh3 x3 with ⟨a, b⟩ | ⟨a, b, c, d⟩ | ⟨a, b, c, d⟩
  · exact absurd hw b
  · exact absurd hw d
  · exact br_f a (br_t c ⟨8, sd_ya36 h7 hj 7 0 rfl lt_0⟩)
theorem sd_addB {ml mm mw : Int32} {pe so ta rs pc ow nm ex f1 f2 f3 : Nat → Int32} {x1 x2 x3 : Int32} {post : Int32 → SY → Prop} (h : ¬ (sd_T x1 x2 ∧ sd_Wh x3)) (H : post (-1) (ml, mm, mw, pe, so, ta, rs, pc, ow, nm, ex, f1, f2, f3)) : wpY_add post (ml, mm, mw, pe, so, ta, rs, pc, ow, nm, ex, f1, f2, f3) x1 x2 x3 := by
  unfold wpY_add
  dsimp only
  refine br_c (fun _ => H) (fun e => sd_plY (fun p1 => br_f (by decide) (sd_plY (fun p2 => br_f (by decide) ?_) (fun _ => br_t rfl H))) (fun _ => br_t rfl H))
  rcases sd_wh3 x3 with ⟨a, b⟩ | ⟨a, b, c, d⟩ | ⟨a, b, c, d⟩
  · exact br_t a H
  · exact br_f a (br_f c H)
  · exact absurd ⟨⟨p1, p2, e⟩, d⟩ h
theorem sd_uo {f : Nat → Int32} {j k : Nat} {x : Int32} (h : k ≠ j) : upd f j x k = f k := pk_un h
theorem sd_vPl {x : Int32} (h : sd_Pl x) : vp_in x 5 := by
  obtain ⟨j, hj, rfl⟩ := h
  exact vp_in_nI hj (by omega)
theorem i_vc_add {k : Nat} {u : SX} {v : SY} (I : i_Rel k u v) (hk : k + 4 ≤ 2048) (v1 : Int32) (v2 : Int32) (v3 : Int32) : wpX_add (fun r u' => wpY_add (fun r' v' => r' = r ∧ i_Rel (k + 4) u' v') v v1 v2 v3) u v1 v2 v3 := by
  obtain ⟨sp, fo, bc, lc, gc, pe, so, ta, ro, pc, ow, lw, hg, wn, nu, se, fb, sb, lb⟩ := u
  obtain ⟨ml, mm, mw, pe', so', ta', rs, pc', ow', nm, ex, f1, f2, f3⟩ := v
  obtain ⟨rfl, rfl, rfl, rfl, rfl, I⟩ := I
  unfold wpX_add
  dsimp only
  refine sd_two (fun t => br_f (by decide) (sd_isW (fun w => br_f (by decide) ⟨8, sd_fl2 (fun full => ?_) (fun j hj z h => ?_) 7 0 rfl lt_0⟩) (fun w => br_t rfl ?_))) (fun t => br_t rfl ?_)
  · exact br_t rfl (sd_addY t w (fun _ => ⟨rfl, sd_rel I⟩) (fun i hi z _ => absurd z (full i hi)))
  · have cj : (nI j).toNatClampNeg = j := nI_clamp (by omega)
    have vj : vp_in (nI j) 7 := vp_in_nI hj (by omega)
    have n7 : ¬ nI j = 7 := fun e => by
      have := (nI_eq (a := j) (b := 7) (by omega) (by decide)).mp e
      omega
    refine br_f n7 ⟨vj, nm_e ⟨vj, nm_e ⟨vj, nm_e ?_⟩⟩⟩
    unfold wpX_setRoomAndPrice
    dsimp only
    rw [cj]
    refine ⟨sd_n4, vj, nm_e ⟨sd_n4, vj, nm_e ?_⟩⟩
    refine sd_addY t w (fun full => absurd z (full j hj)) (fun i hi zi h' => ?_)
    have eij : i = j := by
      rcases Nat.lt_trichotomy i j with g | g | g
      · exact absurd zi (h i g)
      · exact g
      · exact absurd z (h' j g)
    subst eij
    refine ⟨rfl, sd_rel (sd_I_set (j := i) I (fun n hn => ⟨sd_uo hn, sd_uo hn, sd_uo hn, sd_uo hn, sd_uo hn, sd_uo hn⟩) ?_)⟩
    obtain ⟨m, hm, rfl⟩ := w
    rw [pk_us, pk_us, pk_us, pk_us, pk_us, pk_us, sd_nr1]
    exact ⟨sd_vPl t.1, sd_vPl t.2.1, sd_price hm, m % 4, by omega, sd_room hm, (sd_room hm).trans (if_neg (by decide : ¬ (1 : Int32) = 0)).symm⟩
  · exact sd_addB (fun g => w g.2) ⟨rfl, sd_rel I⟩
  · exact sd_addB (fun g => t g.1) ⟨rfl, sd_rel I⟩
theorem i_vc_remove {k : Nat} {u : SX} {v : SY} (I : i_Rel k u v) (hk : k + 4 ≤ 2048) (v1 : Int32) : wpX_remove (fun r u' => wpY_remove (fun r' v' => r' = r ∧ i_Rel (k + 4) u' v') v v1) u v1 := by
  obtain ⟨sp, fo, bc, lc, gc, pe, so, ta, ro, pc, ow, lw, hg, wn, nu, se, fb, sb, lb⟩ := u
  obtain ⟨ml, mm, mw, pe', so', ta', rs, pc', ow', nm, ex, f1, f2, f3⟩ := v
  obtain ⟨rfl, rfl, rfl, rfl, rfl, I⟩ := I
  unfold wpX_remove wpY_remove
  dsimp only
  refine sd_isL (fun L => br_f (by decide) ?_) (fun L => br_t rfl (sd_isY (fun g => absurd g L) (fun _ => br_t rfl ⟨rfl, sd_rel I⟩)))
  obtain ⟨j, hj, rfl, hp⟩ := id L
  have cj : (nI j).toNatClampNeg = j := nI_clamp (by omega)
  have vj : vp_in (nI j) 7 := vp_in_nI hj (by omega)
  refine ⟨vj, nm_e ⟨vj, nm_e (sd_isY (fun _ => br_f (by decide) ⟨vj, nm_e ⟨rfl, sd_rel ?_⟩⟩) (fun g => absurd L g))⟩⟩
  rw [cj, sd_nr0]
  refine sd_I_set (j := j) I (fun n hn => ⟨sd_uo hn, rfl, rfl, rfl, sd_uo hn, rfl⟩) ?_
  obtain ⟨a, b, c, r, hr, d, e⟩ := I j hj
  rw [pk_us, pk_us]
  exact ⟨a, b, c, r, hr, d, (if_pos rfl).symm⟩
theorem i_vc_change {k : Nat} {u : SX} {v : SY} (I : i_Rel k u v) (hk : k + 4 ≤ 2048) (v1 : Int32) (v2 : Int32) : wpX_change (fun r u' => wpY_change (fun r' v' => r' = r ∧ i_Rel (k + 4) u' v') v v1 v2) u v1 v2 := by
  obtain ⟨sp, fo, bc, lc, gc, pe, so, ta, ro, pc, ow, lw, hg, wn, nu, se, fb, sb, lb⟩ := u
  obtain ⟨ml, mm, mw, pe', so', ta', rs, pc', ow', nm, ex, f1, f2, f3⟩ := v
  obtain ⟨rfl, rfl, rfl, rfl, rfl, I⟩ := I
  unfold wpX_change wpY_change
  dsimp only
  refine sd_isL (fun L => br_f (by decide) (sd_isW (fun w => br_f (by decide) ?_) (fun w => br_t rfl (sd_isY (fun _ => br_f (by decide) ?_) (fun g => absurd L g))))) (fun L => br_t rfl (sd_isY (fun g => absurd g L) (fun _ => br_t rfl ⟨rfl, sd_rel I⟩)))
  · obtain ⟨j, hj, rfl, hp⟩ := id L
    have cj : (nI j).toNatClampNeg = j := nI_clamp (by omega)
    have vj : vp_in (nI j) 7 := vp_in_nI hj (by omega)
    unfold wpX_setRoomAndPrice
    dsimp only
    rw [cj]
    refine ⟨sd_n4, vj, nm_e ⟨sd_n4, vj, nm_e (sd_isY (fun _ => br_f (by decide) ?_) (fun g => absurd L g))⟩⟩
    rcases sd_wh3 v2 with ⟨a, b⟩ | ⟨a, b, c, d⟩ | ⟨a, b, c, d⟩
    · exact absurd w b
    · exact absurd w d
    · refine br_f a (br_t c ?_)
      unfold wpY_give
      dsimp only
      rw [cj]
      refine ⟨sd_n4, vj, nm_e ⟨sd_n4, vj, nm_e ⟨rfl, sd_rel (sd_I_set (j := j) I (fun n hn => ⟨rfl, rfl, rfl, sd_uo hn, sd_uo hn, sd_uo hn⟩) ?_)⟩⟩⟩
      obtain ⟨m, hm, rfl⟩ := w
      obtain ⟨a1, a2, _⟩ := I j hj
      rw [pk_us, pk_us, pk_us]
      exact ⟨a1, a2, sd_price hm, m % 4, by omega, sd_room hm, (sd_room hm).trans (if_neg hp).symm⟩
  · rcases sd_wh3 v2 with ⟨a, b⟩ | ⟨a, b, c, d⟩ | ⟨a, b, c, d⟩
    · exact br_t a ⟨rfl, sd_rel I⟩
    · exact br_f a (br_f c ⟨rfl, sd_rel I⟩)
    · exact absurd d w
theorem i_vc_balance {k : Nat} {u : SX} {v : SY} (I : i_Rel k u v) (hk : k + 4 ≤ 2048) (v1 : Int32) (v2 : Int32) : wpX_balance (fun r u' => wpY_balance (fun r' v' => r' = r ∧ i_Rel (k + 4) u' v') v v1 v2) u v1 v2 := by
  obtain ⟨sp, fo, bc, lc, gc, pe, so, ta, ro, pc, ow, lw, hg, wn, nu, se, fb, sb, lb⟩ := u
  obtain ⟨ml, mm, mw, pe', so', ta', rs, pc', ow', nm, ex, f1, f2, f3⟩ := v
  obtain ⟨rfl, rfl, rfl, rfl, rfl, I⟩ := I
  unfold wpX_balance wpY_balance
  dsimp only
  refine sd_isP (fun p => br_f (by decide) (br_c (fun a => ?_) (fun a => br_c (fun b => ⟨sd_vPl p, nm_e ?_⟩) (fun b => ?_)))) (fun p => br_t rfl (sd_plY (fun g => absurd g p) (fun _ => br_t rfl ⟨rfl, sd_rel I⟩)))
  · exact sd_plY (fun _ => br_f (by decide) (br_t a ⟨rfl, sd_rel I⟩)) (fun g => absurd p g)
  · exact sd_plY (fun _ => br_f (by decide) (br_f a (br_t b ⟨sd_vPl p, nm_e ⟨rfl, sd_rel I⟩⟩))) (fun g => absurd p g)
  · exact sd_plY (fun _ => br_f (by decide) (br_f a (br_f b ⟨rfl, sd_rel I⟩))) (fun g => absurd p g)
theorem sd_lines {sp fo bc lc gc ml mm mw : Int32} {pe so ta ro pc ow lw hg wn nu se fb sb lb rs nm ex f1 f2 f3 : Nat → Int32} : ∀ (d j : Nat) (x1 : Int32), j + d = 7 → ∃ r : Int32, (∀ post : Int32 → Prop, post r → wX_lines_4 post sp fo bc lc gc pe so ta ro pc ow lw hg wn nu se fb sb lb (d + 1) x1 (nI j)) ∧ (∀ post : Int32 → Prop, post r → wY_lines_4 post ml mm mw pe so ta rs pc ow nm ex f1 f2 f3 (d + 1) x1 (nI j)) := by
  intro d
  induction d with
  | zero =>
    intro j x1 hj
    obtain rfl : j = 7 := by omega
    exact ⟨x1, fun _ h => br_t sd_7y h, fun _ h => br_t sd_7y h⟩
  | succ d ih =>
    intro j x1 hj
    have vj : vp_in (nI j) 7 := vp_in_nI (by omega) (by omega)
    have n7 := sd_7n (j := j) (by omega)
    by_cases z : pe (nI j).toNatClampNeg = 0
    · obtain ⟨r, hX, hY⟩ := ih (j + 1) x1 (by omega)
      exact ⟨r, fun post h => br_f n7 ⟨vj, br_t z (nm_r (nI_1 j) (hX post h))⟩, fun post h => br_f n7 ⟨vj, br_t z (nm_r (nI_1 j) (hY post h))⟩⟩
    · obtain ⟨r, hX, hY⟩ := ih (j + 1) (x1 ||| ((1 : Int32) <<< (nI j &&& 31))) (by omega)
      exact ⟨r, fun post h => br_f n7 ⟨vj, br_f z (nm_e (nm_r (nI_1 j) (hX post h)))⟩, fun post h => br_f n7 ⟨vj, br_f z (nm_e (nm_r (nI_1 j) (hY post h)))⟩⟩
theorem i_vc_lines {k : Nat} {u : SX} {v : SY} (I : i_Rel k u v) (hk : k + 4 ≤ 2048) : wpX_lines (fun r => wpY_lines (fun r' => r' = r ∧ i_Rel (k + 4) u v) v) u := by
  obtain ⟨sp, fo, bc, lc, gc, pe, so, ta, ro, pc, ow, lw, hg, wn, nu, se, fb, sb, lb⟩ := u
  obtain ⟨ml, mm, mw, pe', so', ta', rs, pc', ow', nm, ex, f1, f2, f3⟩ := v
  obtain ⟨rfl, rfl, rfl, rfl, rfl, I⟩ := I
  obtain ⟨r, hX, hY⟩ := sd_lines (sp := sp) (fo := fo) (bc := bc) (lc := lc) (gc := gc) (ml := ml) (mm := mm) (mw := mw) (pe := pe) (so := so) (ta := ta) (ro := ro) (pc := pc) (ow := ow) (lw := lw) (hg := hg) (wn := wn) (nu := nu) (se := se) (fb := fb) (sb := sb) (lb := lb) (rs := rs) (nm := nm) (ex := ex) (f1 := f1) (f2 := f2) (f3 := f3) 7 0 0 rfl
  exact ⟨8, hX _ ⟨8, hY _ ⟨rfl, sd_rel I⟩⟩⟩
end
section
/-! the questions: what both sides find, and the answers made of it -/
def sd_hb (ro : Nat → Int32) : Nat → Nat := fun k => (ro k).toNatClampNeg
noncomputable def sd_bo (P : Prop) : Bool := @decide P (Classical.propDecidable P)
theorem sd_bo_i {P : Prop} : sd_bo P = true ↔ P := @decide_eq_true_iff P (Classical.propDecidable P)
noncomputable def sd_ok (so ta w : Nat → Int32) (v : Nat → Nat) : Bool := sd_bo (∀ p, p < 5 → sd_S so ta v p = w p)
theorem sd_ok_i {so ta w : Nat → Int32} {v : Nat → Nat} : sd_ok so ta w v = true ↔ ∀ p, p < 5 → sd_S so ta v p = w p := by
  unfold sd_ok
  exact sd_bo_i
noncomputable def sd_r0 (so ta pc w : Nat → Int32) (hi : Nat → Nat) : sd_R := sd_rs sd_z hi (sd_ok so ta w) (sd_C pc) (sd_W sd_z hi 7)
theorem sd_I_b {pe so ta pc ro rs : Nat → Int32} (I : sd_I pe so ta pc ro rs) {k : Nat} (hk : k < 7) : ro k = nI (sd_hb ro k) ∧ sd_hb ro k ≤ 3 ∧ (pe k = 0 → sd_hb ro k = 0) ∧ (¬ pe k = 0 → rs k = nI (sd_hb ro k)) := by
  obtain ⟨_, _, _, r, hr, e1, e2⟩ := I k hk
  unfold sd_hb
  by_cases z : pe k = 0
  · rw [if_pos z] at e2
    rw [e2]
    exact ⟨by decide, by decide, fun _ => by decide, fun g => absurd z g⟩
  · rw [if_neg z] at e2
    have c : (nI r).toNatClampNeg = r := nI_clamp (by omega)
    rw [e2, c]
    exact ⟨rfl, hr, fun g => absurd g z, fun _ => e1⟩
theorem sd_svG {sp fo bc lc gc : Int32} {pe so ta ro pc ow lw hg wn nu se fb sb lb : Nat → Int32} {post : SX → Prop} {hi : Nat → Nat} {w : Nat → Int32} (h4 : ∀ k, k < 7 → hi k ≤ 4) (hs : ∀ k, k < 7 → vp_in (so k) 5) (ht : ∀ k, k < 7 → vp_in (ta k) 5) (a : ∀ k, k < 7 → lw k = 0) (b : ∀ k, k < 7 → hg k = nI (hi k)) (c : ∀ p, p < 5 → wn p = w p) (H : ∀ (sp fo bc lc gc : Int32) (nu se fb sb lb : Nat → Int32), sd_XF (sd_r0 so ta pc w hi) fo bc lc gc fb sb lb → post (sp, fo, bc, lc, gc, pe, so, ta, ro, pc, ow, lw, hg, wn, nu, se, fb, sb, lb)) : wpX_survey post (sp, fo, bc, lc, gc, pe, so, ta, ro, pc, ow, lw, hg, wn, nu, se, fb, sb, lb) := by
  refine sd_survey (lo := sd_z) (hi := hi) (ok := sd_ok so ta w) (fun k _ => Nat.zero_le _) h4 (fun k hk => a k hk) b hs ht (fun v => ?_) H
  rw [sd_ok_i]
  exact ⟨fun g p hp => (g p hp).trans (c p hp).symm, fun g p hp => (g p hp).trans (c p hp)⟩
theorem sd_svI {sp fo bc lc gc : Int32} {pe so ta ro pc ow lw hg wn nu se fb sb lb : Nat → Int32} {post : SX → Prop} {rs w : Nat → Int32} (I : sd_I pe so ta pc ro rs) (a : ∀ k, k < 7 → lw k = 0) (b : ∀ k, k < 7 → hg k = ro k) (c : ∀ p, p < 5 → wn p = w p) (H : ∀ (sp fo bc lc gc : Int32) (nu se fb sb lb : Nat → Int32), sd_XF (sd_r0 so ta pc w (sd_hb ro)) fo bc lc gc fb sb lb → post (sp, fo, bc, lc, gc, pe, so, ta, ro, pc, ow, lw, hg, wn, nu, se, fb, sb, lb)) : wpX_survey post (sp, fo, bc, lc, gc, pe, so, ta, ro, pc, ow, lw, hg, wn, nu, se, fb, sb, lb) :=
  sd_svG (fun k hk => Nat.le_trans (sd_I_b I hk).2.1 (by decide)) (fun k hk => (I k hk).1) (fun k hk => (I k hk).2.1) a (fun k hk => (b k hk).trans (sd_I_b I hk).1) c H
theorem sd_seG {ml mm mw : Int32} {pe so ta rs pc ow nm ex f1 f2 f3 : Nat → Int32} {post : SY → Prop} {x1 x2 x3 : Int32} {hi : Nat → Nat} {w : Nat → Int32} (h4 : ∀ k, k < 7 → hi k ≤ 4) (hp : ∀ k, k < 7 → pe k = 0 → hi k = 0) (hq : ∀ k, k < 7 → ¬ pe k = 0 → rs k = nI (hi k)) (hs : ∀ k, k < 7 → vp_in (so k) 5) (ht : ∀ k, k < 7 → vp_in (ta k) 5) (hc : ∀ k, k < 7 → sd_P (pc k)) (hw : ∀ p, p < 5 → w p = ow p + sd_D x1 x2 x3 p) (H : ∀ (ml mm mw : Int32) (nm ex f1 f2 f3 : Nat → Int32), sd_YF (sd_r0 so ta pc w hi) ml mm mw f1 f2 f3 → post (ml, mm, mw, pe, so, ta, rs, pc, ow, nm, ex, f1, f2, f3)) : wpY_search post (ml, mm, mw, pe, so, ta, rs, pc, ow, nm, ex, f1, f2, f3) x1 x2 x3 (-1) 0 := by
  have m1 : (-1 : Int32) < 0 := by decide
  refine sd_search (ok := sd_ok so ta w) h4 hp hq hs ht hc (Or.inl m1) (fun v => ?_) H
  rw [sd_ok_i]
  exact ⟨fun g => ⟨fun p hp => (g p hp).trans (hw p hp), Or.inl m1⟩, fun g p hp => (g.1 p hp).trans (hw p hp).symm⟩
theorem sd_seI {ml mm mw : Int32} {pe so ta rs pc ow nm ex f1 f2 f3 : Nat → Int32} {post : SY → Prop} {x1 x2 x3 : Int32} {ro w : Nat → Int32} (I : sd_I pe so ta pc ro rs) (hw : ∀ p, p < 5 → w p = ow p + sd_D x1 x2 x3 p) (H : ∀ (ml mm mw : Int32) (nm ex f1 f2 f3 : Nat → Int32), sd_YF (sd_r0 so ta pc w (sd_hb ro)) ml mm mw f1 f2 f3 → post (ml, mm, mw, pe, so, ta, rs, pc, ow, nm, ex, f1, f2, f3)) : wpY_search post (ml, mm, mw, pe, so, ta, rs, pc, ow, nm, ex, f1, f2, f3) x1 x2 x3 (-1) 0 :=
  sd_seG (fun k hk => Nat.le_trans (sd_I_b I hk).2.1 (by decide)) (fun k hk => (sd_I_b I hk).2.2.1) (fun k hk => (sd_I_b I hk).2.2.2) (fun k hk => (I k hk).1) (fun k hk => (I k hk).2.1) (fun k hk => (I k hk).2.2.1) hw H
theorem sd_D0 (x1 x2 : Int32) (p : Nat) : sd_D x1 x2 0 p = 0 := by
  unfold sd_D
  by_cases a : nI p = x1
  · rw [if_pos a]
  · rw [if_neg a]
    by_cases b : nI p = x2
    · rw [if_pos b]; rfl
    · rw [if_neg b]
theorem sd_w0 {ow : Nat → Int32} (x1 x2 : Int32) : ∀ p, p < 5 → ow p = ow p + sd_D x1 x2 0 p := fun p _ => by
  rw [sd_D0, Int32.add_zero]
theorem sd_XY {r : sd_R} {fo bc lc gc ml mm mw : Int32} {fb sb lb f1 f2 f3 : Nat → Int32} (hr : r.1 < 2 ^ 31) (hX : sd_XF r fo bc lc gc fb sb lb) (hY : sd_YF r ml mm mw f1 f2 f3) : (r.1 = 0 ∧ fo = 0 ∧ bc = 0 ∧ mw = 0 ∧ ml = -100000 ∧ mm = -100000) ∨ (r.1 ≠ 0 ∧ fo = 1 ∧ bc = mw ∧ ¬ mw ≤ 0 ∧ ml = lc ∧ mm = gc ∧ ∀ k, k < 7 → f1 k = fb k ∧ f2 k = sb k ∧ f3 k = lb k) := by
  rcases hX with ⟨a1, a2, a3⟩ | ⟨a1, a2, a3, a4, a5, a6⟩
  · rcases hY with ⟨b1, b2, b3, b4⟩ | ⟨b1, _⟩
    · exact Or.inl ⟨a1, a2, a3, b2, b3, b4⟩
    · exact absurd a1 b1
  · rcases hY with ⟨b1, _⟩ | ⟨b1, b2, b3, b4, b5, b6⟩
    · exact absurd b1 a1
    · refine Or.inr ⟨a1, a2, a3.trans b2.symm, by rw [b2]; exact nI_nle (by omega) hr, b3.trans a4.symm, b4.trans a5.symm, fun k hk => ?_⟩
      obtain ⟨c1, c2, c3⟩ := a6 k hk
      obtain ⟨d1, d2, d3⟩ := b6 k hk
      exact ⟨d1.trans c1.symm, d2.trans c2.symm, d3.trans c3.symm⟩
theorem sd_rl {lo hi : Nat → Nat} {ok : (Nat → Nat) → Bool} {cs : (Nat → Nat) → Int32} (h4 : ∀ k, k < 7 → hi k ≤ 4) : (sd_rs lo hi ok cs (sd_W lo hi 7)).1 < 2 ^ 31 := Nat.lt_of_le_of_lt (sd_rs_w _) (sd_W_7 h4)
theorem sd_r0l {so ta pc w pe ro rs : Nat → Int32} (I : sd_I pe so ta pc ro rs) : (sd_r0 so ta pc w (sd_hb ro)).1 < 2 ^ 31 := sd_rl (fun k hk => Nat.le_trans (sd_I_b I hk).2.1 (by decide))
theorem i_vc_possible {k : Nat} {u : SX} {v : SY} (I : i_Rel k u v) (hk : k + 4 ≤ 2048) : wpX_possible (fun r u' => wpY_possible (fun r' v' => r' = r ∧ i_Rel (k + 4) u' v') v) u := by
  obtain ⟨sp, fo, bc, lc, gc, pe, so, ta, ro, pc, ow, lw, hg, wn, nu, se, fb, sb, lb⟩ := u
  obtain ⟨ml, mm, mw, pe', so', ta', rs, pc', ow', nm, ex, f1, f2, f3⟩ := v
  obtain ⟨rfl, rfl, rfl, rfl, rfl, I⟩ := I
  unfold wpX_possible wpY_possible
  dsimp only
  refine sd_ask (fun lw hg wn a b c => ?_)
  dsimp only
  refine sd_svI I a b c (fun sp fo bc lc gc nu se fb sb lb hX => ?_)
  dsimp only
  refine ⟨?_, sd_seI I (sd_w0 0 1) (fun ml mm mw nm ex f1 f2 f3 hY => ?_)⟩
  · rcases hX with ⟨_, e, _⟩ | ⟨_, e, _⟩
    · rw [e]; exact sd_nb0
    · rw [e]; exact sd_nb1
  · dsimp only
    rcases sd_XY (sd_r0l I) hX hY with ⟨_, e, _, m, _⟩ | ⟨_, e, _, m, _⟩
    · exact br_t (by rw [m]; decide) ⟨e.symm, sd_rel I⟩
    · exact br_f m ⟨e.symm, sd_rel I⟩
theorem i_vc_least {k : Nat} {u : SX} {v : SY} (I : i_Rel k u v) (hk : k + 4 ≤ 2048) : wpX_least (fun r u' => wpY_least (fun r' v' => r' = r ∧ i_Rel (k + 4) u' v') v) u := by
  obtain ⟨sp, fo, bc, lc, gc, pe, so, ta, ro, pc, ow, lw, hg, wn, nu, se, fb, sb, lb⟩ := u
  obtain ⟨ml, mm, mw, pe', so', ta', rs, pc', ow', nm, ex, f1, f2, f3⟩ := v
  obtain ⟨rfl, rfl, rfl, rfl, rfl, I⟩ := I
  unfold wpX_least wpY_least
  dsimp only
  refine sd_ask (fun lw hg wn a b c => ?_)
  dsimp only
  refine sd_svI I a b c (fun sp fo bc lc gc nu se fb sb lb hX => ?_)
  dsimp only
  unfold wpX_leastFound
  dsimp only
  refine br_c (fun z => sd_seI I (sd_w0 0 1) (fun ml mm mw nm ex f1 f2 f3 hY => ?_)) (fun z => sd_seI I (sd_w0 0 1) (fun ml mm mw nm ex f1 f2 f3 hY => ?_))
  · rcases sd_XY (sd_r0l I) hX hY with ⟨_, e, _, _, l, _⟩ | ⟨_, e, _, _, l, _⟩
    · exact ⟨l, sd_rel I⟩
    · exact absurd (z.symm.trans e) (by decide)
  · rcases sd_XY (sd_r0l I) hX hY with ⟨_, e, _, _, l, _⟩ | ⟨_, e, _, _, l, _⟩
    · exact absurd e z
    · exact ⟨l, sd_rel I⟩
theorem i_vc_greatest {k : Nat} {u : SX} {v : SY} (I : i_Rel k u v) (hk : k + 4 ≤ 2048) : wpX_greatest (fun r u' => wpY_greatest (fun r' v' => r' = r ∧ i_Rel (k + 4) u' v') v) u := by
  obtain ⟨sp, fo, bc, lc, gc, pe, so, ta, ro, pc, ow, lw, hg, wn, nu, se, fb, sb, lb⟩ := u
  obtain ⟨ml, mm, mw, pe', so', ta', rs, pc', ow', nm, ex, f1, f2, f3⟩ := v
  obtain ⟨rfl, rfl, rfl, rfl, rfl, I⟩ := I
  unfold wpX_greatest wpY_greatest
  dsimp only
  refine sd_ask (fun lw hg wn a b c => ?_)
  dsimp only
  refine sd_svI I a b c (fun sp fo bc lc gc nu se fb sb lb hX => ?_)
  dsimp only
  refine br_c (fun z => sd_seI I (sd_w0 0 1) (fun ml mm mw nm ex f1 f2 f3 hY => ?_)) (fun z => sd_seI I (sd_w0 0 1) (fun ml mm mw nm ex f1 f2 f3 hY => ?_))
  · rcases sd_XY (sd_r0l I) hX hY with ⟨_, e, _, _, _, l⟩ | ⟨_, e, _, _, _, l, _⟩
    · exact ⟨l, sd_rel I⟩
    · exact absurd (z.symm.trans e) (by decide)
  · rcases sd_XY (sd_r0l I) hX hY with ⟨_, e, _, _, _, l⟩ | ⟨_, e, _, _, _, l, _⟩
    · exact absurd e z
    · exact ⟨l, sd_rel I⟩
theorem i_vc_first {k : Nat} {u : SX} {v : SY} (I : i_Rel k u v) (hk : k + 4 ≤ 2048) (v1 : Int32) : wpX_first (fun r u' => wpY_first (fun r' v' => r' = r ∧ i_Rel (k + 4) u' v') v v1) u v1 := by
  obtain ⟨sp, fo, bc, lc, gc, pe, so, ta, ro, pc, ow, lw, hg, wn, nu, se, fb, sb, lb⟩ := u
  obtain ⟨ml, mm, mw, pe', so', ta', rs, pc', ow', nm, ex, f1, f2, f3⟩ := v
  obtain ⟨rfl, rfl, rfl, rfl, rfl, I⟩ := I
  unfold wpX_first wpY_first
  dsimp only
  refine sd_isL (fun L => br_f (by decide) ?_) (fun L => br_t rfl (sd_seI I (sd_w0 0 1) (fun ml mm mw nm ex f1 f2 f3 hY => ?_)))
  · obtain ⟨j, hj, rfl, _⟩ := id L
    have cj : (nI j).toNatClampNeg = j := nI_clamp (by omega)
    have vj : vp_in (nI j) 7 := vp_in_nI hj (by omega)
    refine sd_ask (fun lw hg wn a b c => ?_)
    dsimp only
    refine sd_svI I a b c (fun sp fo bc lc gc nu se fb sb lb hX => ?_)
    dsimp only
    rw [cj]
    refine br_c (fun z => sd_seI I (sd_w0 0 1) (fun ml mm mw nm ex f1 f2 f3 hY => ?_)) (fun z => ⟨vj, sd_seI I (sd_w0 0 1) (fun ml mm mw nm ex f1 f2 f3 hY => ?_)⟩)
    · dsimp only
      refine sd_isY (fun _ => br_f (by decide) ?_) (fun g => absurd L g)
      rcases sd_XY (sd_r0l I) hX hY with ⟨_, e, _, m, _⟩ | ⟨_, e, _⟩
      · exact br_t (by rw [m]; decide) ⟨rfl, sd_rel I⟩
      · exact absurd (z.symm.trans e) (by decide)
    · dsimp only
      refine sd_isY (fun _ => br_f (by decide) ?_) (fun g => absurd L g)
      rcases sd_XY (sd_r0l I) hX hY with ⟨_, e, _⟩ | ⟨_, _, _, m, _, _, l⟩
      · exact absurd e z
      · exact br_f m ⟨vj, (l j hj).1, sd_rel I⟩
  · dsimp only
    exact sd_isY (fun g => absurd g L) (fun _ => br_t rfl ⟨rfl, sd_rel I⟩)
theorem i_vc_range {k : Nat} {u : SX} {v : SY} (I : i_Rel k u v) (hk : k + 4 ≤ 2048) (v1 : Int32) (v2 : Int32) : wpX_range (fun r u' => wpY_range (fun r' v' => r' = r ∧ i_Rel (k + 4) u' v') v v1 v2) u v1 v2 := by
  obtain ⟨sp, fo, bc, lc, gc, pe, so, ta, ro, pc, ow, lw, hg, wn, nu, se, fb, sb, lb⟩ := u
  obtain ⟨ml, mm, mw, pe', so', ta', rs, pc', ow', nm, ex, f1, f2, f3⟩ := v
  obtain ⟨rfl, rfl, rfl, rfl, rfl, I⟩ := I
  unfold wpX_range wpY_range
  dsimp only
  refine sd_isL (fun L => br_f (by decide) ?_) (fun L => br_t rfl (sd_seI I (sd_w0 0 1) (fun ml mm mw nm ex f1 f2 f3 hY => ?_)))
  · obtain ⟨j, hj, rfl, _⟩ := id L
    have cj : (nI j).toNatClampNeg = j := nI_clamp (by omega)
    have vj : vp_in (nI j) 7 := vp_in_nI hj (by omega)
    refine br_c (fun n0 => sd_seI I (sd_w0 0 1) (fun ml mm mw nm ex f1 f2 f3 hY => ?_)) (fun n0 => br_c (fun n1 => ?_) (fun n1 => sd_seI I (sd_w0 0 1) (fun ml mm mw nm ex f1 f2 f3 hY => ?_)))
    · dsimp only
      have e0 : ¬ v2 = 0 := fun e => by rw [e] at n0; exact absurd n0 (by decide)
      have e1 : ¬ v2 = 1 := fun e => by rw [e] at n0; exact absurd n0 (by decide)
      exact sd_isY (fun _ => br_f (by decide) (br_c (fun _ => ⟨rfl, sd_rel I⟩) (fun _ => br_f e0 (br_f e1 ⟨rfl, sd_rel I⟩)))) (fun g => absurd L g)
    · have e01 : v2 = 0 ∨ v2 = 1 := by
        obtain ⟨m, hm, rfl⟩ := nI_of2 (x := v2) (M := 1) (n := 1) (by decide) n0 n1
        have : m = 0 ∨ m = 1 := by omega
        rcases this with rfl | rfl
        · exact Or.inl nI_0
        · exact Or.inr rfl
      refine sd_ask (fun lw hg wn a b c => ?_)
      dsimp only
      refine sd_svI I a b c (fun sp fo bc lc gc nu se fb sb lb hX => ?_)
      dsimp only
      rw [cj]
      refine br_c (fun z => sd_seI I (sd_w0 0 1) (fun ml mm mw nm ex f1 f2 f3 hY => ?_)) (fun z => br_c (fun w0 => ⟨vj, sd_seI I (sd_w0 0 1) (fun ml mm mw nm ex f1 f2 f3 hY => ?_)⟩) (fun w0 => ⟨vj, sd_seI I (sd_w0 0 1) (fun ml mm mw nm ex f1 f2 f3 hY => ?_)⟩))
      · dsimp only
        refine sd_isY (fun _ => br_f (by decide) ?_) (fun g => absurd L g)
        rcases sd_XY (sd_r0l I) hX hY with ⟨_, e, _, m, _⟩ | ⟨_, e, _⟩
        · exact br_t (by rw [m]; decide) ⟨rfl, sd_rel I⟩
        · exact absurd (z.symm.trans e) (by decide)
      · dsimp only
        refine sd_isY (fun _ => br_f (by decide) ?_) (fun g => absurd L g)
        unfold wY_range_33
        rw [cj]
        rcases sd_XY (sd_r0l I) hX hY with ⟨_, e, _⟩ | ⟨_, _, _, m, _, _, l⟩
        · exact absurd e z
        · exact br_f m (br_t w0 (br_t w0 ⟨vj, (l j hj).2.1, sd_rel I⟩))
      · dsimp only
        refine sd_isY (fun _ => br_f (by decide) ?_) (fun g => absurd L g)
        unfold wY_range_33
        rw [cj]
        have w1 : v2 = 1 := e01.resolve_left w0
        rcases sd_XY (sd_r0l I) hX hY with ⟨_, e, _⟩ | ⟨_, _, _, m, _, _, l⟩
        · exact absurd e z
        · exact br_f m (br_f w0 (br_t w1 (br_f w0 ⟨vj, (l j hj).2.2, sd_rel I⟩)))
    · dsimp only
      have e0 : ¬ v2 = 0 := fun e => by rw [e] at n1; exact absurd n1 (by decide)
      have e1 : ¬ v2 = 1 := fun e => by rw [e] at n1; exact absurd n1 (by decide)
      exact sd_isY (fun _ => br_f (by decide) (br_c (fun _ => ⟨rfl, sd_rel I⟩) (fun _ => br_f e0 (br_f e1 ⟨rfl, sd_rel I⟩)))) (fun g => absurd L g)
  · dsimp only
    exact sd_isY (fun g => absurd g L) (fun _ => br_t rfl ⟨rfl, sd_rel I⟩)
theorem i_vc_unique {k : Nat} {u : SX} {v : SY} (I : i_Rel k u v) (hk : k + 4 ≤ 2048) : wpX_unique (fun r u' => wpY_unique (fun r' v' => r' = r ∧ i_Rel (k + 4) u' v') v) u := by
  obtain ⟨sp, fo, bc, lc, gc, pe, so, ta, ro, pc, ow, lw, hg, wn, nu, se, fb, sb, lb⟩ := u
  obtain ⟨ml, mm, mw, pe', so', ta', rs, pc', ow', nm, ex, f1, f2, f3⟩ := v
  obtain ⟨rfl, rfl, rfl, rfl, rfl, I⟩ := I
  unfold wpX_unique wpY_unique
  dsimp only
  refine sd_ask (fun lw hg wn a b c => ?_)
  dsimp only
  refine sd_svI I a b c (fun sp fo bc lc gc nu se fb sb lb hX => ?_)
  dsimp only
  refine br_c (fun z => sd_seI I (sd_w0 0 1) (fun ml mm mw nm ex f1 f2 f3 hY => ?_)) (fun z => sd_seI I (sd_w0 0 1) (fun ml mm mw nm ex f1 f2 f3 hY => ?_))
  · dsimp only
    rcases sd_XY (sd_r0l I) hX hY with ⟨_, _, e, m, _⟩ | ⟨_, _, e, _⟩
    · exact absurd (z.symm.trans e) (by decide)
    · exact br_t (e.symm.trans z) ⟨rfl, sd_rel I⟩
  · dsimp only
    rcases sd_XY (sd_r0l I) hX hY with ⟨_, _, e, m, _⟩ | ⟨_, _, e, _⟩
    · exact br_f (by rw [m]; decide) ⟨rfl, sd_rel I⟩
    · exact br_f (fun g => z (e.trans g)) ⟨rfl, sd_rel I⟩
end
section
/-! shifted, spare, worth -/
theorem i_vc_shifted {k : Nat} {u : SX} {v : SY} (I : i_Rel k u v) (hk : k + 4 ≤ 2048) (v1 : Int32) (v2 : Int32) : wpX_shifted (fun r u' => wpY_shifted (fun r' v' => r' = r ∧ i_Rel (k + 4) u' v') v v1 v2) u v1 v2 := by
  obtain ⟨sp, fo, bc, lc, gc, pe, so, ta, ro, pc, ow, lw, hg, wn, nu, se, fb, sb, lb⟩ := u
  obtain ⟨ml, mm, mw, pe', so', ta', rs, pc', ow', nm, ex, f1, f2, f3⟩ := v
  obtain ⟨rfl, rfl, rfl, rfl, rfl, I⟩ := I
  unfold wpX_shifted wpY_shifted
  dsimp only
  refine sd_two (fun t => br_f (by decide) ?_) (fun t => br_t rfl (br_c (fun _ => ⟨rfl, sd_rel I⟩) (fun e => sd_plY (fun p1 => br_f (by decide) (sd_plY (fun p2 => absurd ⟨p1, p2, e⟩ t) (fun _ => br_t rfl ⟨rfl, sd_rel I⟩))) (fun _ => br_t rfl ⟨rfl, sd_rel I⟩))))
  obtain ⟨⟨i, hi, rfl⟩, ⟨j, hj, rfl⟩, hne⟩ := id t
  have ci : (nI i).toNatClampNeg = i := nI_clamp (by omega)
  have cj : (nI j).toNatClampNeg = j := nI_clamp (by omega)
  have vi : vp_in (nI i) 5 := vp_in_nI hi (by omega)
  have vj : vp_in (nI j) 5 := vp_in_nI hj (by omega)
  have hij : i ≠ j := fun e => hne (by rw [e])
  refine sd_ask (fun lw hg wn a b c => ?_)
  dsimp only
  rw [ci, cj]
  refine ⟨vi, vi, nm_e ⟨vj, vj, nm_e ?_⟩⟩
  refine sd_svI (w := fun p => ow p + sd_D (nI i) (nI j) 1 p) I a b (fun p hp => sd_wD 1 hi hj hp hij (c p hp)) (fun sp fo bc lc gc nu se fb sb lb hX => ?_)
  dsimp only
  unfold wpX_leastFound
  dsimp only
  refine br_c (fun z => br_f hne (sd_plY (fun _ => br_f (by decide) (sd_plY (fun _ => br_f (by decide) (sd_seI I (fun p hp => rfl) (fun ml mm mw nm ex f1 f2 f3 hY => ?_))) (fun g => absurd t.2.1 g))) (fun g => absurd t.1 g))) (fun z => br_f hne (sd_plY (fun _ => br_f (by decide) (sd_plY (fun _ => br_f (by decide) (sd_seI I (fun p hp => rfl) (fun ml mm mw nm ex f1 f2 f3 hY => ?_))) (fun g => absurd t.2.1 g))) (fun g => absurd t.1 g)))
  · rcases sd_XY (sd_r0l I) hX hY with ⟨_, e, _, _, l, _⟩ | ⟨_, e, _, _, l, _⟩
    · exact ⟨l, sd_rel I⟩
    · exact absurd (z.symm.trans e) (by decide)
  · rcases sd_XY (sd_r0l I) hX hY with ⟨_, e, _, _, l, _⟩ | ⟨_, e, _, _, l, _⟩
    · exact absurd e z
    · exact ⟨l, sd_rel I⟩
theorem i_vc_spare {k : Nat} {u : SX} {v : SY} (I : i_Rel k u v) (hk : k + 4 ≤ 2048) (v1 : Int32) (v2 : Int32) : wpX_spare (fun r u' => wpY_spare (fun r' v' => r' = r ∧ i_Rel (k + 4) u' v') v v1 v2) u v1 v2 := by
  obtain ⟨sp, fo, bc, lc, gc, pe, so, ta, ro, pc, ow, lw, hg, wn, nu, se, fb, sb, lb⟩ := u
  obtain ⟨ml, mm, mw, pe', so', ta', rs, pc', ow', nm, ex, f1, f2, f3⟩ := v
  obtain ⟨rfl, rfl, rfl, rfl, rfl, I⟩ := I
  unfold wpX_spare wpY_spare
  dsimp only
  refine sd_two (fun t => br_f (by decide) ?_) (fun t => br_t rfl (br_c (fun _ => ⟨rfl, sd_rel I⟩) (fun e => sd_plY (fun p1 => br_f (by decide) (sd_plY (fun p2 => absurd ⟨p1, p2, e⟩ t) (fun _ => br_t rfl ⟨rfl, sd_rel I⟩))) (fun _ => br_t rfl ⟨rfl, sd_rel I⟩))))
  obtain ⟨⟨i, hi, rfl⟩, ⟨j, hj, rfl⟩, hne⟩ := id t
  have hij : i ≠ j := fun e => hne (by rw [e])
  have h4 : ∀ k, k < 7 → sd_hb ro k ≤ 4 := fun k hk => Nat.le_trans (sd_I_b I hk).2.1 (by decide)
  have hok : ∀ v, sd_bo (∀ p, p < 5 → sd_S so ta v p = ow p + sd_D (nI i) (nI j) (sd_S so ta v i - ow i) p) = true ↔ ∀ p, p < 5 → sd_S so ta v p = ow p + sd_D (nI i) (nI j) (sd_S so ta v i - ow i) p := fun v => sd_bo_i
  refine sd_ask (fun lw hg wn a b c => ?_)
  dsimp only
  refine sd_svI I a b c (fun sp fo bc lc gc nu se fb sb lb hX => ?_)
  dsimp only
  unfold wpY_possible
  refine br_c (fun z => br_f hne (sd_plY (fun _ => br_f (by decide) (sd_plY (fun _ => br_f (by decide) (sd_seI I (sd_w0 0 1) (fun ml mm mw nm ex f1 f2 f3 hY => ?_))) (fun g => absurd t.2.1 g))) (fun g => absurd t.1 g))) (fun z => ?_)
  · dsimp only
    rcases sd_XY (sd_r0l I) hX hY with ⟨_, e, _, m, _⟩ | ⟨_, e, _⟩
    · exact br_t (by rw [m]; decide) (br_t rfl ⟨rfl, sd_rel I⟩)
    · exact absurd (z.symm.trans e) (by decide)
  · refine sd_gext (lo := sd_z) (hi := sd_hb ro) (ok := fun v => sd_bo (∀ p, p < 5 → sd_S so ta v p = ow p + sd_D (nI i) (nI j) (sd_S so ta v i - ow i) p)) hi hj hij (fun k _ => Nat.zero_le _) h4 (fun k hk => a k hk) (fun k hk => (b k hk).trans (sd_I_b I hk).1) (fun k hk => (I k hk).1) (fun k hk => (I k hk).2.1) hok c (fun sp wn nu se => ?_)
    dsimp only
    refine br_f hne (sd_plY (fun _ => br_f (by decide) (sd_plY (fun _ => br_f (by decide) (sd_seI I (sd_w0 0 1) (fun ml mm mw nm ex f1 f2 f3 hY => ?_))) (fun g => absurd t.2.1 g))) (fun g => absurd t.1 g))
    dsimp only
    rcases sd_XY (sd_r0l I) hX hY with ⟨_, e, _⟩ | ⟨_, _, _, m, _⟩
    · exact absurd e z
    · refine br_f m (br_f (by decide) (sd_beg (fun nm' h => ?_)))
      dsimp only
      have h1 := sd_W_pos sd_z (sd_hb ro) 7
      exact ⟨_, sd_y39 (hi := sd_hb ro) (ok := fun v => sd_bo (∀ p, p < 5 → sd_S so ta v p = ow p + sd_D (nI i) (nI j) (sd_S so ta v i - ow i) p)) hi h4 (fun k hk => (sd_I_b I hk).2.2.1) (fun k hk => (sd_I_b I hk).2.2.2) (fun k hk => (I k hk).1) (fun k hk => (I k hk).2.1) hok (fun nm ex => ⟨rfl, sd_rel I⟩) (sd_W sd_z (sd_hb ro) 7 - 1) 0 _ _ (by omega) (fun k hk => by rw [h k hk]; rfl)⟩
/-! worth -/
theorem sd_ok_c {so ta w : Nat → Int32} {v v' : Nat → Nat} (h : ∀ k, k < 7 → v' k = v k) (g : sd_ok so ta w v = true) : sd_ok so ta w v' = true :=
  sd_ok_i.mpr (fun p hp => (sd_S_c h).trans (sd_ok_i.mp g p hp))
theorem sd_r0_up {so ta pc w : Nat → Int32} {hi hi' : Nat → Nat} (h : ∀ k, k < 7 → hi k ≤ hi' k) (g : (sd_r0 so ta pc w hi).1 ≠ 0) : (sd_r0 so ta pc w hi').1 ≠ 0 := by
  intro z
  unfold sd_r0 at g z
  rcases sd_rs_m (lo := sd_z) (hi := hi) (ok := sd_ok so ta w) (cs := sd_C pc) (sd_W sd_z hi 7) with ⟨a, _⟩ | ⟨_, ⟨s, hs, hk, _⟩, _⟩
  · exact g a
  · have hB := (sd_vt_ok (lo := sd_z) (hi := hi) (fun k _ => Nat.zero_le _) s hs).1
    obtain ⟨t, ht, e⟩ := sd_hit (lo := sd_z) (hi := hi') (v := sd_vt sd_z hi s) (fun k hk => ⟨Nat.zero_le _, Nat.le_trans (hB k hk).2 (h k hk)⟩)
    have o := sd_ok_c e hk
    rcases sd_rs_m (lo := sd_z) (hi := hi') (ok := sd_ok so ta w) (cs := sd_C pc) (sd_W sd_z hi' 7) with ⟨_, b⟩ | ⟨a, _⟩
    · rw [b t ht] at o
      cases o
    · exact a z
theorem sd_r0_ne {so ta pc w : Nat → Int32} {hi : Nat → Nat} (hc : ∀ k, k < 7 → sd_P (pc k)) (h4 : ∀ k, k < 7 → hi k ≤ 4) (g : (sd_r0 so ta pc w hi).1 ≠ 0) : (sd_r0 so ta pc w hi).2.1 ≠ -100000 := by
  unfold sd_r0 at g ⊢
  rcases sd_rs_m (lo := sd_z) (hi := hi) (ok := sd_ok so ta w) (cs := sd_C pc) (sd_W sd_z hi 7) with ⟨a, _⟩ | ⟨_, ⟨s, hs, _, e⟩, _⟩
  · exact absurd a g
  · have hB := (sd_vt_ok (lo := sd_z) (hi := hi) (fun k _ => Nat.zero_le _) s hs).1
    rw [e]
    exact sd_C_ne hc (fun k hk => Nat.le_trans (hB k hk).2 (h4 k hk))
def sd_h1 (hi : Nat → Nat) (j : Nat) : Nat → Nat := fun k => if k = j then hi k + 1 else hi k
theorem sd_h1_le (hi : Nat → Nat) (j k : Nat) : hi k ≤ sd_h1 hi j k ∧ sd_h1 hi j k ≤ hi k + 1 := by
  unfold sd_h1
  by_cases z : k = j
  · rw [if_pos z]; omega
  · rw [if_neg z]; omega
theorem sd_h1_u {hi : Nat → Nat} {f : Nat → Int32} {j : Nat} (hj : f j = nI (hi j)) {k : Nat} (hk : f k = nI (hi k)) : upd f j (f j + 1) k = nI (sd_h1 hi j k) := by
  unfold sd_h1
  by_cases z : k = j
  · rw [if_pos z, z, pk_us, hj]; exact nI_1 _
  · rw [if_neg z, pk_un z]; exact hk
theorem i_vc_worth {k : Nat} {u : SX} {v : SY} (I : i_Rel k u v) (hk : k + 4 ≤ 2048) (v1 : Int32) : wpX_worth (fun r u' => wpY_worth (fun r' v' => r' = r ∧ i_Rel (k + 4) u' v') v v1) u v1 := by
  obtain ⟨sp, fo, bc, lc, gc, pe, so, ta, ro, pc, ow, lw, hg, wn, nu, se, fb, sb, lb⟩ := u
  obtain ⟨ml, mm, mw, pe', so', ta', rs, pc', ow', nm, ex, f1, f2, f3⟩ := v
  obtain ⟨rfl, rfl, rfl, rfl, rfl, I⟩ := I
  unfold wpX_worth wpY_worth wpY_least
  dsimp only
  refine sd_isL (fun L => br_f (by decide) ?_) (fun L => br_t rfl (sd_seI I (sd_w0 0 1) (fun ml mm mw nm ex f1 f2 f3 hY => sd_isY (fun g => absurd g L) (fun _ => br_t rfl ⟨rfl, sd_rel I⟩))))
  obtain ⟨j, hj, rfl, hpj⟩ := id L
  have cj : (nI j).toNatClampNeg = j := nI_clamp (by omega)
  have vj : vp_in (nI j) 7 := vp_in_nI hj (by omega)
  have h4 : ∀ k, k < 7 → sd_h1 (sd_hb ro) j k ≤ 4 := fun k hk => Nat.le_trans (sd_h1_le _ _ _).2 (Nat.succ_le_succ (sd_I_b I hk).2.1)
  have hs : ∀ k, k < 7 → vp_in (so k) 5 := fun k hk => (I k hk).1
  have ht : ∀ k, k < 7 → vp_in (ta k) 5 := fun k hk => (I k hk).2.1
  have hc : ∀ k, k < 7 → sd_P (pc k) := fun k hk => (I k hk).2.2.1
  refine sd_ask (fun lw hg wn a b c => ?_)
  dsimp only
  refine sd_svI I a b c (fun sp fo bc lc gc nu se fb sb lb hX => ?_)
  dsimp only
  rw [cj]
  refine br_c (fun z => sd_seI I (sd_w0 0 1) (fun ml mm mw nm ex f1 f2 f3 hY => ?_)) (fun z => ⟨vj, vj, nm_e ?_⟩)
  · dsimp only
    refine sd_isY (fun _ => br_f (by decide) ?_) (fun g => absurd L g)
    rcases sd_XY (sd_r0l I) hX hY with ⟨_, e, _, _, l, _⟩ | ⟨_, e, _⟩
    · exact br_t l ⟨rfl, sd_rel I⟩
    · exact absurd (z.symm.trans e) (by decide)
  · have hb : ∀ k, k < 7 → hg k = nI (sd_hb ro k) := fun k hk => (b k hk).trans (sd_I_b I hk).1
    refine sd_svG (hi := sd_h1 (sd_hb ro) j) h4 hs ht a (fun k hk => sd_h1_u (hb j hj) (hb k hk)) c (fun sp fo' bc' lc' gc' nu se fb' sb' lb' hX' => ?_)
    dsimp only
    refine sd_seI I (sd_w0 0 1) (fun ml mm mw nm ex f1 f2 f3 hY => ?_)
    dsimp only
    refine sd_isY (fun _ => br_f (by decide) ?_) (fun g => absurd L g)
    rcases sd_XY (sd_r0l I) hX hY with ⟨_, e, _⟩ | ⟨r1, _, _, _, l, _⟩
    · exact absurd e z
    · have lne : ¬ ml = -100000 := by
        rcases hY with ⟨q, _⟩ | ⟨q, _, q2, _⟩
        · exact absurd q r1
        · rw [q2]
          exact sd_r0_ne hc (fun k hk => Nat.le_trans (sd_I_b I hk).2.1 (by decide)) q
      have r1' := sd_r0_up (fun k _ => (sd_h1_le (sd_hb ro) j k).1) r1
      refine br_f lne ⟨vj, vj, nm_e ?_⟩
      have hrs : rs j = nI (sd_hb ro j) := (sd_I_b I hj).2.2.2 hpj
      refine sd_seG (hi := sd_h1 (sd_hb ro) j) h4 (fun k hk zk => ?_) (fun k hk nk => sd_h1_u hrs ((sd_I_b I hk).2.2.2 nk)) hs ht hc (sd_w0 0 1) (fun ml' mm' mw' nm ex f1' f2' f3' hY' => ?_)
      · unfold sd_h1
        rw [if_neg (fun e => hpj (by rw [← e]; exact zk))]
        exact (sd_I_b I hk).2.2.1 zk
      · dsimp only
        refine ⟨vj, vj, nm_e ⟨?_, sd_rel ?_⟩⟩
        · rcases sd_XY (sd_rl h4) hX' hY' with ⟨q, _⟩ | ⟨_, _, _, _, l', _⟩
          · exact absurd q r1'
          · rw [l, l']
        · refine sd_I_set (j := j) I (fun n hn => ⟨rfl, rfl, rfl, rfl, rfl, by rw [pk_un hn, pk_un hn]⟩) ?_
          obtain ⟨b1, b2, b3, r, hr, b4, b5⟩ := I j hj
          exact ⟨b1, b2, b3, r, hr, by rw [pk_us, pk_us, Int32.add_sub_cancel]; exact b4, b5⟩
end
section
/-! leastWith -/
noncomputable def sd_okw (so ta w : Nat → Int32) (j : Nat) (n : Int32) (v : Nat → Nat) : Bool := sd_bo ((∀ p, p < 5 → sd_S so ta v p = w p) ∧ nI (v j) = n)
noncomputable def sd_rw (so ta pc w : Nat → Int32) (hi : Nat → Nat) (j : Nat) (n : Int32) : sd_R := sd_rs sd_z hi (sd_okw so ta w j n) (sd_C pc) (sd_W sd_z hi 7)
theorem sd_seW {ml mm mw : Int32} {pe so ta rs pc ow nm ex f1 f2 f3 : Nat → Int32} {post : SY → Prop} {ro : Nat → Int32} {j : Nat} {n : Int32} (I : sd_I pe so ta pc ro rs) (hj : j < 7) (H : ∀ (ml mm mw : Int32) (nm ex f1 f2 f3 : Nat → Int32), sd_YF (sd_rw so ta pc ow (sd_hb ro) j n) ml mm mw f1 f2 f3 → post (ml, mm, mw, pe, so, ta, rs, pc, ow, nm, ex, f1, f2, f3)) : wpY_search post (ml, mm, mw, pe, so, ta, rs, pc, ow, nm, ex, f1, f2, f3) 0 1 0 (nI j) n := by
  have cj : (nI j).toNatClampNeg = j := nI_clamp (by omega)
  refine sd_search (ok := sd_okw so ta ow j n) (fun k hk => Nat.le_trans (sd_I_b I hk).2.1 (by decide)) (fun k hk => (sd_I_b I hk).2.2.1) (fun k hk => (sd_I_b I hk).2.2.2) (fun k hk => (I k hk).1) (fun k hk => (I k hk).2.1) (fun k hk => (I k hk).2.2.1) (Or.inr ⟨j, hj, rfl⟩) (fun v => ?_) H
  unfold sd_okw
  rw [sd_bo_i, cj]
  constructor
  · exact fun g => ⟨fun p hp => (g.1 p hp).trans (sd_w0 0 1 p hp), Or.inr g.2⟩
  · exact fun g => ⟨fun p hp => (g.1 p hp).trans (sd_w0 0 1 p hp).symm, g.2.resolve_left (nI_pos (by omega))⟩
theorem sd_rw_0 {so ta pc w : Nat → Int32} {hi : Nat → Nat} {j : Nat} {n : Int32} (hj : j < 7) (h : ∀ m, m ≤ hi j → ¬ nI m = n) : (sd_rw so ta pc w hi j n).1 = 0 := by
  unfold sd_rw
  rcases sd_rs_m (lo := sd_z) (hi := hi) (ok := sd_okw so ta w j n) (cs := sd_C pc) (sd_W sd_z hi 7) with ⟨a, _⟩ | ⟨_, ⟨s, hs, hk, _⟩, _⟩
  · exact a
  · have hB := (sd_vt_ok (lo := sd_z) (hi := hi) (fun k _ => Nat.zero_le _) s hs).1
    exact absurd (sd_bo_i.mp hk).2 (h _ (hB j hj).2)
def sd_at (f : Nat → Nat) (j m : Nat) : Nat → Nat := fun k => if k = j then m else f k
theorem sd_at_s (f : Nat → Nat) (j m : Nat) : sd_at f j m j = m := if_pos rfl
theorem sd_at_n {f : Nat → Nat} {j m k : Nat} (h : k ≠ j) : sd_at f j m k = f k := if_neg h
theorem sd_rw_same {so ta pc w : Nat → Int32} {hi : Nat → Nat} {j m : Nat} (hj : j < 7) (h4 : ∀ k, k < 7 → hi k ≤ 4) (hm : m ≤ hi j) : ((sd_rs (sd_at sd_z j m) (sd_at hi j m) (sd_ok so ta w) (sd_C pc) (sd_W (sd_at sd_z j m) (sd_at hi j m) 7)).1 = 0 ∧ (sd_rw so ta pc w hi j (nI m)).1 = 0) ∨ ((sd_rs (sd_at sd_z j m) (sd_at hi j m) (sd_ok so ta w) (sd_C pc) (sd_W (sd_at sd_z j m) (sd_at hi j m) 7)).1 ≠ 0 ∧ (sd_rw so ta pc w hi j (nI m)).1 ≠ 0 ∧ (sd_rs (sd_at sd_z j m) (sd_at hi j m) (sd_ok so ta w) (sd_C pc) (sd_W (sd_at sd_z j m) (sd_at hi j m) 7)).2.1 = (sd_rw so ta pc w hi j (nI m)).2.1) := by
  have hl : ∀ k, k < 7 → sd_at sd_z j m k ≤ sd_at hi j m k := fun k _ => by
    by_cases z : k = j
    · rw [z, sd_at_s, sd_at_s]; exact Nat.le_refl _
    · rw [sd_at_n z]; exact Nat.zero_le _
  refine sd_rs_same (fun s hs hk => ?_) (fun s hs hk => ?_)
  · have hB := (sd_vt_ok hl s hs).1
    have bj := hB j hj
    rw [sd_at_s, sd_at_s] at bj
    obtain ⟨t, ht, e⟩ := sd_hit (lo := sd_z) (hi := hi) (v := sd_vt (sd_at sd_z j m) (sd_at hi j m) s) (fun k hk7 => ⟨Nat.zero_le _, by
      by_cases z : k = j
      · rw [z]; omega
      · have := (hB k hk7).2
        rw [sd_at_n z] at this
        exact this⟩)
    refine ⟨t, ht, sd_bo_i.mpr ⟨fun p hp => (sd_S_c e).trans (sd_ok_i.mp hk p hp), ?_⟩, sd_C_c e⟩
    rw [e j hj]
    exact congrArg nI (by omega)
  · have hB := (sd_vt_ok (lo := sd_z) (hi := hi) (fun k _ => Nat.zero_le _) s hs).1
    obtain ⟨g1, g2⟩ := sd_bo_i.mp hk
    have bj := hB j hj
    have b4 := h4 j hj
    have vm : sd_vt sd_z hi s j = m := (nI_eq (by omega) (by omega)).mp g2
    obtain ⟨t, ht, e⟩ := sd_hit (lo := sd_at sd_z j m) (hi := sd_at hi j m) (v := sd_vt sd_z hi s) (fun k hk7 => by
      by_cases z : k = j
      · rw [z, sd_at_s, sd_at_s, vm]; exact ⟨Nat.le_refl _, Nat.le_refl _⟩
      · rw [sd_at_n z, sd_at_n z]; exact hB k hk7)
    exact ⟨t, ht, sd_ok_i.mpr (fun p hp => (sd_S_c e).trans (g1 p hp)), sd_C_c e⟩
theorem sd_at_u {f : Nat → Nat} {g : Nat → Int32} {j m k : Nat} (h : g k = nI (f k)) : upd g j (nI m) k = nI (sd_at f j m k) := by
  by_cases z : k = j
  · rw [z, pk_us, sd_at_s]
  · rw [pk_un z, sd_at_n z]; exact h
theorem i_vc_leastWith {k : Nat} {u : SX} {v : SY} (I : i_Rel k u v) (hk : k + 4 ≤ 2048) (v1 : Int32) (v2 : Int32) : wpX_leastWith (fun r u' => wpY_leastWith (fun r' v' => r' = r ∧ i_Rel (k + 4) u' v') v v1 v2) u v1 v2 := by
  obtain ⟨sp, fo, bc, lc, gc, pe, so, ta, ro, pc, ow, lw, hg, wn, nu, se, fb, sb, lb⟩ := u
  obtain ⟨ml, mm, mw, pe', so', ta', rs, pc', ow', nm, ex, f1, f2, f3⟩ := v
  obtain ⟨rfl, rfl, rfl, rfl, rfl, I⟩ := I
  unfold wpX_leastWith wpY_leastWith
  dsimp only
  refine sd_isL (fun L => br_f (by decide) ?_) (fun L => br_t rfl (sd_isY (fun g => absurd g L) (fun _ => br_t rfl ⟨rfl, sd_rel I⟩)))
  obtain ⟨j, hj, rfl, hpj⟩ := id L
  have cj : (nI j).toNatClampNeg = j := nI_clamp (by omega)
  have vj : vp_in (nI j) 7 := vp_in_nI hj (by omega)
  have hrj := (sd_I_b I hj).1
  have hr3 := (sd_I_b I hj).2.1
  have h4 : ∀ k, k < 7 → sd_hb ro k ≤ 4 := fun k hk => Nat.le_trans (sd_I_b I hk).2.1 (by decide)
  rw [cj]
  refine br_c (fun n0 => sd_isY (fun _ => br_f (by decide) (sd_seW I hj (fun ml mm mw nm ex f1 f2 f3 hY => ?_))) (fun g => absurd L g)) (fun n0 => ⟨vj, br_c (fun n1 => ?_) (fun n1 => sd_isY (fun _ => br_f (by decide) (sd_seW I hj (fun ml mm mw nm ex f1 f2 f3 hY => ?_))) (fun g => absurd L g))⟩)
  · have q := sd_rw_0 (so := so) (ta := ta) (pc := pc) (w := ow) (hi := sd_hb ro) (n := v2) hj (fun m hm e => by rw [← e] at n0; exact nI_pos (by omega) n0)
    rcases hY with ⟨_, _, l, _⟩ | ⟨y, _⟩
    · exact ⟨l, sd_rel I⟩
    · exact absurd q y
  · obtain ⟨m, hm, rfl⟩ := nI_of n0
    rw [hrj, nI_leI hm (by omega)] at n1
    refine sd_ask (fun lw hg wn a b c => ?_)
    dsimp only
    refine ⟨vj, nm_e ⟨vj, nm_e ?_⟩⟩
    refine sd_survey (lo := sd_at sd_z j m) (hi := sd_at (sd_hb ro) j m) (ok := sd_ok so ta ow) (fun k _ => ?_) (fun k hk7 => ?_) (fun k hk7 => sd_at_u (f := sd_z) (a k hk7)) (fun k hk7 => sd_at_u ((b k hk7).trans (sd_I_b I hk7).1)) (fun k hk7 => (I k hk7).1) (fun k hk7 => (I k hk7).2.1) (fun v => ?_) (fun sp fo bc lc gc nu se fb sb lb hX => ?_)
    · by_cases z : k = j
      · rw [z, sd_at_s, sd_at_s]; exact Nat.le_refl _
      · rw [sd_at_n z]; exact Nat.zero_le _
    · by_cases z : k = j
      · rw [z, sd_at_s]; omega
      · rw [sd_at_n z]; exact h4 k hk7
    · rw [sd_ok_i]
      exact ⟨fun g p hp => (g p hp).trans (c p hp).symm, fun g p hp => (g p hp).trans (c p hp)⟩
    · dsimp only
      unfold wpX_leastFound
      dsimp only
      refine br_c (fun z => sd_isY (fun _ => br_f (by decide) (sd_seW I hj (fun ml mm mw nm ex f1 f2 f3 hY => ⟨?_, sd_rel I⟩))) (fun g => absurd L g)) (fun z => sd_isY (fun _ => br_f (by decide) (sd_seW I hj (fun ml mm mw nm ex f1 f2 f3 hY => ⟨?_, sd_rel I⟩))) (fun g => absurd L g))
      · rcases sd_rw_same (so := so) (ta := ta) (pc := pc) (w := ow) hj h4 n1 with ⟨x, y⟩ | ⟨x, y, _⟩
        · rcases hY with ⟨_, _, l, _⟩ | ⟨y', _⟩
          · exact l
          · exact absurd y y'
        · rcases hX with ⟨x', _⟩ | ⟨_, e, _⟩
          · exact absurd x' x
          · exact absurd (z.symm.trans e) (by decide)
      · rcases sd_rw_same (so := so) (ta := ta) (pc := pc) (w := ow) hj h4 n1 with ⟨x, y⟩ | ⟨x, y, q⟩
        · rcases hX with ⟨_, e, _⟩ | ⟨x', _⟩
          · exact absurd e z
          · exact absurd x x'
        · rcases hX with ⟨x', _⟩ | ⟨_, _, _, l, _⟩
          · exact absurd x' x
          · rcases hY with ⟨y', _⟩ | ⟨_, _, l', _⟩
            · exact absurd y' y
            · exact l'.trans (q.symm.trans l.symm)
  · have q := sd_rw_0 (so := so) (ta := ta) (pc := pc) (w := ow) (hi := sd_hb ro) (n := v2) hj (fun m hm e => by
      rw [← e, hrj] at n1
      exact n1 (nI_le hm (by omega)))
    rcases hY with ⟨_, _, l, _⟩ | ⟨y, _⟩
    · exact ⟨l, sd_rel I⟩
    · exact absurd q y
end
