/-! what a survey finds: (ways, least, most, firsts, lows, highs) after t trials -/
abbrev sd_R : Type := Nat × Int32 × Int32 × (Nat → Int32) × (Nat → Int32) × (Nat → Int32)
noncomputable def sd_nt (c : Int32) (n : Nat → Int32) (r : sd_R) : sd_R :=
  if r.1 = 0 then (1, c, c, n, n, n)
  else if r.2.1 ≤ c then
    (if c = r.2.1 then (r.1 + 1, r.2.1, (if c ≤ r.2.2.1 then r.2.2.1 else c), r.2.2.2.1, (fun k => if r.2.2.2.2.1 k ≤ n k then r.2.2.2.2.1 k else n k), (fun k => if n k ≤ r.2.2.2.2.2 k then r.2.2.2.2.2 k else n k))
    else (r.1, r.2.1, (if c ≤ r.2.2.1 then r.2.2.1 else c), r.2.2.2.1, r.2.2.2.2.1, r.2.2.2.2.2))
  else (1, c, (if c ≤ r.2.2.1 then r.2.2.1 else c), n, n, n)
noncomputable def sd_rs (lo hi : Nat → Nat) (ok : (Nat → Nat) → Bool) (cs : (Nat → Nat) → Int32) : Nat → sd_R
  | 0 => (0, 0, 0, (fun _ => 0), (fun _ => 0), (fun _ => 0))
  | t + 1 => if ok (sd_vt lo hi t) = true then sd_nt (cs (sd_vt lo hi t)) (fun k => nI (sd_vt lo hi t k)) (sd_rs lo hi ok cs t) else sd_rs lo hi ok cs t
theorem sd_nt_0 {c : Int32} {n : Nat → Int32} {r : sd_R} (h : r.1 = 0) : sd_nt c n r = (1, c, c, n, n, n) := by
  unfold sd_nt; rw [if_pos h]
theorem sd_nt_l {c : Int32} {n : Nat → Int32} {r : sd_R} (h : ¬ r.1 = 0) (hc : ¬ r.2.1 ≤ c) : sd_nt c n r = (1, c, (if c ≤ r.2.2.1 then r.2.2.1 else c), n, n, n) := by
  unfold sd_nt; rw [if_neg h, if_neg hc]
theorem sd_nt_e {c : Int32} {n : Nat → Int32} {r : sd_R} (h : ¬ r.1 = 0) (hc : r.2.1 ≤ c) (he : c = r.2.1) : sd_nt c n r = (r.1 + 1, r.2.1, (if c ≤ r.2.2.1 then r.2.2.1 else c), r.2.2.2.1, (fun k => if r.2.2.2.2.1 k ≤ n k then r.2.2.2.2.1 k else n k), (fun k => if n k ≤ r.2.2.2.2.2 k then r.2.2.2.2.2 k else n k)) := by
  unfold sd_nt; rw [if_neg h, if_pos hc, if_pos he]
theorem sd_nt_g {c : Int32} {n : Nat → Int32} {r : sd_R} (h : ¬ r.1 = 0) (hc : r.2.1 ≤ c) (he : ¬ c = r.2.1) : sd_nt c n r = (r.1, r.2.1, (if c ≤ r.2.2.1 then r.2.2.1 else c), r.2.2.2.1, r.2.2.2.2.1, r.2.2.2.2.2) := by
  unfold sd_nt; rw [if_neg h, if_pos hc, if_neg he]
theorem sd_nt_w (c : Int32) (n : Nat → Int32) (r : sd_R) : (sd_nt c n r).1 ≤ r.1 + 1 ∧ (sd_nt c n r).1 ≠ 0 := by
  by_cases h : r.1 = 0
  · rw [sd_nt_0 h]; exact ⟨by dsimp only; omega, Nat.one_ne_zero⟩
  · by_cases hc : r.2.1 ≤ c
    · by_cases he : c = r.2.1
      · rw [sd_nt_e h hc he]; exact ⟨Nat.le_refl _, Nat.succ_ne_zero _⟩
      · rw [sd_nt_g h hc he]; exact ⟨Nat.le_succ _, h⟩
    · rw [sd_nt_l h hc]; exact ⟨by dsimp only; omega, Nat.one_ne_zero⟩
theorem sd_nt_m (c : Int32) (n : Nat → Int32) (r : sd_R) : (sd_nt c n r).2.1 = c ∧ (r.1 = 0 ∨ c ≤ r.2.1) ∨ (sd_nt c n r).2.1 = r.2.1 ∧ r.1 ≠ 0 ∧ r.2.1 ≤ c := by
  by_cases h : r.1 = 0
  · rw [sd_nt_0 h]; exact Or.inl ⟨rfl, Or.inl h⟩
  · by_cases hc : r.2.1 ≤ c
    · by_cases he : c = r.2.1
      · rw [sd_nt_e h hc he]; exact Or.inr ⟨rfl, h, hc⟩
      · rw [sd_nt_g h hc he]; exact Or.inr ⟨rfl, h, hc⟩
    · rw [sd_nt_l h hc]; exact Or.inl ⟨rfl, Or.inr (Int32.le_of_lt (Int32.not_le.mp hc))⟩
section
variable {lo hi : Nat → Nat} {ok : (Nat → Nat) → Bool} {cs : (Nat → Nat) → Int32}
theorem sd_rs_y {t : Nat} (h : ok (sd_vt lo hi t) = true) : sd_rs lo hi ok cs (t + 1) = sd_nt (cs (sd_vt lo hi t)) (fun k => nI (sd_vt lo hi t k)) (sd_rs lo hi ok cs t) := by
  show (if ok (sd_vt lo hi t) = true then _ else _) = _
  rw [if_pos h]
theorem sd_rs_n {t : Nat} (h : ok (sd_vt lo hi t) = false) : sd_rs lo hi ok cs (t + 1) = sd_rs lo hi ok cs t := by
  show (if ok (sd_vt lo hi t) = true then _ else _) = _
  rw [if_neg (by rw [h]; decide)]
theorem sd_rs_w : ∀ t, (sd_rs lo hi ok cs t).1 ≤ t := by
  intro t
  induction t with
  | zero => exact Nat.le_refl 0
  | succ t ih =>
    cases h : ok (sd_vt lo hi t) with
    | false => rw [sd_rs_n h]; omega
    | true =>
      rw [sd_rs_y h]
      have := (sd_nt_w (cs (sd_vt lo hi t)) (fun k => nI (sd_vt lo hi t k)) (sd_rs lo hi ok cs t)).1
      omega
theorem sd_rs_m : ∀ t, ((sd_rs lo hi ok cs t).1 = 0 ∧ ∀ s, s < t → ok (sd_vt lo hi s) = false) ∨ ((sd_rs lo hi ok cs t).1 ≠ 0 ∧ (∃ s, s < t ∧ ok (sd_vt lo hi s) = true ∧ (sd_rs lo hi ok cs t).2.1 = cs (sd_vt lo hi s)) ∧ ∀ s, s < t → ok (sd_vt lo hi s) = true → (sd_rs lo hi ok cs t).2.1 ≤ cs (sd_vt lo hi s)) := by
  intro t
  induction t with
  | zero => exact Or.inl ⟨rfl, fun s h => absurd h (Nat.not_lt_zero s)⟩
  | succ t ih =>
    cases h : ok (sd_vt lo hi t) with
    | false =>
      rw [sd_rs_n h]
      rcases ih with ⟨a, b⟩ | ⟨a, ⟨s, hs, hk, he⟩, c⟩
      · refine Or.inl ⟨a, fun s hs => ?_⟩
        by_cases z : s = t
        · rw [z]; exact h
        · exact b s (by omega)
      · refine Or.inr ⟨a, ⟨s, by omega, hk, he⟩, fun s' hs' hk' => ?_⟩
        by_cases z : s' = t
        · rw [z, h] at hk'; cases hk'
        · exact c s' (by omega) hk'
    | true =>
      rw [sd_rs_y h]
      refine Or.inr ⟨(sd_nt_w _ _ _).2, ?_⟩
      rcases sd_nt_m (cs (sd_vt lo hi t)) (fun k => nI (sd_vt lo hi t k)) (sd_rs lo hi ok cs t) with ⟨e, g⟩ | ⟨e, g, l⟩
      · refine ⟨⟨t, by omega, h, e⟩, fun s hs hk => ?_⟩
        rw [e]
        by_cases z : s = t
        · rw [z]; exact Int32.le_refl _
        · rcases ih with ⟨a, b⟩ | ⟨a, _, c⟩
          · have := b s (by omega)
            rw [this] at hk; cases hk
          · rcases g with g | g
            · exact absurd g a
            · exact Int32.le_trans g (c s (by omega) hk)
      · rcases ih with ⟨a, _⟩ | ⟨_, ⟨s, hs, hk, he⟩, c⟩
        · exact absurd a g
        · refine ⟨⟨s, by omega, hk, by rw [e]; exact he⟩, fun s' hs' hk' => ?_⟩
          rw [e]
          by_cases z : s' = t
          · rw [z]; exact l
          · exact c s' (by omega) hk'
end
theorem sd_rs_same {lo hi lo' hi' : Nat → Nat} {ok ok' : (Nat → Nat) → Bool} {cs cs' : (Nat → Nat) → Int32} {T T' : Nat}
    (f : ∀ s, s < T → ok (sd_vt lo hi s) = true → ∃ s', s' < T' ∧ ok' (sd_vt lo' hi' s') = true ∧ cs' (sd_vt lo' hi' s') = cs (sd_vt lo hi s))
    (g : ∀ s, s < T' → ok' (sd_vt lo' hi' s) = true → ∃ s', s' < T ∧ ok (sd_vt lo hi s') = true ∧ cs (sd_vt lo hi s') = cs' (sd_vt lo' hi' s)) :
    ((sd_rs lo hi ok cs T).1 = 0 ∧ (sd_rs lo' hi' ok' cs' T').1 = 0) ∨ ((sd_rs lo hi ok cs T).1 ≠ 0 ∧ (sd_rs lo' hi' ok' cs' T').1 ≠ 0 ∧ (sd_rs lo hi ok cs T).2.1 = (sd_rs lo' hi' ok' cs' T').2.1) := by
  rcases sd_rs_m (lo := lo) (hi := hi) (ok := ok) (cs := cs) T with ⟨a, b⟩ | ⟨a, ⟨s, hs, hk, he⟩, c⟩
  · rcases sd_rs_m (lo := lo') (hi := hi') (ok := ok') (cs := cs') T' with ⟨a', b'⟩ | ⟨a', ⟨s', hs', hk', he'⟩, c'⟩
    · exact Or.inl ⟨a, a'⟩
    · obtain ⟨q, hq, hqk, _⟩ := g s' hs' hk'
      rw [b q hq] at hqk; cases hqk
  · rcases sd_rs_m (lo := lo') (hi := hi') (ok := ok') (cs := cs') T' with ⟨a', b'⟩ | ⟨a', ⟨s', hs', hk', he'⟩, c'⟩
    · obtain ⟨q, hq, hqk, _⟩ := f s hs hk
      rw [b' q hq] at hqk; cases hqk
    · refine Or.inr ⟨a, a', Int32.le_antisymm ?_ ?_⟩
      · obtain ⟨q, hq, hqk, e⟩ := g s' hs' hk'
        rw [he', ← e]; exact c q hq hqk
      · obtain ⟨q, hq, hqk, e⟩ := f s hs hk
        rw [he, ← e]; exact c' q hq hqk
/-! sums over the lines, in Int32 -/
def sd_sum (f : Nat → Int32) : Nat → Int32
  | 0 => 0
  | n + 1 => sd_sum f n + f n
theorem sd_sum_c {f g : Nat → Int32} : ∀ n, (∀ j, j < n → f j = g j) → sd_sum f n = sd_sum g n := by
  intro n
  induction n with
  | zero => intro _; rfl
  | succ n ih =>
    intro h
    simp only [sd_sum]
    rw [ih (fun j hj => h j (by omega)), h n (by omega)]
theorem sd_sum_1 {f g : Nat → Int32} {k : Nat} : ∀ n, k < n → (∀ j, j < n → j ≠ k → g j = f j) → sd_sum g n = sd_sum f n + (g k - f k) := by
  intro n
  induction n with
  | zero => intro h; exact absurd h (Nat.not_lt_zero k)
  | succ n ih =>
    intro hk h
    simp only [sd_sum]
    by_cases z : k = n
    · subst z
      rw [sd_sum_c (f := g) (g := f) k (fun j hj => h j (by omega) (by omega))]
      grind
    · rw [ih (by omega) (fun j hj hn => h j (by omega) hn), h n (by omega) (fun e => z e.symm)]
      grind
def sd_S (src tgt : Nat → Int32) (v : Nat → Nat) (p : Nat) : Int32 := sd_sum (fun k => (if (src k).toNatClampNeg = p then nI (v k) else 0) - (if (tgt k).toNatClampNeg = p then nI (v k) else 0)) 7
def sd_C (pr : Nat → Int32) (v : Nat → Nat) : Int32 := sd_sum (fun k => nI (v k) * pr k) 7
theorem sd_S_c {src tgt : Nat → Int32} {v w : Nat → Nat} {p : Nat} (h : ∀ k, k < 7 → v k = w k) : sd_S src tgt v p = sd_S src tgt w p := by
  unfold sd_S
  exact sd_sum_c 7 (fun j hj => by rw [h j hj])
theorem sd_C_c {pr : Nat → Int32} {v w : Nat → Nat} (h : ∀ k, k < 7 → v k = w k) : sd_C pr v = sd_C pr w := by
  unfold sd_C
  exact sd_sum_c 7 (fun j hj => by rw [h j hj])
theorem sd_S_1 {src tgt : Nat → Int32} {v w : Nat → Nat} {k p : Nat} (hk : k < 7) (h : ∀ j, j < 7 → j ≠ k → w j = v j) : sd_S src tgt w p = sd_S src tgt v p + (if (src k).toNatClampNeg = p then nI (w k) - nI (v k) else 0) - (if (tgt k).toNatClampNeg = p then nI (w k) - nI (v k) else 0) := by
  unfold sd_S
  rw [sd_sum_1 (f := fun k => (if (src k).toNatClampNeg = p then nI (v k) else 0) - (if (tgt k).toNatClampNeg = p then nI (v k) else 0)) 7 hk (fun j hj hn => by rw [h j hj hn])]
  by_cases a : (src k).toNatClampNeg = p
  · by_cases b : (tgt k).toNatClampNeg = p
    · simp only [a, b, if_true]; grind
    · simp only [a, b, if_true, if_false]; grind
  · by_cases b : (tgt k).toNatClampNeg = p
    · simp only [a, b, if_true, if_false]; grind
    · simp only [a, b, if_false]; grind
theorem sd_C_1 {pr : Nat → Int32} {v w : Nat → Nat} {k : Nat} (hk : k < 7) (h : ∀ j, j < 7 → j ≠ k → w j = v j) : sd_C pr w = sd_C pr v + (nI (w k) - nI (v k)) * pr k := by
  unfold sd_C
  rw [sd_sum_1 (f := fun k => nI (v k) * pr k) 7 hk (fun j hj hn => by rw [h j hj hn])]
  grind
/-- a price: -9 .. 9 -/
def sd_P (x : Int32) : Prop := ∃ z : Int, -9 ≤ z ∧ z ≤ 9 ∧ x = Int32.ofInt z
theorem sd_C_z {pr : Nat → Int32} {v : Nat → Nat} (hp : ∀ k, k < 7 → sd_P (pr k)) (hv : ∀ k, k < 7 → v k ≤ 4) : ∀ n : Nat, n ≤ 7 → ∃ z : Int, -36 * (n : Int) ≤ z ∧ z ≤ 36 * (n : Int) ∧ sd_sum (fun k => nI (v k) * pr k) n = Int32.ofInt z := by
  intro n
  induction n with
  | zero => intro _; exact ⟨0, by omega, by omega, rfl⟩
  | succ n ih =>
    intro hn
    obtain ⟨z, h1, h2, e⟩ := ih (by omega)
    obtain ⟨y, h3, h4, ey⟩ := hp n (by omega)
    have hv' := hv n (by omega)
    refine ⟨z + (v n : Int) * y, ?_, ?_, ?_⟩
    · have : v n = 0 ∨ v n = 1 ∨ v n = 2 ∨ v n = 3 ∨ v n = 4 := by omega
      rcases this with q | q | q | q | q <;> rw [q] <;> omega
    · have : v n = 0 ∨ v n = 1 ∨ v n = 2 ∨ v n = 3 ∨ v n = 4 := by omega
      rcases this with q | q | q | q | q <;> rw [q] <;> omega
    · simp only [sd_sum]
      rw [e, ey, Int32.ofInt_add, Int32.ofInt_mul, Int32.ofInt_eq_ofNat]
      rfl
theorem sd_C_ne {pr : Nat → Int32} {v : Nat → Nat} (hp : ∀ k, k < 7 → sd_P (pr k)) (hv : ∀ k, k < 7 → v k ≤ 4) : sd_C pr v ≠ -100000 := by
  obtain ⟨z, h1, h2, e⟩ := sd_C_z hp hv 7 (Nat.le_refl 7)
  intro h
  unfold sd_C at h
  rw [e] at h
  have t := congrArg Int32.toInt h
  rw [Int32.toInt_ofInt_of_le (by omega) (by omega)] at t
  have m : (-100000 : Int32).toInt = -100000 := by decide
  omega
