/-! Y: its small methods, each with a general post -/
theorem sd_beg2 {ml mm mw : Int32} {pe so ta rs pc ow ex f1 f2 f3 : Nat → Int32} {post : SY → Prop} : ∀ (d j : Nat) (nm : Nat → Int32), j + d = 7 → (∀ k, k < j → nm k = 0) → (∀ nm' : Nat → Int32, (∀ k, k < 7 → nm' k = 0) → post (-100000, -100000, 0, pe, so, ta, rs, pc, ow, nm', ex, f1, f2, f3)) → wY_begin_2 post ml mm mw (d + 1) (nI j) pe so ta rs pc ow nm ex f1 f2 f3 := by
  intro d
  induction d with
  | zero =>
    intro j nm hj h H
    obtain rfl : j = 7 := by omega
    exact br_t sd_7y (H nm h)
  | succ d ih =>
    intro j nm hj h H
    have hi : vp_in (nI j) 7 := vp_in_nI (by omega) (by omega)
    have cj : (nI j).toNatClampNeg = j := nI_clamp (by omega)
    refine br_f (sd_7n (by omega)) ⟨hi, nm_e (nm_r (nI_1 j) ?_)⟩
    rw [cj]
    exact ih (j + 1) _ (by omega) (lt_s (fun p hp => by rw [pk_un (by omega)]; exact h p hp) pk_us) H
theorem sd_beg {ml mm mw : Int32} {pe so ta rs pc ow nm ex f1 f2 f3 : Nat → Int32} {post : SY → Prop} (H : ∀ nm' : Nat → Int32, (∀ k, k < 7 → nm' k = 0) → post (-100000, -100000, 0, pe, so, ta, rs, pc, ow, nm', ex, f1, f2, f3)) : wpY_begin post (ml, mm, mw, pe, so, ta, rs, pc, ow, nm, ex, f1, f2, f3) :=
  ⟨8, sd_beg2 7 0 nm rfl lt_0 H⟩
def sd_z : Nat → Nat := fun _ => 0
theorem sd_adv3 {ml mm mw : Int32} {pe so ta rs pc ow ex f1 f2 f3 : Nat → Int32} {post : Int32 → SY → Prop} {hi v : Nat → Nat} (hB : sd_B sd_z hi v) (h4 : ∀ k, k < 7 → hi k ≤ 4) (hp : ∀ k, k < 7 → pe k = 0 → hi k = 0) (hq : ∀ k, k < 7 → ¬ pe k = 0 → rs k = nI (hi k)) (H1 : ∀ nm' : Nat → Int32, (¬ ∀ j, j < 7 → v j = hi j) → (∀ k, k < 7 → nm' k = nI (sd_nx sd_z hi v k)) → post 1 (ml, mm, mw, pe, so, ta, rs, pc, ow, nm', ex, f1, f2, f3)) (H0 : ∀ nm' : Nat → Int32, (∀ j, j < 7 → v j = hi j) → post 0 (ml, mm, mw, pe, so, ta, rs, pc, ow, nm', ex, f1, f2, f3)) : ∀ (d : Nat) (nm : Nat → Int32), d ≤ 7 → (∀ j, j < 7 → d ≤ j → v j = hi j) → (∀ k, k < 7 → nm k = nI (if k < d then v k else 0)) → wY_advance_3 post ml mm mw (d + 1) (nI d + (-1)) pe so ta rs pc ow nm ex f1 f2 f3 := by
  intro d
  induction d with
  | zero =>
    intro nm _ hm hn
    exact br_t (by decide) (H0 nm (fun j a => hm j a (Nat.zero_le j)))
  | succ d ih =>
    intro nm hd hm hn
    have hi' : vp_in (nI d) 7 := vp_in_nI (by omega) (by omega)
    have cd : (nI d).toNatClampNeg = d := nI_clamp (by omega)
    have nd : nm d = nI (v d) := by rw [hn d (by omega), if_pos (Nat.lt_succ_self d)]
    have bd := hB d (by omega)
    have b4 := h4 d (by omega)
    have S : v d = hi d → wY_advance_3 post ml mm mw (d + 1) (nI d + (-1)) pe so ta rs pc ow (upd nm d 0) ex f1 f2 f3 := by
      intro e
      refine ih _ (by omega) (fun j a b => ?_) (fun k hk => ?_)
      · by_cases z : j = d
        · rw [z]; exact e
        · exact hm j a (by omega)
      · by_cases z : k = d
        · rw [z, pk_us, if_neg (Nat.lt_irrefl d)]; rfl
        · rw [pk_un z, hn k hk]
          by_cases y : k < d
          · rw [if_pos y, if_pos (by omega)]
          · rw [if_neg y, if_neg (by omega)]
    rw [pk_m1]
    refine br_f (nI_pos (by omega)) ⟨hi', ?_⟩
    rw [cd]
    by_cases p0 : pe d = 0
    · have := hp d (by omega) p0
      exact br_t p0 ⟨hi', nm_e (nm_e (S (by omega)))⟩
    · refine br_f p0 ⟨hi', hi', ?_⟩
      rw [nd, hq d (by omega) p0]
      by_cases c : v d < hi d
      · obtain ⟨n1, n2, n3⟩ := sd_nx_at (lo := sd_z) (by omega) (fun j a b => hm j a (by omega)) c
        refine br_f (nI_ge c (by omega)) ⟨hi', hi', nm_e (H1 _ (fun g => ?_) (fun k hk => ?_))⟩
        · have := g d (by omega)
          omega
        · by_cases z : k = d
          · rw [z, pk_us, n1]; exact nI_1 _
          · rw [pk_un z, hn k hk]
            by_cases y : k < d
            · rw [n3 k y, if_pos (by omega)]
            · rw [n2 k hk (by omega), if_neg (by omega)]; rfl
      · exact br_t (nI_le (by omega) (by omega)) ⟨hi', nm_e (nm_e (S (by omega)))⟩
theorem sd_adv {ml mm mw : Int32} {pe so ta rs pc ow nm ex f1 f2 f3 : Nat → Int32} {post : Int32 → SY → Prop} {hi v : Nat → Nat} (hB : sd_B sd_z hi v) (h4 : ∀ k, k < 7 → hi k ≤ 4) (hp : ∀ k, k < 7 → pe k = 0 → hi k = 0) (hq : ∀ k, k < 7 → ¬ pe k = 0 → rs k = nI (hi k)) (hn : ∀ k, k < 7 → nm k = nI (v k)) (H1 : ∀ nm' : Nat → Int32, (¬ ∀ j, j < 7 → v j = hi j) → (∀ k, k < 7 → nm' k = nI (sd_nx sd_z hi v k)) → post 1 (ml, mm, mw, pe, so, ta, rs, pc, ow, nm', ex, f1, f2, f3)) (H0 : ∀ nm' : Nat → Int32, (∀ j, j < 7 → v j = hi j) → post 0 (ml, mm, mw, pe, so, ta, rs, pc, ow, nm', ex, f1, f2, f3)) : wpY_advance post (ml, mm, mw, pe, so, ta, rs, pc, ow, nm, ex, f1, f2, f3) :=
  ⟨8, sd_adv3 hB h4 hp hq H1 H0 7 nm (Nat.le_refl 7) (fun j a b => absurd a (Nat.not_lt.mpr b)) (fun k hk => by rw [hn k hk, if_pos hk])⟩
/-! weigh -/
theorem sd_w28 {ml mm mw : Int32} {pe so ta rs pc ow nm f1 f2 f3 : Nat → Int32} {post : SY → Prop} {v : Nat → Nat} (h4 : ∀ k, k < 7 → v k ≤ 4) (hn : ∀ k, k < 7 → nm k = nI (v k)) (hs : ∀ k, k < 7 → vp_in (so k) 5) (ht : ∀ k, k < 7 → vp_in (ta k) 5) : ∀ (d i : Nat) (ex : Nat → Int32), i + d = 7 → (∀ p, p < 5 → ex p = -(ow p) + sd_sum (fun k => (if (so k).toNatClampNeg = p then nI (v k) else 0) - (if (ta k).toNatClampNeg = p then nI (v k) else 0)) i) → (∀ ex' : Nat → Int32, (∀ p, p < 5 → ex' p = -(ow p) + sd_S so ta v p) → post (ml, mm, mw, pe, so, ta, rs, pc, ow, nm, ex', f1, f2, f3)) → wY_weigh_28 post ml mm mw (d + 1) (nI i) pe so ta rs pc ow nm ex f1 f2 f3 := by
  intro d
  induction d with
  | zero =>
    intro i ex hi h H
    obtain rfl : i = 7 := by omega
    exact br_t sd_7y (H ex h)
  | succ d ih =>
    intro i ex hi h H
    have hin : vp_in (nI i) 7 := vp_in_nI (by omega) (by omega)
    have ci : (nI i).toNatClampNeg = i := nI_clamp (by omega)
    have hsi := hs i (by omega)
    have hti := ht i (by omega)
    have v4 := h4 i (by omega)
    refine br_f (sd_7n (by omega)) ⟨hin, ?_⟩
    rw [ci]
    by_cases z : nm i ≤ 0
    · have vi : v i = 0 := by
        by_cases y : 0 < v i
        · rw [hn i (by omega)] at z
          exact absurd z (nI_nle y (by omega))
        · omega
      refine br_t z (nm_r (nI_1 i) (ih (i + 1) ex (by omega) (fun p hp => ?_) H))
      rw [h p hp]
      simp only [sd_sum]
      rw [vi, nI_0, ite_self, ite_self, Int32.sub_zero, Int32.add_zero]
    · refine br_f z ⟨hin, hin, hsi, hin, hsi, nm_e ⟨hin, hin, hti, hin, hti, nm_e (nm_r (nI_1 i) (ih (i + 1) _ (by omega) (fun p hp => ?_) H))⟩⟩
      rw [sd_up2, h p hp, hn i (by omega)]
      simp only [sd_sum]
      grind
theorem sd_w2 {ml mm mw : Int32} {pe so ta rs pc ow nm f1 f2 f3 : Nat → Int32} {post : SY → Prop} : ∀ (d j : Nat) (ex : Nat → Int32), j + d = 5 → (∀ p, p < j → ex p = -(ow p)) → (∀ ex' : Nat → Int32, (∀ p, p < 5 → ex' p = -(ow p)) → ∃ n, wY_weigh_28 post ml mm mw n 0 pe so ta rs pc ow nm ex' f1 f2 f3) → wY_weigh_2 post ml mm mw (d + 1) (nI j) pe so ta rs pc ow nm ex f1 f2 f3 := by
  intro d
  induction d with
  | zero =>
    intro j ex hj h H
    obtain rfl : j = 5 := by omega
    exact br_t sd_5y (H ex h)
  | succ d ih =>
    intro j ex hj h H
    have hi : vp_in (nI j) 5 := vp_in_nI (by omega) (by omega)
    have cj : (nI j).toNatClampNeg = j := nI_clamp (by omega)
    refine br_f (sd_5n (by omega)) ⟨hi, hi, nm_e (nm_r (nI_1 j) ?_)⟩
    rw [cj]
    exact ih (j + 1) _ (by omega) (lt_s (fun p hp => by rw [pk_un (by omega)]; exact h p hp) pk_us) H
theorem sd_weigh {ml mm mw : Int32} {pe so ta rs pc ow nm ex f1 f2 f3 : Nat → Int32} {post : SY → Prop} {v : Nat → Nat} (h4 : ∀ k, k < 7 → v k ≤ 4) (hn : ∀ k, k < 7 → nm k = nI (v k)) (hs : ∀ k, k < 7 → vp_in (so k) 5) (ht : ∀ k, k < 7 → vp_in (ta k) 5) (H : ∀ ex' : Nat → Int32, (∀ p, p < 5 → ex' p = -(ow p) + sd_S so ta v p) → post (ml, mm, mw, pe, so, ta, rs, pc, ow, nm, ex', f1, f2, f3)) : wpY_weigh post (ml, mm, mw, pe, so, ta, rs, pc, ow, nm, ex, f1, f2, f3) :=
  ⟨6, sd_w2 5 0 ex rfl lt_0 (fun ex' h => ⟨8, sd_w28 h4 hn hs ht 7 0 ex' rfl (fun p hp => by rw [h p hp]; exact (Int32.add_zero _).symm) H⟩)⟩
/-! balanced -/
def sd_D (x1 x2 x3 : Int32) (r : Nat) : Int32 := if nI r = x1 then x3 else if nI r = x2 then -x3 else 0
theorem sd_nb0 : narrow .boolean (.int 0) = .int 0 := by first | rfl | exact lw_bz_n 0
theorem sd_nb1 : narrow .boolean (.int 1) = .int 1 := by first | rfl | exact lw_bz_n 1
theorem sd_ba6 {ml mm mw : Int32} {pe so ta rs pc ow nm ex f1 f2 f3 : Nat → Int32} {x1 x2 x3 : Int32} {post : Int32 → Prop} (h1 : (∀ r, r < 5 → ex r = sd_D x1 x2 x3 r) → post 1) (h0 : (¬ ∀ r, r < 5 → ex r = sd_D x1 x2 x3 r) → post 0) : ∀ (d j : Nat) (x4 : Int32), j + d = 5 → ((x4 = 1 ∧ ∀ r, r < j → ex r = sd_D x1 x2 x3 r) ∨ (x4 = 0 ∧ ¬ ∀ r, r < 5 → ex r = sd_D x1 x2 x3 r)) → wY_balanced_6 post x1 x2 x3 ml mm mw pe so ta rs pc ow nm ex f1 f2 f3 (d + 1) x4 (nI j) := by
  intro d
  induction d with
  | zero =>
    intro j x4 hj h
    obtain rfl : j = 5 := by omega
    rcases h with ⟨rfl, h⟩ | ⟨rfl, h⟩
    · exact br_t sd_5y ⟨sd_nb1, h1 h⟩
    · exact br_t sd_5y ⟨sd_nb0, h0 h⟩
  | succ d ih =>
    intro j x4 hj h
    have hi : vp_in (nI j) 5 := vp_in_nI (by omega) (by omega)
    have cj : (nI j).toNatClampNeg = j := nI_clamp (by omega)
    refine br_f (sd_5n (by omega)) ?_
    rcases h with ⟨rfl, h⟩ | ⟨rfl, h⟩
    · refine br_f (by decide) ⟨hi, ?_⟩
      rw [cj]
      have K : ∀ z0 : Int32, z0 = sd_D x1 x2 x3 j → wY_balanced_46 post (wY_balanced_6 post x1 x2 x3 ml mm mw pe so ta rs pc ow nm ex f1 f2 f3 (d + 1)) x1 x2 x3 (nI j) z0 (ex j) ml mm mw pe so ta rs pc ow nm ex f1 f2 f3 := by
        intro z0 ez
        exact br_c (fun z => nm_r (nI_1 j) (ih (j + 1) 1 (by omega) (Or.inl ⟨rfl, lt_s h (z.trans ez)⟩))) (fun z => nm_r (nI_1 j) (ih (j + 1) 0 (by omega) (Or.inr ⟨rfl, fun g => z ((g j (by omega)).trans ez.symm)⟩)))
      refine br_c (fun a => K _ ?_) (fun a => br_c (fun b => K _ ?_) (fun b => K _ ?_))
      · unfold sd_D; rw [if_pos a]
      · unfold sd_D; rw [if_neg a, if_pos b]
      · unfold sd_D; rw [if_neg a, if_neg b]
    · exact br_t rfl (nm_r (nI_1 j) (ih (j + 1) 0 (by omega) (Or.inr ⟨rfl, h⟩)))
theorem sd_bal {ml mm mw : Int32} {pe so ta rs pc ow nm ex f1 f2 f3 : Nat → Int32} {x1 x2 x3 : Int32} {post : Int32 → Prop} (h1 : (∀ r, r < 5 → ex r = sd_D x1 x2 x3 r) → post 1) (h0 : (¬ ∀ r, r < 5 → ex r = sd_D x1 x2 x3 r) → post 0) : wpY_balanced post (ml, mm, mw, pe, so, ta, rs, pc, ow, nm, ex, f1, f2, f3) x1 x2 x3 :=
  ⟨6, sd_ba6 h1 h0 5 0 1 rfl (Or.inl ⟨rfl, lt_0⟩)⟩
/-! cost -/
theorem sd_co4 {ml mm mw : Int32} {pe so ta rs pc ow nm ex f1 f2 f3 : Nat → Int32} {post : Int32 → Prop} {v : Nat → Nat} (hn : ∀ k, k < 7 → nm k = nI (v k)) (H : post (sd_C pc v)) : ∀ (d i : Nat), i + d = 7 → wY_cost_4 post ml mm mw pe so ta rs pc ow nm ex f1 f2 f3 (d + 1) (sd_sum (fun k => nI (v k) * pc k) i) (nI i) := by
  intro d
  induction d with
  | zero =>
    intro i hi
    obtain rfl : i = 7 := by omega
    exact br_t sd_7y H
  | succ d ih =>
    intro i hi
    have hin : vp_in (nI i) 7 := vp_in_nI (by omega) (by omega)
    have ci : (nI i).toNatClampNeg = i := nI_clamp (by omega)
    refine br_f (sd_7n (by omega)) ⟨hin, hin, nm_r ?_ (nm_r (nI_1 i) (ih (i + 1) (by omega)))⟩
    rw [ci, hn i (by omega), Int32.mul_comm]
    rfl
theorem sd_cost {ml mm mw : Int32} {pe so ta rs pc ow nm ex f1 f2 f3 : Nat → Int32} {post : Int32 → Prop} {v : Nat → Nat} (hn : ∀ k, k < 7 → nm k = nI (v k)) (H : post (sd_C pc v)) : wpY_cost post (ml, mm, mw, pe, so, ta, rs, pc, ow, nm, ex, f1, f2, f3) :=
  ⟨8, sd_co4 hn H 7 0 rfl⟩
