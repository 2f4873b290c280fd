/-! the questions: what both sides find, and the answers made of it -/
def sd_hb (ro : Nat → Int32) : Nat → Nat := fun k => (ro k).toNatClampNeg
noncomputable def sd_bo (P : Prop) : Bool := @decide P (Classical.propDecidable P)
theorem sd_bo_i {P : Prop} : sd_bo P = true ↔ P := @decide_eq_true_iff P (Classical.propDecidable P)
noncomputable def sd_ok (so ta w : Nat → Int32) (v : Nat → Nat) : Bool := sd_bo (∀ p, p < 5 → sd_S so ta v p = w p)
theorem sd_ok_i {so ta w : Nat → Int32} {v : Nat → Nat} : sd_ok so ta w v = true ↔ ∀ p, p < 5 → sd_S so ta v p = w p := by
  unfold sd_ok
  exact sd_bo_i
noncomputable def sd_r0 (so ta pc w : Nat → Int32) (hi : Nat → Nat) : sd_R := sd_rs sd_z hi (sd_ok so ta w) (sd_C pc) (sd_W sd_z hi 7)
theorem sd_I_b {pe so ta pc ro rs : Nat → Int32} (I : sd_I pe so ta pc ro rs) {k : Nat} (hk : k < 7) : ro k = nI (sd_hb ro k) ∧ sd_hb ro k ≤ 3 ∧ (pe k = 0 → sd_hb ro k = 0) ∧ (¬ pe k = 0 → rs k = nI (sd_hb ro k)) := by
  obtain ⟨_, _, _, r, hr, e1, e2⟩ := I k hk
  unfold sd_hb
  by_cases z : pe k = 0
  · rw [if_pos z] at e2
    rw [e2]
    exact ⟨by decide, by decide, fun _ => by decide, fun g => absurd z g⟩
  · rw [if_neg z] at e2
    have c : (nI r).toNatClampNeg = r := nI_clamp (by omega)
    rw [e2, c]
    exact ⟨rfl, hr, fun g => absurd g z, fun _ => e1⟩
theorem sd_svG {sp fo bc lc gc : Int32} {pe so ta ro pc ow lw hg wn nu se fb sb lb : Nat → Int32} {post : SX → Prop} {hi : Nat → Nat} {w : Nat → Int32} (h4 : ∀ k, k < 7 → hi k ≤ 4) (hs : ∀ k, k < 7 → vp_in (so k) 5) (ht : ∀ k, k < 7 → vp_in (ta k) 5) (a : ∀ k, k < 7 → lw k = 0) (b : ∀ k, k < 7 → hg k = nI (hi k)) (c : ∀ p, p < 5 → wn p = w p) (H : ∀ (sp fo bc lc gc : Int32) (nu se fb sb lb : Nat → Int32), sd_XF (sd_r0 so ta pc w hi) fo bc lc gc fb sb lb → post (sp, fo, bc, lc, gc, pe, so, ta, ro, pc, ow, lw, hg, wn, nu, se, fb, sb, lb)) : wpX_survey post (sp, fo, bc, lc, gc, pe, so, ta, ro, pc, ow, lw, hg, wn, nu, se, fb, sb, lb) := by
  refine sd_survey (lo := sd_z) (hi := hi) (ok := sd_ok so ta w) (fun k _ => Nat.zero_le _) h4 (fun k hk => a k hk) b hs ht (fun v => ?_) H
  rw [sd_ok_i]
  exact ⟨fun g p hp => (g p hp).trans (c p hp).symm, fun g p hp => (g p hp).trans (c p hp)⟩
theorem sd_svI {sp fo bc lc gc : Int32} {pe so ta ro pc ow lw hg wn nu se fb sb lb : Nat → Int32} {post : SX → Prop} {rs w : Nat → Int32} (I : sd_I pe so ta pc ro rs) (a : ∀ k, k < 7 → lw k = 0) (b : ∀ k, k < 7 → hg k = ro k) (c : ∀ p, p < 5 → wn p = w p) (H : ∀ (sp fo bc lc gc : Int32) (nu se fb sb lb : Nat → Int32), sd_XF (sd_r0 so ta pc w (sd_hb ro)) fo bc lc gc fb sb lb → post (sp, fo, bc, lc, gc, pe, so, ta, ro, pc, ow, lw, hg, wn, nu, se, fb, sb, lb)) : wpX_survey post (sp, fo, bc, lc, gc, pe, so, ta, ro, pc, ow, lw, hg, wn, nu, se, fb, sb, lb) :=
  sd_svG (fun k hk => Nat.le_trans (sd_I_b I hk).2.1 (by decide)) (fun k hk => (I k hk).1) (fun k hk => (I k hk).2.1) a (fun k hk => (b k hk).trans (sd_I_b I hk).1) c H
theorem sd_seG {ml mm mw : Int32} {pe so ta rs pc ow nm ex f1 f2 f3 : Nat → Int32} {post : SY → Prop} {x1 x2 x3 : Int32} {hi : Nat → Nat} {w : Nat → Int32} (h4 : ∀ k, k < 7 → hi k ≤ 4) (hp : ∀ k, k < 7 → pe k = 0 → hi k = 0) (hq : ∀ k, k < 7 → ¬ pe k = 0 → rs k = nI (hi k)) (hs : ∀ k, k < 7 → vp_in (so k) 5) (ht : ∀ k, k < 7 → vp_in (ta k) 5) (hc : ∀ k, k < 7 → sd_P (pc k)) (hw : ∀ p, p < 5 → w p = ow p + sd_D x1 x2 x3 p) (H : ∀ (ml mm mw : Int32) (nm ex f1 f2 f3 : Nat → Int32), sd_YF (sd_r0 so ta pc w hi) ml mm mw f1 f2 f3 → post (ml, mm, mw, pe, so, ta, rs, pc, ow, nm, ex, f1, f2, f3)) : wpY_search post (ml, mm, mw, pe, so, ta, rs, pc, ow, nm, ex, f1, f2, f3) x1 x2 x3 (-1) 0 := by
  have m1 : (-1 : Int32) < 0 := by decide
  refine sd_search (ok := sd_ok so ta w) h4 hp hq hs ht hc (Or.inl m1) (fun v => ?_) H
  rw [sd_ok_i]
  exact ⟨fun g => ⟨fun p hp => (g p hp).trans (hw p hp), Or.inl m1⟩, fun g p hp => (g.1 p hp).trans (hw p hp).symm⟩
theorem sd_seI {ml mm mw : Int32} {pe so ta rs pc ow nm ex f1 f2 f3 : Nat → Int32} {post : SY → Prop} {x1 x2 x3 : Int32} {ro w : Nat → Int32} (I : sd_I pe so ta pc ro rs) (hw : ∀ p, p < 5 → w p = ow p + sd_D x1 x2 x3 p) (H : ∀ (ml mm mw : Int32) (nm ex f1 f2 f3 : Nat → Int32), sd_YF (sd_r0 so ta pc w (sd_hb ro)) ml mm mw f1 f2 f3 → post (ml, mm, mw, pe, so, ta, rs, pc, ow, nm, ex, f1, f2, f3)) : wpY_search post (ml, mm, mw, pe, so, ta, rs, pc, ow, nm, ex, f1, f2, f3) x1 x2 x3 (-1) 0 :=
  sd_seG (fun k hk => Nat.le_trans (sd_I_b I hk).2.1 (by decide)) (fun k hk => (sd_I_b I hk).2.2.1) (fun k hk => (sd_I_b I hk).2.2.2) (fun k hk => (I k hk).1) (fun k hk => (I k hk).2.1) (fun k hk => (I k hk).2.2.1) hw H
theorem sd_D0 (x1 x2 : Int32) (p : Nat) : sd_D x1 x2 0 p = 0 := by
  unfold sd_D
  by_cases a : nI p = x1
  · rw [if_pos a]
  · rw [if_neg a]
    by_cases b : nI p = x2
    · rw [if_pos b]; rfl
    · rw [if_neg b]
theorem sd_w0 {ow : Nat → Int32} (x1 x2 : Int32) : ∀ p, p < 5 → ow p = ow p + sd_D x1 x2 0 p := fun p _ => by
  rw [sd_D0, Int32.add_zero]
theorem sd_XY {r : sd_R} {fo bc lc gc ml mm mw : Int32} {fb sb lb f1 f2 f3 : Nat → Int32} (hr : r.1 < 2 ^ 31) (hX : sd_XF r fo bc lc gc fb sb lb) (hY : sd_YF r ml mm mw f1 f2 f3) : (r.1 = 0 ∧ fo = 0 ∧ bc = 0 ∧ mw = 0 ∧ ml = -100000 ∧ mm = -100000) ∨ (r.1 ≠ 0 ∧ fo = 1 ∧ bc = mw ∧ ¬ mw ≤ 0 ∧ ml = lc ∧ mm = gc ∧ ∀ k, k < 7 → f1 k = fb k ∧ f2 k = sb k ∧ f3 k = lb k) := by
  rcases hX with ⟨a1, a2, a3⟩ | ⟨a1, a2, a3, a4, a5, a6⟩
  · rcases hY with ⟨b1, b2, b3, b4⟩ | ⟨b1, _⟩
    · exact Or.inl ⟨a1, a2, a3, b2, b3, b4⟩
    · exact absurd a1 b1
  · rcases hY with ⟨b1, _⟩ | ⟨b1, b2, b3, b4, b5, b6⟩
    · exact absurd b1 a1
    · refine Or.inr ⟨a1, a2, a3.trans b2.symm, by rw [b2]; exact nI_nle (by omega) hr, b3.trans a4.symm, b4.trans a5.symm, fun k hk => ?_⟩
      obtain ⟨c1, c2, c3⟩ := a6 k hk
      obtain ⟨d1, d2, d3⟩ := b6 k hk
      exact ⟨d1.trans c1.symm, d2.trans c2.symm, d3.trans c3.symm⟩
theorem sd_rl {lo hi : Nat → Nat} {ok : (Nat → Nat) → Bool} {cs : (Nat → Nat) → Int32} (h4 : ∀ k, k < 7 → hi k ≤ 4) : (sd_rs lo hi ok cs (sd_W lo hi 7)).1 < 2 ^ 31 := Nat.lt_of_le_of_lt (sd_rs_w _) (sd_W_7 h4)
theorem sd_r0l {so ta pc w pe ro rs : Nat → Int32} (I : sd_I pe so ta pc ro rs) : (sd_r0 so ta pc w (sd_hb ro)).1 < 2 ^ 31 := sd_rl (fun k hk => Nat.le_trans (sd_I_b I hk).2.1 (by decide))
theorem i_vc_possible {k : Nat} {u : SX} {v : SY} (I : i_Rel k u v) (hk : k + 4 ≤ 2048) : wpX_possible (fun r u' => wpY_possible (fun r' v' => r' = r ∧ i_Rel (k + 4) u' v') v) u := by
  obtain ⟨sp, fo, bc, lc, gc, pe, so, ta, ro, pc, ow, lw, hg, wn, nu, se, fb, sb, lb⟩ := u
  obtain ⟨ml, mm, mw, pe', so', ta', rs, pc', ow', nm, ex, f1, f2, f3⟩ := v
  obtain ⟨rfl, rfl, rfl, rfl, rfl, I⟩ := I
  unfold wpX_possible wpY_possible
  dsimp only
  refine sd_ask (fun lw hg wn a b c => ?_)
  dsimp only
  refine sd_svI I a b c (fun sp fo bc lc gc nu se fb sb lb hX => ?_)
  dsimp only
  refine ⟨?_, sd_seI I (sd_w0 0 1) (fun ml mm mw nm ex f1 f2 f3 hY => ?_)⟩
  · rcases hX with ⟨_, e, _⟩ | ⟨_, e, _⟩
    · rw [e]; exact sd_nb0
    · rw [e]; exact sd_nb1
  · dsimp only
    rcases sd_XY (sd_r0l I) hX hY with ⟨_, e, _, m, _⟩ | ⟨_, e, _, m, _⟩
    · exact br_t (by rw [m]; decide) ⟨e.symm, sd_rel I⟩
    · exact br_f m ⟨e.symm, sd_rel I⟩
theorem i_vc_least {k : Nat} {u : SX} {v : SY} (I : i_Rel k u v) (hk : k + 4 ≤ 2048) : wpX_least (fun r u' => wpY_least (fun r' v' => r' = r ∧ i_Rel (k + 4) u' v') v) u := by
  obtain ⟨sp, fo, bc, lc, gc, pe, so, ta, ro, pc, ow, lw, hg, wn, nu, se, fb, sb, lb⟩ := u
  obtain ⟨ml, mm, mw, pe', so', ta', rs, pc', ow', nm, ex, f1, f2, f3⟩ := v
  obtain ⟨rfl, rfl, rfl, rfl, rfl, I⟩ := I
  unfold wpX_least wpY_least
  dsimp only
  refine sd_ask (fun lw hg wn a b c => ?_)
  dsimp only
  refine sd_svI I a b c (fun sp fo bc lc gc nu se fb sb lb hX => ?_)
  dsimp only
  unfold wpX_leastFound
  dsimp only
  refine br_c (fun z => sd_seI I (sd_w0 0 1) (fun ml mm mw nm ex f1 f2 f3 hY => ?_)) (fun z => sd_seI I (sd_w0 0 1) (fun ml mm mw nm ex f1 f2 f3 hY => ?_))
  · rcases sd_XY (sd_r0l I) hX hY with ⟨_, e, _, _, l, _⟩ | ⟨_, e, _, _, l, _⟩
    · exact ⟨l, sd_rel I⟩
    · exact absurd (z.symm.trans e) (by decide)
  · rcases sd_XY (sd_r0l I) hX hY with ⟨_, e, _, _, l, _⟩ | ⟨_, e, _, _, l, _⟩
    · exact absurd e z
    · exact ⟨l, sd_rel I⟩
theorem i_vc_greatest {k : Nat} {u : SX} {v : SY} (I : i_Rel k u v) (hk : k + 4 ≤ 2048) : wpX_greatest (fun r u' => wpY_greatest (fun r' v' => r' = r ∧ i_Rel (k + 4) u' v') v) u := by
  obtain ⟨sp, fo, bc, lc, gc, pe, so, ta, ro, pc, ow, lw, hg, wn, nu, se, fb, sb, lb⟩ := u
  obtain ⟨ml, mm, mw, pe', so', ta', rs, pc', ow', nm, ex, f1, f2, f3⟩ := v
  obtain ⟨rfl, rfl, rfl, rfl, rfl, I⟩ := I
  unfold wpX_greatest wpY_greatest
  dsimp only
  refine sd_ask (fun lw hg wn a b c => ?_)
  dsimp only
  refine sd_svI I a b c (fun sp fo bc lc gc nu se fb sb lb hX => ?_)
  dsimp only
  refine br_c (fun z => sd_seI I (sd_w0 0 1) (fun ml mm mw nm ex f1 f2 f3 hY => ?_)) (fun z => sd_seI I (sd_w0 0 1) (fun ml mm mw nm ex f1 f2 f3 hY => ?_))
  · rcases sd_XY (sd_r0l I) hX hY with ⟨_, e, _, _, _, l⟩ | ⟨_, e, _, _, _, l, _⟩
    · exact ⟨l, sd_rel I⟩
    · exact absurd (z.symm.trans e) (by decide)
  · rcases sd_XY (sd_r0l I) hX hY with ⟨_, e, _, _, _, l⟩ | ⟨_, e, _, _, _, l, _⟩
    · exact absurd e z
    · exact ⟨l, sd_rel I⟩
theorem i_vc_first {k : Nat} {u : SX} {v : SY} (I : i_Rel k u v) (hk : k + 4 ≤ 2048) (v1 : Int32) : wpX_first (fun r u' => wpY_first (fun r' v' => r' = r ∧ i_Rel (k + 4) u' v') v v1) u v1 := by
  obtain ⟨sp, fo, bc, lc, gc, pe, so, ta, ro, pc, ow, lw, hg, wn, nu, se, fb, sb, lb⟩ := u
  obtain ⟨ml, mm, mw, pe', so', ta', rs, pc', ow', nm, ex, f1, f2, f3⟩ := v
  obtain ⟨rfl, rfl, rfl, rfl, rfl, I⟩ := I
  unfold wpX_first wpY_first
  dsimp only
  refine sd_isL (fun L => br_f (by decide) ?_) (fun L => br_t rfl (sd_seI I (sd_w0 0 1) (fun ml mm mw nm ex f1 f2 f3 hY => ?_)))
  · obtain ⟨j, hj, rfl, _⟩ := id L
    have cj : (nI j).toNatClampNeg = j := nI_clamp (by omega)
    have vj : vp_in (nI j) 7 := vp_in_nI hj (by omega)
    refine sd_ask (fun lw hg wn a b c => ?_)
    dsimp only
    refine sd_svI I a b c (fun sp fo bc lc gc nu se fb sb lb hX => ?_)
    dsimp only
    rw [cj]
    refine br_c (fun z => sd_seI I (sd_w0 0 1) (fun ml mm mw nm ex f1 f2 f3 hY => ?_)) (fun z => ⟨vj, sd_seI I (sd_w0 0 1) (fun ml mm mw nm ex f1 f2 f3 hY => ?_)⟩)
    · dsimp only
      refine sd_isY (fun _ => br_f (by decide) ?_) (fun g => absurd L g)
      rcases sd_XY (sd_r0l I) hX hY with ⟨_, e, _, m, _⟩ | ⟨_, e, _⟩
      · exact br_t (by rw [m]; decide) ⟨rfl, sd_rel I⟩
      · exact absurd (z.symm.trans e) (by decide)
    · dsimp only
      refine sd_isY (fun _ => br_f (by decide) ?_) (fun g => absurd L g)
      rcases sd_XY (sd_r0l I) hX hY with ⟨_, e, _⟩ | ⟨_, _, _, m, _, _, l⟩
      · exact absurd e z
      · exact br_f m ⟨vj, (l j hj).1, sd_rel I⟩
  · dsimp only
    exact sd_isY (fun g => absurd g L) (fun _ => br_t rfl ⟨rfl, sd_rel I⟩)
theorem i_vc_range {k : Nat} {u : SX} {v : SY} (I : i_Rel k u v) (hk : k + 4 ≤ 2048) (v1 : Int32) (v2 : Int32) : wpX_range (fun r u' => wpY_range (fun r' v' => r' = r ∧ i_Rel (k + 4) u' v') v v1 v2) u v1 v2 := by
  obtain ⟨sp, fo, bc, lc, gc, pe, so, ta, ro, pc, ow, lw, hg, wn, nu, se, fb, sb, lb⟩ := u
  obtain ⟨ml, mm, mw, pe', so', ta', rs, pc', ow', nm, ex, f1, f2, f3⟩ := v
  obtain ⟨rfl, rfl, rfl, rfl, rfl, I⟩ := I
  unfold wpX_range wpY_range
  dsimp only
  refine sd_isL (fun L => br_f (by decide) ?_) (fun L => br_t rfl (sd_seI I (sd_w0 0 1) (fun ml mm mw nm ex f1 f2 f3 hY => ?_)))
  · obtain ⟨j, hj, rfl, _⟩ := id L
    have cj : (nI j).toNatClampNeg = j := nI_clamp (by omega)
    have vj : vp_in (nI j) 7 := vp_in_nI hj (by omega)
    refine br_c (fun n0 => sd_seI I (sd_w0 0 1) (fun ml mm mw nm ex f1 f2 f3 hY => ?_)) (fun n0 => br_c (fun n1 => ?_) (fun n1 => sd_seI I (sd_w0 0 1) (fun ml mm mw nm ex f1 f2 f3 hY => ?_)))
    · dsimp only
      have e0 : ¬ v2 = 0 := fun e => by rw [e] at n0; exact absurd n0 (by decide)
      have e1 : ¬ v2 = 1 := fun e => by rw [e] at n0; exact absurd n0 (by decide)
      exact sd_isY (fun _ => br_f (by decide) (br_c (fun _ => ⟨rfl, sd_rel I⟩) (fun _ => br_f e0 (br_f e1 ⟨rfl, sd_rel I⟩)))) (fun g => absurd L g)
    · have e01 : v2 = 0 ∨ v2 = 1 := by
        obtain ⟨m, hm, rfl⟩ := nI_of2 (x := v2) (M := 1) (n := 1) (by decide) n0 n1
        have : m = 0 ∨ m = 1 := by omega
        rcases this with rfl | rfl
        · exact Or.inl nI_0
        · exact Or.inr rfl
      refine sd_ask (fun lw hg wn a b c => ?_)
      dsimp only
      refine sd_svI I a b c (fun sp fo bc lc gc nu se fb sb lb hX => ?_)
      dsimp only
      rw [cj]
      refine br_c (fun z => sd_seI I (sd_w0 0 1) (fun ml mm mw nm ex f1 f2 f3 hY => ?_)) (fun z => br_c (fun w0 => ⟨vj, sd_seI I (sd_w0 0 1) (fun ml mm mw nm ex f1 f2 f3 hY => ?_)⟩) (fun w0 => ⟨vj, sd_seI I (sd_w0 0 1) (fun ml mm mw nm ex f1 f2 f3 hY => ?_)⟩))
      · dsimp only
        refine sd_isY (fun _ => br_f (by decide) ?_) (fun g => absurd L g)
        rcases sd_XY (sd_r0l I) hX hY with ⟨_, e, _, m, _⟩ | ⟨_, e, _⟩
        · exact br_t (by rw [m]; decide) ⟨rfl, sd_rel I⟩
        · exact absurd (z.symm.trans e) (by decide)
      · dsimp only
        refine sd_isY (fun _ => br_f (by decide) ?_) (fun g => absurd L g)
        unfold wY_range_33
        rw [cj]
        rcases sd_XY (sd_r0l I) hX hY with ⟨_, e, _⟩ | ⟨_, _, _, m, _, _, l⟩
        · exact absurd e z
        · exact br_f m (br_t w0 (br_t w0 ⟨vj, (l j hj).2.1, sd_rel I⟩))
      · dsimp only
        refine sd_isY (fun _ => br_f (by decide) ?_) (fun g => absurd L g)
        unfold wY_range_33
        rw [cj]
        have w1 : v2 = 1 := e01.resolve_left w0
        rcases sd_XY (sd_r0l I) hX hY with ⟨_, e, _⟩ | ⟨_, _, _, m, _, _, l⟩
        · exact absurd e z
        · exact br_f m (br_f w0 (br_t w1 (br_f w0 ⟨vj, (l j hj).2.2, sd_rel I⟩)))
    · dsimp only
      have e0 : ¬ v2 = 0 := fun e => by rw [e] at n1; exact absurd n1 (by decide)
      have e1 : ¬ v2 = 1 := fun e => by rw [e] at n1; exact absurd n1 (by decide)
      exact sd_isY (fun _ => br_f (by decide) (br_c (fun _ => ⟨rfl, sd_rel I⟩) (fun _ => br_f e0 (br_f e1 ⟨rfl, sd_rel I⟩)))) (fun g => absurd L g)
  · dsimp only
    exact sd_isY (fun g => absurd g L) (fun _ => br_t rfl ⟨rfl, sd_rel I⟩)
theorem i_vc_unique {k : Nat} {u : SX} {v : SY} (I : i_Rel k u v) (hk : k + 4 ≤ 2048) : wpX_unique (fun r u' => wpY_unique (fun r' v' => r' = r ∧ i_Rel (k + 4) u' v') v) u := by
  obtain ⟨sp, fo, bc, lc, gc, pe, so, ta, ro, pc, ow, lw, hg, wn, nu, se, fb, sb, lb⟩ := u
  obtain ⟨ml, mm, mw, pe', so', ta', rs, pc', ow', nm, ex, f1, f2, f3⟩ := v
  obtain ⟨rfl, rfl, rfl, rfl, rfl, I⟩ := I
  unfold wpX_unique wpY_unique
  dsimp only
  refine sd_ask (fun lw hg wn a b c => ?_)
  dsimp only
  refine sd_svI I a b c (fun sp fo bc lc gc nu se fb sb lb hX => ?_)
  dsimp only
  refine br_c (fun z => sd_seI I (sd_w0 0 1) (fun ml mm mw nm ex f1 f2 f3 hY => ?_)) (fun z => sd_seI I (sd_w0 0 1) (fun ml mm mw nm ex f1 f2 f3 hY => ?_))
  · dsimp only
    rcases sd_XY (sd_r0l I) hX hY with ⟨_, _, e, m, _⟩ | ⟨_, _, e, _⟩
    · exact absurd (z.symm.trans e) (by decide)
    · exact br_t (e.symm.trans z) ⟨rfl, sd_rel I⟩
  · dsimp only
    rcases sd_XY (sd_r0l I) hX hY with ⟨_, _, e, m, _⟩ | ⟨_, _, e, _⟩
    · exact br_f (by rw [m]; decide) ⟨rfl, sd_rel I⟩
    · exact br_f (fun g => z (e.trans g)) ⟨rfl, sd_rel I⟩
