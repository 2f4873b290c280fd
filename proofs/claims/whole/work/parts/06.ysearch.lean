/-! Y: what it notes, its search -/
def sd_YF (r : sd_R) (ml mm mw : Int32) (f1 f2 f3 : Nat → Int32) : Prop :=
  (r.1 = 0 ∧ mw = 0 ∧ ml = -100000 ∧ mm = -100000) ∨ (r.1 ≠ 0 ∧ mw = nI r.1 ∧ ml = r.2.1 ∧ mm = r.2.2.1 ∧ mm ≠ -100000 ∧ ∀ k, k < 7 → f1 k = r.2.2.2.1 k ∧ f2 k = r.2.2.2.2.1 k ∧ f3 k = r.2.2.2.2.2 k)
def sd_g2 (x2 x3 n f : Int32) : Int32 := if x2 = 0 then (if x3 = 0 then f else if f ≤ n then f else n) else n
def sd_g3 (x2 x3 n f : Int32) : Int32 := if x2 = 0 then (if x3 = 0 then f else if n ≤ f then f else n) else n
theorem sd_y165 {ml mm mw : Int32} {pe so ta rs pc ow nm ex f1 f2 f3 : Nat → Int32} {x1 x2 x3 : Int32} {j : Nat} {post : SY → Prop} {J : Int32 → (Nat → Int32) → (Nat → Int32) → (Nat → Int32) → (Nat → Int32) → (Nat → Int32) → (Nat → Int32) → (Nat → Int32) → (Nat → Int32) → (Nat → Int32) → (Nat → Int32) → (Nat → Int32) → Prop} (hj : j < 7) (H : J (nI (j + 1)) pe so ta rs pc ow nm ex f1 f2 (upd f3 j (nm j))) : wY_note_165 post J x1 x2 x3 (nI j) (nI j) ml mm mw pe so ta rs pc ow nm ex f1 f2 f3 := by
  have hi : vp_in (nI j) 7 := vp_in_nI hj (by omega)
  have cj : (nI j).toNatClampNeg = j := nI_clamp (by omega)
  unfold wY_note_165
  rw [cj]
  exact ⟨hi, hi, nm_e (nm_r (nI_1 j) H)⟩
theorem sd_y133 {ml mm mw : Int32} {pe so ta rs pc ow nm ex f1 f2 f3 : Nat → Int32} {x1 x2 x3 z0 : Int32} {j : Nat} {post : SY → Prop} {J : Int32 → (Nat → Int32) → (Nat → Int32) → (Nat → Int32) → (Nat → Int32) → (Nat → Int32) → (Nat → Int32) → (Nat → Int32) → (Nat → Int32) → (Nat → Int32) → (Nat → Int32) → (Nat → Int32) → Prop} (hj : j < 7) (H : ∀ f3' : Nat → Int32, (∀ k, k ≠ j → f3' k = f3 k) → f3' j = sd_g3 x2 x3 (nm j) (f3 j) → J (nI (j + 1)) pe so ta rs pc ow nm ex f1 (upd f2 j z0) f3') : wY_note_133 post J x1 x2 x3 (nI j) z0 (nI j) ml mm mw pe so ta rs pc ow nm ex f1 f2 f3 := by
  have hi : vp_in (nI j) 7 := vp_in_nI hj (by omega)
  have cj : (nI j).toNatClampNeg = j := nI_clamp (by omega)
  unfold wY_note_133
  rw [cj]
  refine ⟨hi, nm_e (br_c (fun a => br_c (fun b => ⟨hi, hi, nm_e (nm_r (nI_1 j) (H _ (fun k hk => pk_un hk) ?_))⟩) (fun b => ⟨hi, hi, br_c (fun c => ⟨hi, hi, nm_e (nm_r (nI_1 j) (H _ (fun k hk => pk_un hk) ?_))⟩) (fun c => sd_y165 hj (H _ (fun k hk => pk_un hk) ?_))⟩)) (fun a => sd_y165 hj (H _ (fun k hk => pk_un hk) ?_)))⟩
  · unfold sd_g3; rw [pk_us, if_pos a, if_pos b]
  · unfold sd_g3; rw [pk_us, if_pos a, if_neg b, if_pos c]
  · unfold sd_g3; rw [pk_us, if_pos a, if_neg b, if_neg c]
  · unfold sd_g3; rw [pk_us, if_neg a]
theorem sd_y84 {ml mm mw : Int32} {pe so ta rs pc ow nm ex f1 f2 f3 : Nat → Int32} {x1 x2 x3 z0 : Int32} {j : Nat} {post : SY → Prop} {J : Int32 → (Nat → Int32) → (Nat → Int32) → (Nat → Int32) → (Nat → Int32) → (Nat → Int32) → (Nat → Int32) → (Nat → Int32) → (Nat → Int32) → (Nat → Int32) → (Nat → Int32) → (Nat → Int32) → Prop} (hj : j < 7) (H : ∀ f2' f3' : Nat → Int32, (∀ k, k ≠ j → f2' k = f2 k ∧ f3' k = f3 k) → f2' j = sd_g2 x2 x3 (nm j) (f2 j) → f3' j = sd_g3 x2 x3 (nm j) (f3 j) → J (nI (j + 1)) pe so ta rs pc ow nm ex (upd f1 j z0) f2' f3') : wY_note_84 post J x1 x2 x3 (nI j) z0 (nI j) ml mm mw pe so ta rs pc ow nm ex f1 f2 f3 := by
  have hi : vp_in (nI j) 7 := vp_in_nI hj (by omega)
  have cj : (nI j).toNatClampNeg = j := nI_clamp (by omega)
  have K : ∀ z : Int32, z = sd_g2 x2 x3 (nm j) (f2 j) → wY_note_133 post J x1 x2 x3 (nI j) z (nI j) ml mm mw pe so ta rs pc ow nm ex (upd f1 j z0) f2 f3 := by
    intro z e
    exact sd_y133 hj (fun f3' a b => H _ f3' (fun k hk => ⟨pk_un hk, a k hk⟩) (by rw [pk_us]; exact e) b)
  unfold wY_note_84 wY_note_126 wY_note_116
  rw [cj]
  refine ⟨hi, nm_e (br_c (fun a => br_c (fun b => ⟨hi, K _ ?_⟩) (fun b => ⟨hi, hi, br_c (fun c => ⟨hi, K _ ?_⟩) (fun c => ⟨hi, K _ ?_⟩)⟩)) (fun a => ⟨hi, K _ ?_⟩))⟩
  · unfold sd_g2; rw [if_pos a, if_pos b]
  · unfold sd_g2; rw [if_pos a, if_neg b, if_pos c]
  · unfold sd_g2; rw [if_pos a, if_neg b, if_neg c]
  · unfold sd_g2; rw [if_neg a]
theorem sd_y215 {ml mm mw : Int32} {pe so ta rs pc ow nm ex f1 f2 f3 : Nat → Int32} {x1 x2 x3 z0 : Int32} {post : SY → Prop} (H : post ((if x2 = 0 then ml else x1), z0, (if x2 = 0 then (if x3 = 0 then mw else mw + 1) else 1), pe, so, ta, rs, pc, ow, nm, ex, f1, f2, f3)) : wY_note_215 post x1 x2 x3 z0 ml mm mw pe so ta rs pc ow nm ex f1 f2 f3 := by
  unfold wY_note_215 wY_note_231
  by_cases a : x2 = 0
  · rw [if_pos a, if_pos a] at H
    by_cases b : x3 = 0
    · rw [if_pos b] at H
      exact br_t a (br_t a (br_t b H))
    · rw [if_neg b] at H
      exact br_t a (br_t a (br_f b (nm_e H)))
  · rw [if_neg a, if_neg a] at H
    exact br_f a (br_f a H)
theorem sd_y50 {ml mm mw : Int32} {pe so ta rs pc ow nm ex : Nat → Int32} {x1 x2 x3 : Int32} {post : SY → Prop} {p1 p2 p3 : Nat → Int32} (H : ∀ f1 f2 f3 : Nat → Int32, (∀ k, k < 7 → f1 k = (if x2 = 0 then p1 k else nm k) ∧ f2 k = sd_g2 x2 x3 (nm k) (p2 k) ∧ f3 k = sd_g3 x2 x3 (nm k) (p3 k)) → post ((if x2 = 0 then ml else x1), (if mm = -100000 then x1 else if x1 ≤ mm then mm else x1), (if x2 = 0 then (if x3 = 0 then mw else mw + 1) else 1), pe, so, ta, rs, pc, ow, nm, ex, f1, f2, f3)) : ∀ (d j : Nat) (f1 f2 f3 : Nat → Int32), j + d = 7 → (∀ k, k < j → f1 k = (if x2 = 0 then p1 k else nm k) ∧ f2 k = sd_g2 x2 x3 (nm k) (p2 k) ∧ f3 k = sd_g3 x2 x3 (nm k) (p3 k)) → (∀ k, j ≤ k → f1 k = p1 k ∧ f2 k = p2 k ∧ f3 k = p3 k) → wY_note_50 post x1 x2 x3 ml mm mw (d + 1) (nI j) pe so ta rs pc ow nm ex f1 f2 f3 := by
  intro d
  induction d with
  | zero =>
    intro j f1 f2 f3 hj h _
    obtain rfl : j = 7 := by omega
    have HH := H f1 f2 f3 h
    refine br_t sd_7y ?_
    unfold wY_note_207
    by_cases a : mm = -100000
    · rw [if_pos a] at HH
      exact br_t a (sd_y215 HH)
    · rw [if_neg a] at HH
      by_cases b : x1 ≤ mm
      · rw [if_pos b] at HH
        exact br_f a (br_t b (sd_y215 HH))
      · rw [if_neg b] at HH
        exact br_f a (br_f b (sd_y215 HH))
  | succ d ih =>
    intro j f1 f2 f3 hj h g
    have hi : vp_in (nI j) 7 := vp_in_nI (by omega) (by omega)
    have cj : (nI j).toNatClampNeg = j := nI_clamp (by omega)
    obtain ⟨g1, g2, g3⟩ := g j (Nat.le_refl j)
    have K : ∀ z0 : Int32, z0 = (if x2 = 0 then p1 j else nm j) → wY_note_84 post (wY_note_50 post x1 x2 x3 ml mm mw (d + 1)) x1 x2 x3 (nI j) z0 (nI j) ml mm mw pe so ta rs pc ow nm ex f1 f2 f3 := by
      intro z0 e
      refine sd_y84 (by omega) (fun f2' f3' a b c => ih (j + 1) _ _ _ (by omega) (lt_s (fun k hk => ?_) ⟨?_, ?_, ?_⟩) (fun k hk => ?_))
      · rw [pk_un (by omega), (a k (by omega)).1, (a k (by omega)).2]; exact h k hk
      · rw [pk_us]; exact e
      · rw [b, g2]
      · rw [c, g3]
      · rw [pk_un (by omega), (a k (by omega)).1, (a k (by omega)).2]; exact g k (by omega)
    refine br_f (sd_7n (by omega)) ?_
    rw [cj]
    refine br_c (fun a => ⟨hi, K _ ?_⟩) (fun a => ⟨hi, K _ ?_⟩)
    · rw [if_pos a]; exact g1
    · rw [if_neg a]
theorem sd_ynote {ml mm mw : Int32} {pe so ta rs pc ow nm ex f1 f2 f3 : Nat → Int32} {post : SY → Prop} {r : sd_R} {v : Nat → Nat} (hn : ∀ k, k < 7 → nm k = nI (v k)) (hr : r.1 < 2 ^ 31) (hc : sd_C pc v ≠ -100000) (hY : sd_YF r ml mm mw f1 f2 f3) (H : ∀ (ml mm mw : Int32) (f1 f2 f3 : Nat → Int32), sd_YF (sd_nt (sd_C pc v) (fun k => nI (v k)) r) ml mm mw f1 f2 f3 → post (ml, mm, mw, pe, so, ta, rs, pc, ow, nm, ex, f1, f2, f3)) : wpY_note post (ml, mm, mw, pe, so, ta, rs, pc, ow, nm, ex, f1, f2, f3) := by
  unfold wpY_note
  dsimp only
  refine sd_cost hn ?_
  generalize sd_C pc v = c at hc H ⊢
  have L : ∀ x2 x3 : Int32, (∀ g1 g2 g3 : Nat → Int32, (∀ k, k < 7 → g1 k = (if x2 = 0 then f1 k else nm k) ∧ g2 k = sd_g2 x2 x3 (nm k) (f2 k) ∧ g3 k = sd_g3 x2 x3 (nm k) (f3 k)) → sd_YF (sd_nt c (fun k => nI (v k)) r) (if x2 = 0 then ml else c) (if mm = -100000 then c else if c ≤ mm then mm else c) (if x2 = 0 then (if x3 = 0 then mw else mw + 1) else 1) g1 g2 g3) → ∃ n, wY_note_50 post c x2 x3 ml mm mw n 0 pe so ta rs pc ow nm ex f1 f2 f3 := by
    intro x2 x3 h
    exact ⟨8, sd_y50 (fun g1 g2 g3 hg => H _ _ _ _ _ _ (h g1 g2 g3 hg)) 7 0 f1 f2 f3 rfl lt_0 (fun _ _ => ⟨rfl, rfl, rfl⟩)⟩
  have n10 : ¬ (1 : Int32) = 0 := by decide
  rcases hY with ⟨h0, hw, hl, hm⟩ | ⟨h0, hw, hl, hm, hm', hk⟩
  · refine br_t hw ?_
    unfold wY_note_20 wY_note_25
    refine br_t (by rw [hw]; decide) (L 1 0 (fun g1 g2 g3 hg => Or.inr ?_))
    rw [sd_nt_0 h0, if_neg n10, if_neg n10, if_pos hm]
    refine ⟨Nat.one_ne_zero, rfl, rfl, rfl, hc, fun k hk7 => ?_⟩
    obtain ⟨a1, a2, a3⟩ := hg k hk7
    unfold sd_g2 at a2
    unfold sd_g3 at a3
    rw [if_neg n10, hn k hk7] at a1 a2 a3
    exact ⟨a1, a2, a3⟩
  · have w0 : ¬ mw = 0 := by rw [hw]; exact nI_ne0 (by omega) hr
    have w1 : ¬ mw ≤ 0 := by rw [hw]; exact nI_nle (by omega) hr
    have mx : (if c ≤ r.2.2.1 then r.2.2.1 else c) ≠ -100000 := by
      rw [← hm]
      by_cases z : c ≤ mm
      · rw [if_pos z]; exact hm'
      · rw [if_neg z]; exact hc
    refine br_f w0 ?_
    by_cases a : ml ≤ c
    · refine br_t a ?_
      unfold wY_note_25
      refine br_f w1 ?_
      by_cases e : c = ml
      · refine br_t e (L 0 1 (fun g1 g2 g3 hg => Or.inr ?_))
        rw [hl] at a e
        rw [sd_nt_e h0 a e, if_pos rfl, if_pos rfl, if_neg n10, if_neg hm', hm]
        refine ⟨Nat.succ_ne_zero _, by rw [hw]; exact nI_1 _, hl, rfl, mx, fun k hk7 => ?_⟩
        obtain ⟨a1, a2, a3⟩ := hg k hk7
        obtain ⟨b1, b2, b3⟩ := hk k hk7
        unfold sd_g2 at a2
        unfold sd_g3 at a3
        rw [if_pos rfl] at a1 a2 a3
        rw [if_neg n10] at a2 a3
        rw [b1] at a1
        rw [b2, hn k hk7] at a2
        rw [b3, hn k hk7] at a3
        exact ⟨a1, a2, a3⟩
      · refine br_f e (L 0 0 (fun g1 g2 g3 hg => Or.inr ?_))
        rw [hl] at a e
        rw [sd_nt_g h0 a e, if_pos rfl, if_pos rfl, if_pos rfl, if_neg hm', hm]
        refine ⟨h0, hw, hl, rfl, mx, fun k hk7 => ?_⟩
        obtain ⟨a1, a2, a3⟩ := hg k hk7
        obtain ⟨b1, b2, b3⟩ := hk k hk7
        unfold sd_g2 at a2
        unfold sd_g3 at a3
        rw [if_pos rfl] at a1 a2 a3
        rw [if_pos rfl] at a2 a3
        exact ⟨a1.trans b1, a2.trans b2, a3.trans b3⟩
    · refine br_f a ?_
      unfold wY_note_20 wY_note_25
      have e : ¬ c = ml := fun e => a (by rw [e]; exact Int32.le_refl _)
      refine br_f w1 (br_f e (L 1 0 (fun g1 g2 g3 hg => Or.inr ?_)))
      rw [hl] at a
      rw [sd_nt_l h0 a, if_neg n10, if_neg n10, if_neg hm', hm]
      refine ⟨Nat.one_ne_zero, rfl, rfl, rfl, mx, fun k hk7 => ?_⟩
      obtain ⟨a1, a2, a3⟩ := hg k hk7
      unfold sd_g2 at a2
      unfold sd_g3 at a3
      rw [if_neg n10, hn k hk7] at a1 a2 a3
      exact ⟨a1, a2, a3⟩
/-! search -/
theorem sd_eqD (o s d : Int32) : -o + s = d ↔ s = o + d := by
  constructor
  · intro h; grind
  · intro h; grind
theorem sd_y7 {pe so ta rs pc ow : Nat → Int32} {x1 x2 x3 x4 x5 : Int32} {post : SY → Prop} {hi : Nat → Nat} {ok : (Nat → Nat) → Bool} (h4 : ∀ k, k < 7 → hi k ≤ 4) (hp : ∀ k, k < 7 → pe k = 0 → hi k = 0) (hq : ∀ k, k < 7 → ¬ pe k = 0 → rs k = nI (hi k)) (hs : ∀ k, k < 7 → vp_in (so k) 5) (ht : ∀ k, k < 7 → vp_in (ta k) 5) (hc : ∀ k, k < 7 → sd_P (pc k)) (hx : x4 < 0 ∨ ∃ j, j < 7 ∧ x4 = nI j)
    (hok : ∀ v, ok v = true ↔ (∀ p, p < 5 → sd_S so ta v p = ow p + sd_D x1 x2 x3 p) ∧ (x4 < 0 ∨ nI (v x4.toNatClampNeg) = x5))
    (H : ∀ (ml mm mw : Int32) (nm ex f1 f2 f3 : Nat → Int32), sd_YF (sd_rs sd_z hi ok (sd_C pc) (sd_W sd_z hi 7)) ml mm mw f1 f2 f3 → post (ml, mm, mw, pe, so, ta, rs, pc, ow, nm, ex, f1, f2, f3)) :
    ∀ (d t : Nat) (ml mm mw : Int32) (nm ex f1 f2 f3 : Nat → Int32), t + d + 1 = sd_W sd_z hi 7 → (∀ k, k < 7 → nm k = nI (sd_vt sd_z hi t k)) → sd_YF (sd_rs sd_z hi ok (sd_C pc) t) ml mm mw f1 f2 f3 → wY_search_7 post x1 x2 x3 x4 x5 (d + 2) 1 ml mm mw pe so ta rs pc ow nm ex f1 f2 f3 := by
  have hT := sd_W_7 (lo := sd_z) h4
  have hl : ∀ k, k < 7 → sd_z k ≤ hi k := fun k _ => Nat.zero_le _
  intro d
  have STEP : ∀ (n t : Nat) (ml mm mw : Int32) (nm ex f1 f2 f3 : Nat → Int32), t < sd_W sd_z hi 7 → (t + 1 ≠ sd_W sd_z hi 7 → ∀ (ml mm mw : Int32) (nm ex f1 f2 f3 : Nat → Int32), (∀ k, k < 7 → nm k = nI (sd_vt sd_z hi (t + 1) k)) → sd_YF (sd_rs sd_z hi ok (sd_C pc) (t + 1)) ml mm mw f1 f2 f3 → wY_search_7 post x1 x2 x3 x4 x5 (n + 1) 1 ml mm mw pe so ta rs pc ow nm ex f1 f2 f3) → (∀ k, k < 7 → nm k = nI (sd_vt sd_z hi t k)) → sd_YF (sd_rs sd_z hi ok (sd_C pc) t) ml mm mw f1 f2 f3 → wY_search_7 post x1 x2 x3 x4 x5 (n + 2) 1 ml mm mw pe so ta rs pc ow nm ex f1 f2 f3 := by
    intro n t ml mm mw nm ex f1 f2 f3 htT K1 hn hY
    have hB := (sd_vt_ok hl t htT).1
    have v4 : ∀ k, k < 7 → sd_vt sd_z hi t k ≤ 4 := fun k hk => Nat.le_trans (hB k hk).2 (h4 k hk)
    have A : ∀ (ml mm mw : Int32) (ex f1 f2 f3 : Nat → Int32), sd_YF (sd_rs sd_z hi ok (sd_C pc) (t + 1)) ml mm mw f1 f2 f3 → wY_search_47 post (wY_search_7 post x1 x2 x3 x4 x5 (n + 1)) x1 x2 x3 x4 x5 ml mm mw pe so ta rs pc ow nm ex f1 f2 f3 := by
      intro ml mm mw ex f1 f2 f3 hY'
      unfold wY_search_47
      refine sd_adv hB h4 hp hq hn (fun nm' a b => ?_) (fun nm' a => ?_)
      · exact K1 (fun e => a ((sd_vt_end hl htT).mpr e)) _ _ _ _ _ _ _ _ b hY'
      · have e := (sd_vt_end hl htT).mp a
        rw [e] at hY'
        exact br_t rfl (H _ _ _ _ _ _ _ _ hY')
    refine br_f (by decide) (sd_weigh v4 hn hs ht (fun ex' hex => ?_))
    dsimp only
    have F : ok (sd_vt sd_z hi t) = false → sd_YF (sd_rs sd_z hi ok (sd_C pc) (t + 1)) ml mm mw f1 f2 f3 := fun e => by
      rw [sd_rs_n e]; exact hY
    have G : ok (sd_vt sd_z hi t) = true → wY_search_43 post (wY_search_7 post x1 x2 x3 x4 x5 (n + 1)) x1 x2 x3 x4 x5 ml mm mw pe so ta rs pc ow nm ex' f1 f2 f3 := by
      intro e
      unfold wY_search_43
      refine sd_ynote hn (Nat.lt_of_le_of_lt (sd_rs_w t) (by omega)) (sd_C_ne hc v4) hY (fun ml mm mw f1 f2 f3 hY' => ?_)
      dsimp only
      refine A _ _ _ _ _ _ _ ?_
      rw [sd_rs_y e]; exact hY'
    refine sd_bal (fun g => ?_) (fun g => ?_)
    · have g' : ∀ p, p < 5 → sd_S so ta (sd_vt sd_z hi t) p = ow p + sd_D x1 x2 x3 p := fun p hp5 => (sd_eqD _ _ _).mp ((hex p hp5).symm.trans (g p hp5))
      refine br_f (by decide) (br_c (fun z => G ((hok _).mpr ⟨g', Or.inl z⟩)) (fun z => ?_))
      rcases hx with hx | ⟨j, hj, hx⟩
      · exact absurd hx z
      · have cj : x4.toNatClampNeg = j := by rw [hx]; exact nI_clamp (by omega)
        refine ⟨by rw [hx]; exact vp_in_nI hj (by omega), br_c (fun y => G ((hok _).mpr ⟨g', Or.inr ?_⟩)) (fun y => A _ _ _ _ _ _ _ (F (Bool.eq_false_iff.mpr (fun e => ?_))))⟩
        · rw [cj] at y ⊢
          rw [← hn j hj]; exact y
        · rcases ((hok _).mp e).2 with q | q
          · exact z q
          · rw [cj] at y q
            exact y ((hn j hj).trans q)
    · refine br_t rfl (A _ _ _ _ _ _ _ (F (Bool.eq_false_iff.mpr (fun e => g (fun p hp5 => ?_)))))
      rw [hex p hp5]
      exact (sd_eqD _ _ _).mpr (((hok _).mp e).1 p hp5)
  induction d with
  | zero =>
    intro t ml mm mw nm ex f1 f2 f3 hd hn hY
    exact STEP 0 t _ _ _ _ _ _ _ _ (by omega) (fun e => absurd hd e) hn hY
  | succ d ih =>
    intro t ml mm mw nm ex f1 f2 f3 hd hn hY
    exact STEP (d + 1) t _ _ _ _ _ _ _ _ (by omega) (fun _ ml mm mw nm ex f1 f2 f3 a b => ih (t + 1) _ _ _ _ _ _ _ _ (by omega) a b) hn hY
theorem sd_W_pos (lo hi : Nat → Nat) : ∀ d, 0 < sd_W lo hi d := by
  intro d
  induction d with
  | zero => exact Nat.one_pos
  | succ d ih =>
    simp only [sd_W]
    exact Nat.mul_pos (Nat.succ_pos _) ih
theorem sd_search {ml mm mw : Int32} {pe so ta rs pc ow nm ex f1 f2 f3 : Nat → Int32} {x1 x2 x3 x4 x5 : Int32} {post : SY → Prop} {hi : Nat → Nat} {ok : (Nat → Nat) → Bool} (h4 : ∀ k, k < 7 → hi k ≤ 4) (hp : ∀ k, k < 7 → pe k = 0 → hi k = 0) (hq : ∀ k, k < 7 → ¬ pe k = 0 → rs k = nI (hi k)) (hs : ∀ k, k < 7 → vp_in (so k) 5) (ht : ∀ k, k < 7 → vp_in (ta k) 5) (hc : ∀ k, k < 7 → sd_P (pc k)) (hx : x4 < 0 ∨ ∃ j, j < 7 ∧ x4 = nI j)
    (hok : ∀ v, ok v = true ↔ (∀ p, p < 5 → sd_S so ta v p = ow p + sd_D x1 x2 x3 p) ∧ (x4 < 0 ∨ nI (v x4.toNatClampNeg) = x5))
    (H : ∀ (ml mm mw : Int32) (nm ex f1 f2 f3 : Nat → Int32), sd_YF (sd_rs sd_z hi ok (sd_C pc) (sd_W sd_z hi 7)) ml mm mw f1 f2 f3 → post (ml, mm, mw, pe, so, ta, rs, pc, ow, nm, ex, f1, f2, f3)) : wpY_search post (ml, mm, mw, pe, so, ta, rs, pc, ow, nm, ex, f1, f2, f3) x1 x2 x3 x4 x5 := by
  unfold wpY_search
  dsimp only
  refine sd_beg (fun nm' h => ?_)
  dsimp only
  have h1 := sd_W_pos sd_z hi 7
  exact ⟨_, sd_y7 h4 hp hq hs ht hc hx hok H (sd_W sd_z hi 7 - 1) 0 _ _ _ _ _ _ _ _ (by omega) (fun k hk => by rw [h k hk]; rfl) (Or.inl ⟨rfl, rfl, rfl, rfl⟩)⟩
