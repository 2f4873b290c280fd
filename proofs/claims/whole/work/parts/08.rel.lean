/-! the relation; the calls that change the network -/
def sd_I (pe so ta pc ro rs : Nat → Int32) : Prop := ∀ k, k < 7 → vp_in (so k) 5 ∧ vp_in (ta k) 5 ∧ sd_P (pc k) ∧ ∃ r, r ≤ 3 ∧ rs k = nI r ∧ ro k = (if pe k = 0 then 0 else nI r)
def i_Rel (k : Nat) (u : SX) (v : SY) : Prop := match u with
  | (sp, fo, bc, lc, gc, pe, so, ta, ro, pc, ow, lw, hg, wn, nu, se, fb, sb, lb) => match v with
    | (ml, mm, mw, pe', so', ta', rs, pc', ow', nm, ex, f1, f2, f3) => pe = pe' ∧ so = so' ∧ ta = ta' ∧ pc = pc' ∧ ow = ow' ∧ sd_I pe so ta pc ro rs
theorem sd_rel {k : Nat} {sp fo bc lc gc ml mm mw : Int32} {pe so ta ro pc ow lw hg wn nu se fb sb lb rs nm ex f1 f2 f3 : Nat → Int32} (I : sd_I pe so ta pc ro rs) : i_Rel k (sp, fo, bc, lc, gc, pe, so, ta, ro, pc, ow, lw, hg, wn, nu, se, fb, sb, lb) (ml, mm, mw, pe, so, ta, rs, pc, ow, nm, ex, f1, f2, f3) := by
  unfold i_Rel
  exact ⟨rfl, rfl, rfl, rfl, rfl, I⟩
theorem i_up {k : Nat} {u : SX} {v : SY} (h : i_Rel k u v) : i_Rel (k + 4) u v := h
theorem sd_v0 : vp_in 0 5 := vp_in_nI (n := 0) (by decide) (by decide)
theorem i_vc0 : wpX_init (fun u => wpY_init (fun v => i_Rel 0 u v)) := by
  unfold wpX_init wpY_init
  exact sd_rel (fun k _ => ⟨sd_v0, sd_v0, ⟨0, by decide, by decide, rfl⟩, 0, by decide, rfl, (if_pos rfl).symm⟩)
theorem sd_I_set {pe so ta pc ro rs pe' so' ta' pc' ro' rs' : Nat → Int32} {j : Nat} (I : sd_I pe so ta pc ro rs) (h : ∀ k, k ≠ j → pe' k = pe k ∧ so' k = so k ∧ ta' k = ta k ∧ pc' k = pc k ∧ ro' k = ro k ∧ rs' k = rs k) (hj : vp_in (so' j) 5 ∧ vp_in (ta' j) 5 ∧ sd_P (pc' j) ∧ ∃ r, r ≤ 3 ∧ rs' j = nI r ∧ ro' j = (if pe' j = 0 then 0 else nI r)) : sd_I pe' so' ta' pc' ro' rs' := by
  intro k hk
  by_cases z : k = j
  · rw [z]; exact hj
  · obtain ⟨a, b, c, d, e, f⟩ := h k z
    rw [a, b, c, d, e, f]
    exact I k hk
/-- a line that is there -/
def sd_L (pe : Nat → Int32) (x : Int32) : Prop := ∃ j, j < 7 ∧ x = nI j ∧ ¬ pe j = 0
theorem sd_isL {sp fo bc lc gc : Int32} {pe so ta ro pc ow lw hg wn nu se fb sb lb : Nat → Int32} {post : Int32 → Prop} {x : Int32} (h1 : sd_L pe x → post 1) (h0 : ¬ sd_L pe x → post 0) : wpX_isLine post (sp, fo, bc, lc, gc, pe, so, ta, ro, pc, ow, lw, hg, wn, nu, se, fb, sb, lb) x := by
  unfold wpX_isLine
  dsimp only
  rcases pk_ix x (n := 7) (by decide) with a | a | ⟨j, hj, rfl⟩
  · exact br_t a (h0 (fun ⟨j, hj, e, _⟩ => by rw [e] at a; exact nI_pos (by omega) a))
  · have b : ¬ x < 0 := fun z => absurd (Int32.lt_of_le_of_lt a z) (by decide)
    exact br_f b (br_t a (h0 (fun ⟨j, hj, e, _⟩ => by rw [e] at a; exact sd_7n hj a)))
  · have cj : (nI j).toNatClampNeg = j := nI_clamp (by omega)
    refine br_f (nI_pos (by omega)) (br_f (sd_7n hj) ⟨vp_in_nI hj (by omega), ?_⟩)
    rw [cj]
    exact br_c (fun z => h0 (fun ⟨i, hi, e, g⟩ => g (by rw [← (nI_eq (by omega) (by omega)).mp e]; exact z))) (fun z => h1 ⟨j, hj, rfl, z⟩)
theorem sd_isY {ml mm mw : Int32} {pe so ta rs pc ow nm ex f1 f2 f3 : Nat → Int32} {post : Int32 → Prop} {x : Int32} (h1 : sd_L pe x → post 1) (h0 : ¬ sd_L pe x → post 0) : wpY_is post (ml, mm, mw, pe, so, ta, rs, pc, ow, nm, ex, f1, f2, f3) x := by
  unfold wpY_is
  dsimp only
  rcases pk_ix x (n := 7) (by decide) with a | a | ⟨j, hj, rfl⟩
  · exact br_t a (h0 (fun ⟨j, hj, e, _⟩ => by rw [e] at a; exact nI_pos (by omega) a))
  · have b : ¬ x < 0 := fun z => absurd (Int32.lt_of_le_of_lt a z) (by decide)
    have c : (6 : Int32) < x := Int32.lt_of_lt_of_le (by decide) a
    exact br_f b (br_t c (h0 (fun ⟨j, hj, e, _⟩ => by rw [e] at a; exact sd_7n hj a)))
  · have cj : (nI j).toNatClampNeg = j := nI_clamp (by omega)
    refine br_f (nI_pos (by omega)) (br_f (nI_nlt (b := j) (a := 6) (by omega) (by decide)) ⟨vp_in_nI hj (by omega), ?_⟩)
    rw [cj]
    exact br_c (fun z => h0 (fun ⟨i, hi, e, g⟩ => g (by rw [← (nI_eq (by omega) (by omega)).mp e]; exact z))) (fun z => h1 ⟨j, hj, rfl, z⟩)
def sd_Pl (x : Int32) : Prop := ∃ j, j < 5 ∧ x = nI j
theorem sd_pl3 (x : Int32) : (x < 0 ∧ ¬ sd_Pl x) ∨ (¬ x < 0 ∧ (5 : Int32) ≤ x ∧ (4 : Int32) < x ∧ ¬ sd_Pl x) ∨ (¬ x < 0 ∧ ¬ (5 : Int32) ≤ x ∧ ¬ (4 : Int32) < x ∧ sd_Pl x) := by
  rcases pk_ix x (n := 5) (by decide) with a | a | ⟨j, hj, rfl⟩
  · exact Or.inl ⟨a, fun ⟨j, hj, e⟩ => by rw [e] at a; exact nI_pos (by omega) a⟩
  · exact Or.inr (Or.inl ⟨fun z => absurd (Int32.lt_of_le_of_lt a z) (by decide), a, Int32.lt_of_lt_of_le (by decide) a, fun ⟨j, hj, e⟩ => by rw [e] at a; exact sd_5n hj a⟩)
  · exact Or.inr (Or.inr ⟨nI_pos (by omega), sd_5n hj, Int32.not_lt.mpr (nI_le (b := 4) (by omega) (by decide)), j, hj, rfl⟩)
theorem sd_isP {sp fo bc lc gc : Int32} {pe so ta ro pc ow lw hg wn nu se fb sb lb : Nat → Int32} {post : Int32 → Prop} {x : Int32} (h1 : sd_Pl x → post 1) (h0 : ¬ sd_Pl x → post 0) : wpX_isPlace post (sp, fo, bc, lc, gc, pe, so, ta, ro, pc, ow, lw, hg, wn, nu, se, fb, sb, lb) x := by
  unfold wpX_isPlace
  dsimp only
  rcases sd_pl3 x with ⟨a, b⟩ | ⟨a, b, c, d⟩ | ⟨a, b, c, d⟩
  · exact br_t a (h0 b)
  · exact br_f a (br_t b (h0 d))
  · exact br_f a (br_f b (h1 d))
theorem sd_plY {ml mm mw : Int32} {pe so ta rs pc ow nm ex f1 f2 f3 : Nat → Int32} {post : Int32 → Prop} {x : Int32} (h1 : sd_Pl x → post 1) (h0 : ¬ sd_Pl x → post 0) : wpY_place post (ml, mm, mw, pe, so, ta, rs, pc, ow, nm, ex, f1, f2, f3) x := by
  unfold wpY_place
  dsimp only
  rcases sd_pl3 x with ⟨a, b⟩ | ⟨a, b, c, d⟩ | ⟨a, b, c, d⟩
  · exact br_t a (h0 b)
  · exact br_f a (br_t c (h0 d))
  · exact br_f a (br_f c (h1 d))
/-- two places that differ -/
def sd_T (x y : Int32) : Prop := sd_Pl x ∧ sd_Pl y ∧ ¬ x = y
theorem sd_two {sp fo bc lc gc : Int32} {pe so ta ro pc ow lw hg wn nu se fb sb lb : Nat → Int32} {post : Int32 → Prop} {x y : Int32} (h1 : sd_T x y → post 1) (h0 : ¬ sd_T x y → post 0) : wpX_areTwoPlaces post (sp, fo, bc, lc, gc, pe, so, ta, ro, pc, ow, lw, hg, wn, nu, se, fb, sb, lb) x y := by
  unfold wpX_areTwoPlaces
  dsimp only
  refine sd_isP (fun a => br_f (by decide) (sd_isP (fun b => br_f (by decide) (br_c (fun e => h0 (fun t => t.2.2 e)) (fun e => h1 ⟨a, b, e⟩))) (fun b => br_t rfl (h0 (fun t => b t.2.1))))) (fun a => br_t rfl (h0 (fun t => a t.1)))
def sd_Wh (x : Int32) : Prop := ∃ w, w ≤ 75 ∧ x = nI w
theorem sd_wh3 (x : Int32) : (x < 0 ∧ ¬ sd_Wh x) ∨ (¬ x < 0 ∧ (75 : Int32) < x ∧ ¬ x ≤ 75 ∧ ¬ sd_Wh x) ∨ (¬ x < 0 ∧ ¬ (75 : Int32) < x ∧ x ≤ 75 ∧ sd_Wh x) := by
  rcases pk_ix x (n := 76) (by decide) with a | a | ⟨j, hj, rfl⟩
  · exact Or.inl ⟨a, fun ⟨j, hj, e⟩ => by rw [e] at a; exact nI_pos (by omega) a⟩
  · have c : (75 : Int32) < x := Int32.lt_of_lt_of_le (by decide) a
    exact Or.inr (Or.inl ⟨fun z => absurd (Int32.lt_of_le_of_lt a z) (by decide), c, Int32.not_le.mpr c, fun ⟨j, hj, e⟩ => by rw [e] at c; exact nI_nlt (b := j) (a := 75) hj (by decide) c⟩)
  · have c : nI j ≤ 75 := nI_le (b := 75) (by omega) (by decide)
    exact Or.inr (Or.inr ⟨nI_pos (by omega), Int32.not_lt.mpr c, c, j, by omega, rfl⟩)
theorem sd_isW {sp fo bc lc gc : Int32} {pe so ta ro pc ow lw hg wn nu se fb sb lb : Nat → Int32} {post : Int32 → Prop} {x : Int32} (h1 : sd_Wh x → post 1) (h0 : ¬ sd_Wh x → post 0) : wpX_isWhat post (sp, fo, bc, lc, gc, pe, so, ta, ro, pc, ow, lw, hg, wn, nu, se, fb, sb, lb) x := by
  unfold wpX_isWhat
  dsimp only
  rcases sd_wh3 x with ⟨a, b⟩ | ⟨a, b, c, d⟩ | ⟨a, b, c, d⟩
  · exact br_t a (h0 b)
  · exact br_f a (br_t b (h0 d))
  · exact br_f a (br_f b (h1 d))
theorem sd_fl2 {sp fo bc lc gc : Int32} {pe so ta ro pc ow lw hg wn nu se fb sb lb : Nat → Int32} {post : Int32 → Prop} (h7 : (∀ k, k < 7 → ¬ pe k = 0) → post 7) (hj : ∀ j, j < 7 → pe j = 0 → (∀ k, k < j → ¬ pe k = 0) → post (nI j)) : ∀ d j : Nat, j + d = 7 → (∀ k, k < j → ¬ pe k = 0) → wX_freeLine_2 post sp fo bc lc gc pe so ta ro pc ow lw hg wn nu se fb sb lb (d + 1) (nI j) := by
  intro d
  induction d with
  | zero =>
    intro j e h
    obtain rfl : j = 7 := by omega
    exact br_t sd_7y (h7 h)
  | succ d ih =>
    intro j e h
    have cj : (nI j).toNatClampNeg = j := nI_clamp (by omega)
    refine br_f (sd_7n (by omega)) ⟨vp_in_nI (by omega) (by omega), ?_⟩
    rw [cj]
    exact br_c (fun z => hj j (by omega) z h) (fun z => nm_r (nI_1 j) (ih (j + 1) (by omega) (lt_s h z)))
theorem sd_price {w : Nat} (hw : w ≤ 75) : sd_P (nI w / 4 - 9) := by
  refine ⟨(w / 4 : Nat) - 9, by omega, by omega, ?_⟩
  have e : nI w / 4 = nI (w / 4) := pk_div (d := 4) (by omega) (by decide) (by decide)
  rw [e, Int32.ofInt_sub, Int32.ofInt_eq_ofNat]
  rfl
theorem sd_room {w : Nat} (hw : w ≤ 75) : nI w - nI w / 4 * 4 = nI (w % 4) := pk_rem (d := 4) (by omega) (by decide) (by decide)
theorem sd_n4 : ¬ (4 : Int32) = 0 := by decide
theorem sd_nr1 : vp_nar .boolean 1 = 1 := by first | rfl | decide
theorem sd_nr0 : vp_nar .boolean 0 = 0 := by first | rfl | decide
