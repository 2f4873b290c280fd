/-! add, remove, change, balance, lines -/
theorem sd_ya36 {ml mm mw : Int32} {pe so ta rs pc ow nm ex f1 f2 f3 : Nat → Int32} {x1 x2 x3 : Int32} {post : Int32 → SY → Prop} (h7 : (∀ k, k < 7 → ¬ pe k = 0) → post (-2) (ml, mm, mw, pe, so, ta, rs, pc, ow, nm, ex, f1, f2, f3)) (hj : ∀ j, j < 7 → pe j = 0 → (∀ k, k < j → ¬ pe k = 0) → post (nI j) (ml, mm, mw, upd pe j (vp_nar .boolean 1), upd so j x1, upd ta j x2, upd rs j (x3 - x3 / 4 * 4), upd pc j (x3 / 4 - 9), ow, nm, ex, f1, f2, f3)) : ∀ d j : Nat, j + d = 7 → (∀ k, k < j → ¬ pe k = 0) → wY_add_36 post x1 x2 x3 ml mm mw pe so ta rs pc ow nm ex f1 f2 f3 (d + 1) (nI j) := by
  intro d
  induction d with
  | zero =>
    intro j e h
    obtain rfl : j = 7 := by omega
    exact br_t sd_7y (h7 h)
  | succ d ih =>
    intro j e h
    have cj : (nI j).toNatClampNeg = j := nI_clamp (by omega)
    have vj : vp_in (nI j) 7 := vp_in_nI (by omega) (by omega)
    refine br_f (sd_7n (by omega)) ⟨vj, ?_⟩
    rw [cj]
    refine br_c (fun z => ⟨vj, nm_e ⟨vj, nm_e ⟨vj, nm_e ?_⟩⟩⟩) (fun z => nm_r (nI_1 j) (ih (j + 1) (by omega) (lt_s h z)))
    unfold wpY_give
    dsimp only
    rw [cj]
    exact ⟨sd_n4, vj, nm_e ⟨sd_n4, vj, nm_e (hj j (by omega) z h)⟩⟩
theorem sd_addY {ml mm mw : Int32} {pe so ta rs pc ow nm ex f1 f2 f3 : Nat → Int32} {x1 x2 x3 : Int32} {post : Int32 → SY → Prop} (ht : sd_T x1 x2) (hw : sd_Wh x3) (h7 : (∀ k, k < 7 → ¬ pe k = 0) → post (-2) (ml, mm, mw, pe, so, ta, rs, pc, ow, nm, ex, f1, f2, f3)) (hj : ∀ j, j < 7 → pe j = 0 → (∀ k, k < j → ¬ pe k = 0) → post (nI j) (ml, mm, mw, upd pe j (vp_nar .boolean 1), upd so j x1, upd ta j x2, upd rs j (x3 - x3 / 4 * 4), upd pc j (x3 / 4 - 9), ow, nm, ex, f1, f2, f3)) : wpY_add post (ml, mm, mw, pe, so, ta, rs, pc, ow, nm, ex, f1, f2, f3) x1 x2 x3 := by
  unfold wpY_add
  dsimp only
  refine br_f ht.2.2 (sd_plY (fun _ => br_f (by decide) (sd_plY (fun _ => br_f (by decide) ?_) (fun g => absurd ht.2.1 g))) (fun g => absurd ht.1 g))
  rcases sd_wh3 x3 with ⟨a, b⟩ | ⟨a, b, c, d⟩ | ⟨a, b, c, d⟩
  · exact absurd hw b
  · exact absurd hw d
  · exact br_f a (br_t c ⟨8, sd_ya36 h7 hj 7 0 rfl lt_0⟩)
theorem sd_addB {ml mm mw : Int32} {pe so ta rs pc ow nm ex f1 f2 f3 : Nat → Int32} {x1 x2 x3 : Int32} {post : Int32 → SY → Prop} (h : ¬ (sd_T x1 x2 ∧ sd_Wh x3)) (H : post (-1) (ml, mm, mw, pe, so, ta, rs, pc, ow, nm, ex, f1, f2, f3)) : wpY_add post (ml, mm, mw, pe, so, ta, rs, pc, ow, nm, ex, f1, f2, f3) x1 x2 x3 := by
  unfold wpY_add
  dsimp only
  refine br_c (fun _ => H) (fun e => sd_plY (fun p1 => br_f (by decide) (sd_plY (fun p2 => br_f (by decide) ?_) (fun _ => br_t rfl H))) (fun _ => br_t rfl H))
  rcases sd_wh3 x3 with ⟨a, b⟩ | ⟨a, b, c, d⟩ | ⟨a, b, c, d⟩
  · exact br_t a H
  · exact br_f a (br_f c H)
  · exact absurd ⟨⟨p1, p2, e⟩, d⟩ h
theorem sd_uo {f : Nat → Int32} {j k : Nat} {x : Int32} (h : k ≠ j) : upd f j x k = f k := pk_un h
theorem sd_vPl {x : Int32} (h : sd_Pl x) : vp_in x 5 := by
  obtain ⟨j, hj, rfl⟩ := h
  exact vp_in_nI hj (by omega)
theorem i_vc_add {k : Nat} {u : SX} {v : SY} (I : i_Rel k u v) (hk : k + 4 ≤ 2048) (v1 : Int32) (v2 : Int32) (v3 : Int32) : wpX_add (fun r u' => wpY_add (fun r' v' => r' = r ∧ i_Rel (k + 4) u' v') v v1 v2 v3) u v1 v2 v3 := by
  obtain ⟨sp, fo, bc, lc, gc, pe, so, ta, ro, pc, ow, lw, hg, wn, nu, se, fb, sb, lb⟩ := u
  obtain ⟨ml, mm, mw, pe', so', ta', rs, pc', ow', nm, ex, f1, f2, f3⟩ := v
  obtain ⟨rfl, rfl, rfl, rfl, rfl, I⟩ := I
  unfold wpX_add
  dsimp only
  refine sd_two (fun t => br_f (by decide) (sd_isW (fun w => br_f (by decide) ⟨8, sd_fl2 (fun full => ?_) (fun j hj z h => ?_) 7 0 rfl lt_0⟩) (fun w => br_t rfl ?_))) (fun t => br_t rfl ?_)
  · exact br_t rfl (sd_addY t w (fun _ => ⟨rfl, sd_rel I⟩) (fun i hi z _ => absurd z (full i hi)))
  · have cj : (nI j).toNatClampNeg = j := nI_clamp (by omega)
    have vj : vp_in (nI j) 7 := vp_in_nI hj (by omega)
    have n7 : ¬ nI j = 7 := fun e => by
      have := (nI_eq (a := j) (b := 7) (by omega) (by decide)).mp e
      omega
    refine br_f n7 ⟨vj, nm_e ⟨vj, nm_e ⟨vj, nm_e ?_⟩⟩⟩
    unfold wpX_setRoomAndPrice
    dsimp only
    rw [cj]
    refine ⟨sd_n4, vj, nm_e ⟨sd_n4, vj, nm_e ?_⟩⟩
    refine sd_addY t w (fun full => absurd z (full j hj)) (fun i hi zi h' => ?_)
    have eij : i = j := by
      rcases Nat.lt_trichotomy i j with g | g | g
      · exact absurd zi (h i g)
      · exact g
      · exact absurd z (h' j g)
    subst eij
    refine ⟨rfl, sd_rel (sd_I_set (j := i) I (fun n hn => ⟨sd_uo hn, sd_uo hn, sd_uo hn, sd_uo hn, sd_uo hn, sd_uo hn⟩) ?_)⟩
    obtain ⟨m, hm, rfl⟩ := w
    rw [pk_us, pk_us, pk_us, pk_us, pk_us, pk_us, sd_nr1]
    exact ⟨sd_vPl t.1, sd_vPl t.2.1, sd_price hm, m % 4, by omega, sd_room hm, (sd_room hm).trans (if_neg (by decide : ¬ (1 : Int32) = 0)).symm⟩
  · exact sd_addB (fun g => w g.2) ⟨rfl, sd_rel I⟩
  · exact sd_addB (fun g => t g.1) ⟨rfl, sd_rel I⟩
theorem i_vc_remove {k : Nat} {u : SX} {v : SY} (I : i_Rel k u v) (hk : k + 4 ≤ 2048) (v1 : Int32) : wpX_remove (fun r u' => wpY_remove (fun r' v' => r' = r ∧ i_Rel (k + 4) u' v') v v1) u v1 := by
  obtain ⟨sp, fo, bc, lc, gc, pe, so, ta, ro, pc, ow, lw, hg, wn, nu, se, fb, sb, lb⟩ := u
  obtain ⟨ml, mm, mw, pe', so', ta', rs, pc', ow', nm, ex, f1, f2, f3⟩ := v
  obtain ⟨rfl, rfl, rfl, rfl, rfl, I⟩ := I
  unfold wpX_remove wpY_remove
  dsimp only
  refine sd_isL (fun L => br_f (by decide) ?_) (fun L => br_t rfl (sd_isY (fun g => absurd g L) (fun _ => br_t rfl ⟨rfl, sd_rel I⟩)))
  obtain ⟨j, hj, rfl, hp⟩ := id L
  have cj : (nI j).toNatClampNeg = j := nI_clamp (by omega)
  have vj : vp_in (nI j) 7 := vp_in_nI hj (by omega)
  refine ⟨vj, nm_e ⟨vj, nm_e (sd_isY (fun _ => br_f (by decide) ⟨vj, nm_e ⟨rfl, sd_rel ?_⟩⟩) (fun g => absurd L g))⟩⟩
  rw [cj, sd_nr0]
  refine sd_I_set (j := j) I (fun n hn => ⟨sd_uo hn, rfl, rfl, rfl, sd_uo hn, rfl⟩) ?_
  obtain ⟨a, b, c, r, hr, d, e⟩ := I j hj
  rw [pk_us, pk_us]
  exact ⟨a, b, c, r, hr, d, (if_pos rfl).symm⟩
theorem i_vc_change {k : Nat} {u : SX} {v : SY} (I : i_Rel k u v) (hk : k + 4 ≤ 2048) (v1 : Int32) (v2 : Int32) : wpX_change (fun r u' => wpY_change (fun r' v' => r' = r ∧ i_Rel (k + 4) u' v') v v1 v2) u v1 v2 := by
  obtain ⟨sp, fo, bc, lc, gc, pe, so, ta, ro, pc, ow, lw, hg, wn, nu, se, fb, sb, lb⟩ := u
  obtain ⟨ml, mm, mw, pe', so', ta', rs, pc', ow', nm, ex, f1, f2, f3⟩ := v
  obtain ⟨rfl, rfl, rfl, rfl, rfl, I⟩ := I
  unfold wpX_change wpY_change
  dsimp only
  refine sd_isL (fun L => br_f (by decide) (sd_isW (fun w => br_f (by decide) ?_) (fun w => br_t rfl (sd_isY (fun _ => br_f (by decide) ?_) (fun g => absurd L g))))) (fun L => br_t rfl (sd_isY (fun g => absurd g L) (fun _ => br_t rfl ⟨rfl, sd_rel I⟩)))
  · obtain ⟨j, hj, rfl, hp⟩ := id L
    have cj : (nI j).toNatClampNeg = j := nI_clamp (by omega)
    have vj : vp_in (nI j) 7 := vp_in_nI hj (by omega)
    unfold wpX_setRoomAndPrice
    dsimp only
    rw [cj]
    refine ⟨sd_n4, vj, nm_e ⟨sd_n4, vj, nm_e (sd_isY (fun _ => br_f (by decide) ?_) (fun g => absurd L g))⟩⟩
    rcases sd_wh3 v2 with ⟨a, b⟩ | ⟨a, b, c, d⟩ | ⟨a, b, c, d⟩
    · exact absurd w b
    · exact absurd w d
    · refine br_f a (br_t c ?_)
      unfold wpY_give
      dsimp only
      rw [cj]
      refine ⟨sd_n4, vj, nm_e ⟨sd_n4, vj, nm_e ⟨rfl, sd_rel (sd_I_set (j := j) I (fun n hn => ⟨rfl, rfl, rfl, sd_uo hn, sd_uo hn, sd_uo hn⟩) ?_)⟩⟩⟩
      obtain ⟨m, hm, rfl⟩ := w
      obtain ⟨a1, a2, _⟩ := I j hj
      rw [pk_us, pk_us, pk_us]
      exact ⟨a1, a2, sd_price hm, m % 4, by omega, sd_room hm, (sd_room hm).trans (if_neg hp).symm⟩
  · rcases sd_wh3 v2 with ⟨a, b⟩ | ⟨a, b, c, d⟩ | ⟨a, b, c, d⟩
    · exact br_t a ⟨rfl, sd_rel I⟩
    · exact br_f a (br_f c ⟨rfl, sd_rel I⟩)
    · exact absurd d w
theorem i_vc_balance {k : Nat} {u : SX} {v : SY} (I : i_Rel k u v) (hk : k + 4 ≤ 2048) (v1 : Int32) (v2 : Int32) : wpX_balance (fun r u' => wpY_balance (fun r' v' => r' = r ∧ i_Rel (k + 4) u' v') v v1 v2) u v1 v2 := by
  obtain ⟨sp, fo, bc, lc, gc, pe, so, ta, ro, pc, ow, lw, hg, wn, nu, se, fb, sb, lb⟩ := u
  obtain ⟨ml, mm, mw, pe', so', ta', rs, pc', ow', nm, ex, f1, f2, f3⟩ := v
  obtain ⟨rfl, rfl, rfl, rfl, rfl, I⟩ := I
  unfold wpX_balance wpY_balance
  dsimp only
  refine sd_isP (fun p => br_f (by decide) (br_c (fun a => ?_) (fun a => br_c (fun b => ⟨sd_vPl p, nm_e ?_⟩) (fun b => ?_)))) (fun p => br_t rfl (sd_plY (fun g => absurd g p) (fun _ => br_t rfl ⟨rfl, sd_rel I⟩)))
  · exact sd_plY (fun _ => br_f (by decide) (br_t a ⟨rfl, sd_rel I⟩)) (fun g => absurd p g)
  · exact sd_plY (fun _ => br_f (by decide) (br_f a (br_t b ⟨sd_vPl p, nm_e ⟨rfl, sd_rel I⟩⟩))) (fun g => absurd p g)
  · exact sd_plY (fun _ => br_f (by decide) (br_f a (br_f b ⟨rfl, sd_rel I⟩))) (fun g => absurd p g)
theorem sd_lines {sp fo bc lc gc ml mm mw : Int32} {pe so ta ro pc ow lw hg wn nu se fb sb lb rs nm ex f1 f2 f3 : Nat → Int32} : ∀ (d j : Nat) (x1 : Int32), j + d = 7 → ∃ r : Int32, (∀ post : Int32 → Prop, post r → wX_lines_4 post sp fo bc lc gc pe so ta ro pc ow lw hg wn nu se fb sb lb (d + 1) x1 (nI j)) ∧ (∀ post : Int32 → Prop, post r → wY_lines_4 post ml mm mw pe so ta rs pc ow nm ex f1 f2 f3 (d + 1) x1 (nI j)) := by
  intro d
  induction d with
  | zero =>
    intro j x1 hj
    obtain rfl : j = 7 := by omega
    exact ⟨x1, fun _ h => br_t sd_7y h, fun _ h => br_t sd_7y h⟩
  | succ d ih =>
    intro j x1 hj
    have vj : vp_in (nI j) 7 := vp_in_nI (by omega) (by omega)
    have n7 := sd_7n (j := j) (by omega)
    by_cases z : pe (nI j).toNatClampNeg = 0
    · obtain ⟨r, hX, hY⟩ := ih (j + 1) x1 (by omega)
      exact ⟨r, fun post h => br_f n7 ⟨vj, br_t z (nm_r (nI_1 j) (hX post h))⟩, fun post h => br_f n7 ⟨vj, br_t z (nm_r (nI_1 j) (hY post h))⟩⟩
    · obtain ⟨r, hX, hY⟩ := ih (j + 1) (x1 ||| ((1 : Int32) <<< (nI j &&& 31))) (by omega)
      exact ⟨r, fun post h => br_f n7 ⟨vj, br_f z (nm_e (nm_r (nI_1 j) (hX post h)))⟩, fun post h => br_f n7 ⟨vj, br_f z (nm_e (nm_r (nI_1 j) (hY post h)))⟩⟩
theorem i_vc_lines {k : Nat} {u : SX} {v : SY} (I : i_Rel k u v) (hk : k + 4 ≤ 2048) : wpX_lines (fun r => wpY_lines (fun r' => r' = r ∧ i_Rel (k + 4) u v) v) u := by
  obtain ⟨sp, fo, bc, lc, gc, pe, so, ta, ro, pc, ow, lw, hg, wn, nu, se, fb, sb, lb⟩ := u
  obtain ⟨ml, mm, mw, pe', so', ta', rs, pc', ow', nm, ex, f1, f2, f3⟩ := v
  obtain ⟨rfl, rfl, rfl, rfl, rfl, I⟩ := I
  obtain ⟨r, hX, hY⟩ := sd_lines (sp := sp) (fo := fo) (bc := bc) (lc := lc) (gc := gc) (ml := ml) (mm := mm) (mw := mw) (pe := pe) (so := so) (ta := ta) (ro := ro) (pc := pc) (ow := ow) (lw := lw) (hg := hg) (wn := wn) (nu := nu) (se := se) (fb := fb) (sb := sb) (lb := lb) (rs := rs) (nm := nm) (ex := ex) (f1 := f1) (f2 := f2) (f3 := f3) 7 0 0 rfl
  exact ⟨8, hX _ ⟨8, hY _ ⟨rfl, sd_rel I⟩⟩⟩
