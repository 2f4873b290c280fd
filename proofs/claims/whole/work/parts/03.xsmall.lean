/-! X: its small methods, each with a general post -/
theorem sd_7n {j : Nat} (h : j < 7) : ¬ (7 : Int32) ≤ nI j := nI_ge (b := 7) h (by decide)
theorem sd_7y : (7 : Int32) ≤ nI 7 := by decide
theorem sd_5n {j : Nat} (h : j < 5) : ¬ (5 : Int32) ≤ nI j := nI_ge (b := 5) h (by decide)
theorem sd_5y : (5 : Int32) ≤ nI 5 := by decide
theorem sd_up2 (f : Nat → Int32) (a b p : Nat) (m : Int32) : upd (upd f a (f a + m)) b (upd f a (f a + m) b - m) p = f p + (if a = p then m else 0) - (if b = p then m else 0) := by
  by_cases ha : a = p
  · subst ha
    by_cases hb : b = a
    · subst hb
      rw [pk_us, pk_us, if_pos rfl]
    · rw [pk_un (fun e => hb e.symm), pk_us, if_pos rfl, if_neg hb, Int32.sub_zero]
  · by_cases hb : b = p
    · subst hb
      rw [pk_us, pk_un (fun e => ha e.symm), if_neg ha, if_pos rfl, Int32.add_zero]
    · rw [pk_un (fun e => hb e.symm), pk_un (fun e => ha e.symm), if_neg ha, if_neg hb, Int32.add_zero, Int32.sub_zero]
theorem sd_ask35 {sp fo bc lc gc : Int32} {pe so ta ro pc ow lw hg nu se fb sb lb : Nat → Int32} {post : SX → Prop} : ∀ (d j : Nat) (wn : Nat → Int32), j + d = 5 → (∀ p, p < j → wn p = ow p) → (∀ wn' : Nat → Int32, (∀ p, p < 5 → wn' p = ow p) → post (sp, fo, bc, lc, gc, pe, so, ta, ro, pc, ow, lw, hg, wn', nu, se, fb, sb, lb)) → wX_askAsItIs_35 post sp fo bc lc gc (d + 1) (nI j) pe so ta ro pc ow lw hg wn nu se fb sb lb := by
  intro d
  induction d with
  | zero =>
    intro j wn hj h H
    obtain rfl : j = 5 := by omega
    exact br_t sd_5y (H wn h)
  | succ d ih =>
    intro j wn hj h H
    have hi : vp_in (nI j) 5 := vp_in_nI (by omega) (by omega)
    have cj : (nI j).toNatClampNeg = j := nI_clamp (by omega)
    refine br_f (sd_5n (by omega)) ⟨hi, hi, nm_e (nm_r (nI_1 j) ?_)⟩
    rw [cj]
    exact ih (j + 1) _ (by omega) (lt_s (fun p hp => by rw [pk_un (by omega)]; exact h p hp) pk_us) H
theorem sd_ask2 {sp fo bc lc gc : Int32} {pe so ta ro pc ow wn nu se fb sb lb : Nat → Int32} {post : SX → Prop} : ∀ (d j : Nat) (lw hg : Nat → Int32), j + d = 7 → (∀ k, k < j → lw k = 0) → (∀ k, k < j → hg k = ro k) → (∀ lw' hg' wn' : Nat → Int32, (∀ k, k < 7 → lw' k = 0) → (∀ k, k < 7 → hg' k = ro k) → (∀ p, p < 5 → wn' p = ow p) → post (sp, fo, bc, lc, gc, pe, so, ta, ro, pc, ow, lw', hg', wn', nu, se, fb, sb, lb)) → wX_askAsItIs_2 post sp fo bc lc gc (d + 1) (nI j) pe so ta ro pc ow lw hg wn nu se fb sb lb := by
  intro d
  induction d with
  | zero =>
    intro j lw hg hj h1 h2 H
    obtain rfl : j = 7 := by omega
    exact br_t sd_7y ⟨6, sd_ask35 5 0 wn rfl lt_0 (fun wn' h3 => H lw hg wn' h1 h2 h3)⟩
  | succ d ih =>
    intro j lw hg hj h1 h2 H
    have hi : vp_in (nI j) 7 := vp_in_nI (by omega) (by omega)
    have cj : (nI j).toNatClampNeg = j := nI_clamp (by omega)
    refine br_f (sd_7n (by omega)) ⟨hi, nm_e ⟨hi, hi, nm_e (nm_r (nI_1 j) ?_)⟩⟩
    rw [cj]
    exact ih (j + 1) _ _ (by omega) (lt_s (fun p hp => by rw [pk_un (by omega)]; exact h1 p hp) pk_us) (lt_s (fun p hp => by rw [pk_un (by omega)]; exact h2 p hp) pk_us) H
theorem sd_ask {sp fo bc lc gc : Int32} {pe so ta ro pc ow lw hg wn nu se fb sb lb : Nat → Int32} {post : SX → Prop} (H : ∀ lw' hg' wn' : Nat → Int32, (∀ k, k < 7 → lw' k = 0) → (∀ k, k < 7 → hg' k = ro k) → (∀ p, p < 5 → wn' p = ow p) → post (sp, fo, bc, lc, gc, pe, so, ta, ro, pc, ow, lw', hg', wn', nu, se, fb, sb, lb)) : wpX_askAsItIs post (sp, fo, bc, lc, gc, pe, so, ta, ro, pc, ow, lw, hg, wn, nu, se, fb, sb, lb) :=
  ⟨8, sd_ask2 7 0 lw hg rfl lt_0 lt_0 H⟩
/-- sums and cost of the vector v -/
def sd_M (so ta pc : Nat → Int32) (v : Nat → Nat) (se : Nat → Int32) (sp : Int32) : Prop := (∀ p, p < 5 → se p = sd_S so ta v p) ∧ sp = sd_C pc v
theorem sd_M_c {so ta pc : Nat → Int32} {v w : Nat → Nat} {se : Nat → Int32} {sp : Int32} (h : ∀ k, k < 7 → v k = w k) (hM : sd_M so ta pc v se sp) : sd_M so ta pc w se sp :=
  ⟨fun p hp => by rw [hM.1 p hp]; exact sd_S_c h, by rw [hM.2]; exact sd_C_c h⟩
theorem sd_give {sp fo bc lc gc : Int32} {pe so ta ro pc ow lw hg wn nu se fb sb lb : Nat → Int32} {post : SX → Prop} {v w : Nat → Nat} {k : Nat} {n : Int32} (hk : k < 7) (hs : vp_in (so k) 5) (ht : vp_in (ta k) 5) (hw : ∀ j, j < 7 → j ≠ k → w j = v j) (en : n = nI (w k)) (hn : nu k = nI (v k)) (hM : sd_M so ta pc v se sp) (H : ∀ (se' : Nat → Int32) (sp' : Int32), sd_M so ta pc w se' sp' → post (sp', fo, bc, lc, gc, pe, so, ta, ro, pc, ow, lw, hg, wn, upd nu k (nI (w k)), se', fb, sb, lb)) : wpX_giveNumber post (sp, fo, bc, lc, gc, pe, so, ta, ro, pc, ow, lw, hg, wn, nu, se, fb, sb, lb) (nI k) n := by
  have ck : (nI k).toNatClampNeg = k := nI_clamp (by omega)
  have hi : vp_in (nI k) 7 := vp_in_nI hk (by omega)
  subst en
  unfold wpX_giveNumber
  dsimp only
  rw [ck]
  refine ⟨hi, nm_e ⟨hi, nm_e ⟨hi, hs, hs, nm_e ⟨hi, ht, ht, nm_e ⟨hi, nm_e (H _ _ ⟨fun p hp => ?_, ?_⟩)⟩⟩⟩⟩⟩
  · rw [sd_S_1 hk hw, ← hM.1 p hp, hn]; exact sd_up2 _ _ _ _ _
  · rw [sd_C_1 hk hw, hM.2, hn]
/-! startTrials -/
def sd_pp (lo hi : Nat → Nat) : Nat → Nat
  | 0 => 1
  | n + 1 => sd_pp lo hi n * (hi n - lo n + 1)
theorem sd_pp_W (lo hi : Nat → Nat) : ∀ i, i ≤ 7 → sd_pp lo hi i * sd_W lo hi (7 - i) = sd_W lo hi 7 := by
  intro i
  induction i with
  | zero => intro _; exact Nat.one_mul _
  | succ i ih =>
    intro h
    have e := ih (by omega)
    have z : 7 - i = (7 - (i + 1)) + 1 := by omega
    have y : 6 - (7 - (i + 1)) = i := by omega
    rw [z] at e
    simp only [sd_W] at e
    rw [y, ← Nat.mul_assoc] at e
    exact e
theorem sd_pp_7 (lo hi : Nat → Nat) : sd_pp lo hi 7 = sd_W lo hi 7 := by
  have e := sd_pp_W lo hi 7 (Nat.le_refl 7)
  rw [Nat.sub_self] at e
  exact (Nat.mul_one _).symm.trans e
theorem sd_W_le {lo hi : Nat → Nat} (h : ∀ k, k < 7 → hi k ≤ 4) : ∀ d, d ≤ 7 → sd_W lo hi d ≤ 5 ^ d := by
  intro d
  induction d with
  | zero => intro _; exact Nat.le_refl 1
  | succ d ih =>
    intro hd
    have a := ih (by omega)
    have b := h (6 - d) (by omega)
    simp only [sd_W]
    rw [Nat.pow_succ, Nat.mul_comm (5 ^ d) 5]
    exact Nat.mul_le_mul (by omega) a
theorem sd_W_7 {lo hi : Nat → Nat} (h : ∀ k, k < 7 → hi k ≤ 4) : sd_W lo hi 7 < 2 ^ 31 :=
  Nat.lt_of_le_of_lt (sd_W_le h 7 (Nat.le_refl 7)) (by decide)
theorem sd_sum_0 {f : Nat → Int32} (n : Nat) (h : ∀ j, j < n → f j = 0) : sd_sum f n = 0 := by
  induction n with
  | zero => rfl
  | succ n ih =>
    simp only [sd_sum]
    rw [ih (fun j hj => h j (by omega)), h n (by omega), Int32.add_zero]
theorem sd_M_0 {so ta pc : Nat → Int32} {v : Nat → Nat} {se : Nat → Int32} (hv : ∀ k, k < 7 → v k = 0) (h : ∀ p, p < 5 → se p = 0) : sd_M so ta pc v se 0 := by
  refine ⟨fun p hp => ?_, ?_⟩
  · rw [h p hp]
    unfold sd_S
    refine (sd_sum_0 7 (fun j hj => ?_)).symm
    rw [hv j hj, nI_0, ite_self, ite_self, Int32.sub_zero]
  · unfold sd_C
    refine (sd_sum_0 7 (fun j hj => ?_)).symm
    rw [hv j hj, nI_0, Int32.zero_mul]
def sd_iv (lo : Nat → Nat) (i : Nat) : Nat → Nat := fun j => if j < i then lo j else 0
theorem sd_st29 {fo bc lc gc : Int32} {pe so ta ro pc ow lw hg wn fb sb lb : Nat → Int32} {post : Int32 → SX → Prop} {lo hi : Nat → Nat} (hl : ∀ k, k < 7 → lo k ≤ hi k) (hlw : ∀ k, k < 7 → lw k = nI (lo k)) (hhg : ∀ k, k < 7 → hg k = nI (hi k)) (hs : ∀ k, k < 7 → vp_in (so k) 5) (ht : ∀ k, k < 7 → vp_in (ta k) 5) : ∀ (d i : Nat) (sp : Int32) (nu se : Nat → Int32), i + d = 7 → (∀ k, k < i → nu k = nI (lo k)) → sd_M so ta pc (sd_iv lo i) se sp → (∀ (sp' : Int32) (nu' se' : Nat → Int32), (∀ k, k < 7 → nu' k = nI (lo k)) → sd_M so ta pc lo se' sp' → post (nI (sd_W lo hi 7)) (sp', fo, bc, lc, gc, pe, so, ta, ro, pc, ow, lw, hg, wn, nu', se', fb, sb, lb)) → wX_startTrials_29 post (d + 1) (nI (sd_pp lo hi i)) (nI i) sp fo bc lc gc pe so ta ro pc ow lw hg wn nu se fb sb lb := by
  intro d
  induction d with
  | zero =>
    intro i sp nu se hi' hn hM H
    obtain rfl : i = 7 := by omega
    rw [sd_pp_7]
    exact br_t sd_7y (H sp nu se hn (sd_M_c (fun k hk => if_pos hk) hM))
  | succ d ih =>
    intro i sp nu se hi' hn hM H
    have hin : vp_in (nI i) 7 := vp_in_nI (by omega) (by omega)
    have ci : (nI i).toNatClampNeg = i := nI_clamp (by omega)
    refine br_f (sd_7n (by omega)) ⟨hin, nm_e ⟨hin, ?_⟩⟩
    rw [ci]
    refine sd_give (v := sd_iv lo i) (w := sd_iv lo (i + 1)) (by omega) (hs i (by omega)) (ht i (by omega)) (fun j hj hne => ?_) ?_ ?_ hM (fun se' sp' hM' => ?_)
    · unfold sd_iv
      by_cases z : j < i
      · rw [if_pos z, if_pos (by omega)]
      · rw [if_neg z, if_neg (by omega)]
    · rw [hlw i (by omega)]
      exact congrArg nI (if_pos (Nat.lt_succ_self i)).symm
    · rw [pk_us]
      exact (congrArg nI (if_neg (Nat.lt_irrefl i) : sd_iv lo i i = 0)).symm
    · dsimp only
      have e1 : nI (sd_pp lo hi i) * (hg i - lw i + 1) = nI (sd_pp lo hi (i + 1)) := by
        rw [hlw i (by omega), hhg i (by omega), pk_sub (hl i (by omega)), nI_1, pk_mul]
        rfl
      refine ⟨hin, hin, nm_r e1 (nm_r (nI_1 i) ?_)⟩
      refine ih (i + 1) sp' _ se' (by omega) (lt_s (fun k hk => ?_) ?_) hM' H
      · rw [pk_un (by omega), pk_un (by omega)]; exact hn k hk
      · rw [pk_us]; exact congrArg nI (if_pos (Nat.lt_succ_self i))
theorem sd_st9 {sp fo bc lc gc : Int32} {pe so ta ro pc ow lw hg wn nu fb sb lb : Nat → Int32} {x1 : Int32} {post : Int32 → SX → Prop} : ∀ (d j : Nat) (se : Nat → Int32), j + d = 5 → (∀ p, p < j → se p = 0) → (∀ se' : Nat → Int32, (∀ p, p < 5 → se' p = 0) → ∃ n, wX_startTrials_29 post n x1 0 sp fo bc lc gc pe so ta ro pc ow lw hg wn nu se' fb sb lb) → wX_startTrials_9 post x1 sp fo bc lc gc (d + 1) (nI j) pe so ta ro pc ow lw hg wn nu se fb sb lb := by
  intro d
  induction d with
  | zero =>
    intro j se hj h H
    obtain rfl : j = 5 := by omega
    exact br_t sd_5y (H se h)
  | succ d ih =>
    intro j se hj h H
    have hi : vp_in (nI j) 5 := vp_in_nI (by omega) (by omega)
    have cj : (nI j).toNatClampNeg = j := nI_clamp (by omega)
    refine br_f (sd_5n (by omega)) ⟨hi, nm_e (nm_r (nI_1 j) ?_)⟩
    rw [cj]
    exact ih (j + 1) _ (by omega) (lt_s (fun p hp => by rw [pk_un (by omega)]; exact h p hp) pk_us) H
theorem sd_start {sp fo bc lc gc : Int32} {pe so ta ro pc ow lw hg wn nu se fb sb lb : Nat → Int32} {post : Int32 → SX → Prop} {lo hi : Nat → Nat} (hl : ∀ k, k < 7 → lo k ≤ hi k) (hlw : ∀ k, k < 7 → lw k = nI (lo k)) (hhg : ∀ k, k < 7 → hg k = nI (hi k)) (hs : ∀ k, k < 7 → vp_in (so k) 5) (ht : ∀ k, k < 7 → vp_in (ta k) 5) (H : ∀ (sp' : Int32) (nu' se' : Nat → Int32), (∀ k, k < 7 → nu' k = nI (lo k)) → sd_M so ta pc lo se' sp' → post (nI (sd_W lo hi 7)) (sp', fo, bc, lc, gc, pe, so, ta, ro, pc, ow, lw, hg, wn, nu', se', fb, sb, lb)) : wpX_startTrials post (sp, fo, bc, lc, gc, pe, so, ta, ro, pc, ow, lw, hg, wn, nu, se, fb, sb, lb) :=
  ⟨6, sd_st9 5 0 se rfl lt_0 (fun se' h => ⟨8, sd_st29 hl hlw hhg hs ht 7 0 0 nu se' rfl lt_0 (sd_M_0 (fun _ _ => if_neg (Nat.not_lt_zero _)) h) H⟩)⟩
/-! isShipment -/
theorem sd_ship2 {sp fo bc lc gc : Int32} {pe so ta ro pc ow lw hg wn nu se fb sb lb : Nat → Int32} {post : Int32 → Prop} (h1 : (∀ p, p < 5 → se p = wn p) → post 1) (h0 : (¬ ∀ p, p < 5 → se p = wn p) → post 0) : ∀ d j : Nat, j + d = 5 → (∀ p, p < j → se p = wn p) → wX_isShipment_2 post sp fo bc lc gc pe so ta ro pc ow lw hg wn nu se fb sb lb (d + 1) (nI j) := by
  intro d
  induction d with
  | zero =>
    intro j hj h
    obtain rfl : j = 5 := by omega
    exact br_t sd_5y (h1 h)
  | succ d ih =>
    intro j hj h
    have hi : vp_in (nI j) 5 := vp_in_nI (by omega) (by omega)
    have cj : (nI j).toNatClampNeg = j := nI_clamp (by omega)
    refine br_f (sd_5n (by omega)) ⟨hi, hi, ?_⟩
    rw [cj]
    exact br_c (fun z => nm_r (nI_1 j) (ih (j + 1) (by omega) (lt_s h z))) (fun z => h0 (fun g => z (g j (by omega))))
theorem sd_ship {sp fo bc lc gc : Int32} {pe so ta ro pc ow lw hg wn nu se fb sb lb : Nat → Int32} {post : Int32 → Prop} (h1 : (∀ p, p < 5 → se p = wn p) → post 1) (h0 : (¬ ∀ p, p < 5 → se p = wn p) → post 0) : wpX_isShipment post (sp, fo, bc, lc, gc, pe, so, ta, ro, pc, ow, lw, hg, wn, nu, se, fb, sb, lb) :=
  ⟨6, sd_ship2 h1 h0 5 0 rfl lt_0⟩
