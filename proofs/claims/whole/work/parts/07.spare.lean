/-! spare: the greatest extra, on both sides -/
noncomputable def sd_sp (lo hi : Nat → Nat) (ex : (Nat → Nat) → Int32) (ok : (Nat → Nat) → Bool) : Nat → Int32
  | 0 => 0
  | t + 1 => if ex (sd_vt lo hi t) ≤ sd_sp lo hi ex ok t then sd_sp lo hi ex ok t else if ok (sd_vt lo hi t) = true then ex (sd_vt lo hi t) else sd_sp lo hi ex ok t
section
variable {lo hi : Nat → Nat} {ex : (Nat → Nat) → Int32} {ok : (Nat → Nat) → Bool} {t : Nat}
theorem sd_sp_a (h : ex (sd_vt lo hi t) ≤ sd_sp lo hi ex ok t) : sd_sp lo hi ex ok (t + 1) = sd_sp lo hi ex ok t := by
  show (if _ then _ else _) = _
  rw [if_pos h]
theorem sd_sp_b (h : ¬ ex (sd_vt lo hi t) ≤ sd_sp lo hi ex ok t) (k : ok (sd_vt lo hi t) = true) : sd_sp lo hi ex ok (t + 1) = ex (sd_vt lo hi t) := by
  show (if _ then _ else _) = _
  rw [if_neg h, if_pos k]
theorem sd_sp_c (h : ¬ ex (sd_vt lo hi t) ≤ sd_sp lo hi ex ok t) (k : ok (sd_vt lo hi t) = false) : sd_sp lo hi ex ok (t + 1) = sd_sp lo hi ex ok t := by
  show (if _ then _ else _) = _
  rw [if_neg h, if_neg (by rw [k]; decide)]
end
theorem sd_up3 (f : Nat → Int32) (a b p : Nat) (m : Int32) : upd (upd f a (f a - m)) b (upd f a (f a - m) b + m) p = f p - (if a = p then m else 0) + (if b = p then m else 0) := by
  by_cases ha : a = p
  · subst ha
    by_cases hb : b = a
    · subst hb
      rw [pk_us, pk_us, if_pos rfl]
    · rw [pk_un (fun e => hb e.symm), pk_us, if_pos rfl, if_neg hb, Int32.add_zero]
  · by_cases hb : b = p
    · subst hb
      rw [pk_us, pk_un (fun e => ha e.symm), if_neg ha, if_pos rfl, Int32.sub_zero]
    · rw [pk_un (fun e => hb e.symm), pk_un (fun e => ha e.symm), if_neg ha, if_neg hb, Int32.sub_zero, Int32.add_zero]
theorem sd_D_e {i j r : Nat} (e : Int32) (hi : i < 5) (hj : j < 5) (hr : r < 5) (hij : i ≠ j) : sd_D (nI i) (nI j) e r = (if i = r then e else 0) - (if j = r then e else 0) := by
  unfold sd_D
  by_cases a : i = r
  · have b : ¬ j = r := by omega
    rw [if_pos (by rw [a]), if_pos a, if_neg b, Int32.sub_zero]
  · have a' : ¬ nI r = nI i := fun z => a ((nI_eq (by omega) (by omega)).mp z).symm
    by_cases b : j = r
    · rw [if_neg a', if_pos (by rw [b]), if_neg a, if_pos b]
      grind
    · have b' : ¬ nI r = nI j := fun z => b ((nI_eq (by omega) (by omega)).mp z).symm
      rw [if_neg a', if_neg b', if_neg a, if_neg b]
      rfl
theorem sd_wD {wn ow : Nat → Int32} {i j r : Nat} (e : Int32) (hi : i < 5) (hj : j < 5) (hr : r < 5) (hij : i ≠ j) (h : wn r = ow r) : upd (upd wn i (wn i + e)) j (upd wn i (wn i + e) j - e) r = ow r + sd_D (nI i) (nI j) e r := by
  rw [sd_up2, sd_D_e e hi hj hr hij, h]
  grind
theorem sd_swe {sp fo bc lc gc : Int32} {pe so ta ro pc ow lw hg wn nu se fb sb lb : Nat → Int32} {post : Int32 → SX → Prop} {i j : Nat} {e : Int32} (hi : i < 5) (hj : j < 5) (hij : i ≠ j) (hw : ∀ r, r < 5 → wn r = ow r) (h1 : ∀ wn : Nat → Int32, (∀ r, r < 5 → wn r = ow r) → (∀ r, r < 5 → se r = ow r + sd_D (nI i) (nI j) e r) → post 1 (sp, fo, bc, lc, gc, pe, so, ta, ro, pc, ow, lw, hg, wn, nu, se, fb, sb, lb)) (h0 : ∀ wn : Nat → Int32, (∀ r, r < 5 → wn r = ow r) → (¬ ∀ r, r < 5 → se r = ow r + sd_D (nI i) (nI j) e r) → post 0 (sp, fo, bc, lc, gc, pe, so, ta, ro, pc, ow, lw, hg, wn, nu, se, fb, sb, lb)) : wpX_isShipmentWithExtra post (sp, fo, bc, lc, gc, pe, so, ta, ro, pc, ow, lw, hg, wn, nu, se, fb, sb, lb) (nI i) (nI j) e := by
  have ci : (nI i).toNatClampNeg = i := nI_clamp (by omega)
  have cj : (nI j).toNatClampNeg = j := nI_clamp (by omega)
  have vi : vp_in (nI i) 5 := vp_in_nI hi (by omega)
  have vj : vp_in (nI j) 5 := vp_in_nI hj (by omega)
  unfold wpX_isShipmentWithExtra
  dsimp only
  rw [ci, cj]
  refine ⟨vi, vi, nm_e ⟨vj, vj, nm_e ?_⟩⟩
  have W : ∀ r, r < 5 → upd (upd wn i (wn i + e)) j (upd wn i (wn i + e) j - e) r = ow r + sd_D (nI i) (nI j) e r := fun r hr => sd_wD e hi hj hr hij (hw r hr)
  generalize upd (upd wn i (wn i + e)) j (upd wn i (wn i + e) j - e) = w6 at W ⊢
  have V : ∀ r, r < 5 → upd (upd w6 i (w6 i - e)) j (upd w6 i (w6 i - e) j + e) r = ow r := fun r hr => by
    rw [sd_up3, W r hr, sd_D_e e hi hj hr hij]
    grind
  refine sd_ship (fun g => ⟨vi, vi, nm_e ⟨vj, vj, nm_e ⟨sd_nb1, h1 _ V (fun r hr => (g r hr).trans (W r hr))⟩⟩⟩) (fun g => ⟨vi, vi, nm_e ⟨vj, vj, nm_e ⟨sd_nb0, h0 _ V (fun z => g (fun r hr => (z r hr).trans (W r hr).symm))⟩⟩⟩)
theorem sd_ge11 {fo bc lc gc : Int32} {pe so ta ro pc ow lw hg fb sb lb : Nat → Int32} {post : Int32 → SX → Prop} {lo hi : Nat → Nat} {ok : (Nat → Nat) → Bool} {i j : Nat} (hi5 : i < 5) (hj5 : j < 5) (hij : i ≠ j) (hl : ∀ k, k < 7 → lo k ≤ hi k) (h4 : ∀ k, k < 7 → hi k ≤ 4) (hlw : ∀ k, k < 7 → lw k = nI (lo k)) (hhg : ∀ k, k < 7 → hg k = nI (hi k)) (hs : ∀ k, k < 7 → vp_in (so k) 5) (ht : ∀ k, k < 7 → vp_in (ta k) 5) (hok : ∀ v, ok v = true ↔ ∀ p, p < 5 → sd_S so ta v p = ow p + sd_D (nI i) (nI j) (sd_S so ta v i - ow i) p)
    (H : ∀ (sp : Int32) (wn nu se : Nat → Int32), post (sd_sp lo hi (fun v => sd_S so ta v i - ow i) ok (sd_W lo hi 7)) (sp, fo, bc, lc, gc, pe, so, ta, ro, pc, ow, lw, hg, wn, nu, se, fb, sb, lb)) :
    ∀ (d t : Nat) (sp : Int32) (wn nu se : Nat → Int32), t + d = sd_W lo hi 7 → (∀ k, k < 7 → nu k = nI (sd_vt lo hi t k)) → sd_M so ta pc (sd_vt lo hi t) se sp → (∀ r, r < 5 → wn r = ow r) → wX_greatestExtra_11 post (nI i) (nI j) (nI (sd_W lo hi 7)) (d + 1) (sd_sp lo hi (fun v => sd_S so ta v i - ow i) ok t) (nI t) sp fo bc lc gc pe so ta ro pc ow lw hg wn nu se fb sb lb := by
  have hT := sd_W_7 (lo := lo) h4
  have ci : (nI i).toNatClampNeg = i := nI_clamp (by omega)
  have vi : vp_in (nI i) 5 := vp_in_nI hi5 (by omega)
  intro d
  induction d with
  | zero =>
    intro t sp wn nu se hd hn hM hw
    obtain rfl : t = sd_W lo hi 7 := by omega
    exact br_t (Int32.le_refl _) (H _ _ _ _)
  | succ d ih =>
    intro t sp wn nu se hd hn hM hw
    have hB := (sd_vt_ok hl t (by omega)).1
    have K : ∀ (x3 : Int32) (wn : Nat → Int32), (∀ r, r < 5 → wn r = ow r) → x3 = sd_sp lo hi (fun v => sd_S so ta v i - ow i) ok (t + 1) → wX_greatestExtra_53 post (wX_greatestExtra_11 post (nI i) (nI j) (nI (sd_W lo hi 7)) (d + 1)) (nI i) (nI j) x3 (nI (sd_W lo hi 7)) (nI t) sp fo bc lc gc pe so ta ro pc ow lw hg wn nu se fb sb lb := by
      intro x3 wn hw' e
      subst e
      unfold wX_greatestExtra_53
      refine sd_next hB h4 hlw hhg hs ht hn hM (fun sp' nu' se' a b => ?_)
      dsimp only
      exact nm_r (nI_1 t) (ih (t + 1) _ _ _ _ (by omega) a b hw')
    refine br_f (nI_ge (by omega) hT) ⟨vi, vi, nm_r (by rw [ci, hM.1 i hi5, hw i hi5]) ?_⟩
    by_cases c : sd_S so ta (sd_vt lo hi t) i - ow i ≤ sd_sp lo hi (fun v => sd_S so ta v i - ow i) ok t
    · exact br_t c (K _ wn hw (sd_sp_a c).symm)
    · refine br_f c (sd_swe hi5 hj5 hij hw (fun wn' hw' g => ?_) (fun wn' hw' g => ?_))
      · exact br_f (by decide) (K _ wn' hw' (sd_sp_b c ((hok _).mpr (fun p hp => by rw [← hM.1 p hp]; exact g p hp))).symm)
      · exact br_t rfl (K _ wn' hw' (sd_sp_c c (Bool.eq_false_iff.mpr (fun e => g (fun p hp => by rw [hM.1 p hp]; exact (hok _).mp e p hp)))).symm)
theorem sd_gext {sp fo bc lc gc : Int32} {pe so ta ro pc ow lw hg wn nu se fb sb lb : Nat → Int32} {post : Int32 → SX → Prop} {lo hi : Nat → Nat} {ok : (Nat → Nat) → Bool} {i j : Nat} (hi5 : i < 5) (hj5 : j < 5) (hij : i ≠ j) (hl : ∀ k, k < 7 → lo k ≤ hi k) (h4 : ∀ k, k < 7 → hi k ≤ 4) (hlw : ∀ k, k < 7 → lw k = nI (lo k)) (hhg : ∀ k, k < 7 → hg k = nI (hi k)) (hs : ∀ k, k < 7 → vp_in (so k) 5) (ht : ∀ k, k < 7 → vp_in (ta k) 5) (hok : ∀ v, ok v = true ↔ ∀ p, p < 5 → sd_S so ta v p = ow p + sd_D (nI i) (nI j) (sd_S so ta v i - ow i) p) (hw : ∀ r, r < 5 → wn r = ow r)
    (H : ∀ (sp : Int32) (wn nu se : Nat → Int32), post (sd_sp lo hi (fun v => sd_S so ta v i - ow i) ok (sd_W lo hi 7)) (sp, fo, bc, lc, gc, pe, so, ta, ro, pc, ow, lw, hg, wn, nu, se, fb, sb, lb)) : wpX_greatestExtra post (sp, fo, bc, lc, gc, pe, so, ta, ro, pc, ow, lw, hg, wn, nu, se, fb, sb, lb) (nI i) (nI j) := by
  unfold wpX_greatestExtra
  dsimp only
  refine sd_start hl hlw hhg hs ht (fun sp' nu' se' a b => ?_)
  dsimp only
  exact ⟨_, sd_ge11 hi5 hj5 hij hl h4 hlw hhg hs ht hok H (sd_W lo hi 7) 0 _ _ _ _ (Nat.zero_add _) a b hw⟩
theorem sd_y39 {ml mm mw : Int32} {pe so ta rs pc ow f1 f2 f3 : Nat → Int32} {post : Int32 → SY → Prop} {hi : Nat → Nat} {ok : (Nat → Nat) → Bool} {i j : Nat} (hi5 : i < 5) (h4 : ∀ k, k < 7 → hi k ≤ 4) (hp : ∀ k, k < 7 → pe k = 0 → hi k = 0) (hq : ∀ k, k < 7 → ¬ pe k = 0 → rs k = nI (hi k)) (hs : ∀ k, k < 7 → vp_in (so k) 5) (ht : ∀ k, k < 7 → vp_in (ta k) 5) (hok : ∀ v, ok v = true ↔ ∀ p, p < 5 → sd_S so ta v p = ow p + sd_D (nI i) (nI j) (sd_S so ta v i - ow i) p)
    (H : ∀ (nm ex : Nat → Int32), post (sd_sp sd_z hi (fun v => sd_S so ta v i - ow i) ok (sd_W sd_z hi 7)) (ml, mm, mw, pe, so, ta, rs, pc, ow, nm, ex, f1, f2, f3)) :
    ∀ (d t : Nat) (nm ex : Nat → Int32), t + d + 1 = sd_W sd_z hi 7 → (∀ k, k < 7 → nm k = nI (sd_vt sd_z hi t k)) → wY_spare_39 post (nI i) (nI j) (d + 2) (sd_sp sd_z hi (fun v => sd_S so ta v i - ow i) ok t) 1 ml mm mw pe so ta rs pc ow nm ex f1 f2 f3 := by
  have hT := sd_W_7 (lo := sd_z) h4
  have hl : ∀ k, k < 7 → sd_z k ≤ hi k := fun k _ => Nat.zero_le _
  have ci : (nI i).toNatClampNeg = i := nI_clamp (by omega)
  have vi : vp_in (nI i) 5 := vp_in_nI hi5 (by omega)
  intro d
  have STEP : ∀ (n t : Nat) (nm ex : Nat → Int32), t < sd_W sd_z hi 7 → (t + 1 ≠ sd_W sd_z hi 7 → ∀ (nm ex : Nat → Int32), (∀ k, k < 7 → nm k = nI (sd_vt sd_z hi (t + 1) k)) → wY_spare_39 post (nI i) (nI j) (n + 1) (sd_sp sd_z hi (fun v => sd_S so ta v i - ow i) ok (t + 1)) 1 ml mm mw pe so ta rs pc ow nm ex f1 f2 f3) → (∀ k, k < 7 → nm k = nI (sd_vt sd_z hi t k)) → wY_spare_39 post (nI i) (nI j) (n + 2) (sd_sp sd_z hi (fun v => sd_S so ta v i - ow i) ok t) 1 ml mm mw pe so ta rs pc ow nm ex f1 f2 f3 := by
    intro n t nm ex htT K1 hn
    have hB := (sd_vt_ok hl t htT).1
    have v4 : ∀ k, k < 7 → sd_vt sd_z hi t k ≤ 4 := fun k hk => Nat.le_trans (hB k hk).2 (h4 k hk)
    have A : ∀ (x3 : Int32) (ex : Nat → Int32), x3 = sd_sp sd_z hi (fun v => sd_S so ta v i - ow i) ok (t + 1) → wY_spare_83 post (wY_spare_39 post (nI i) (nI j) (n + 1)) (nI i) (nI j) x3 ml mm mw pe so ta rs pc ow nm ex f1 f2 f3 := by
      intro x3 ex e
      subst e
      unfold wY_spare_83
      refine sd_adv hB h4 hp hq hn (fun nm' a b => ?_) (fun nm' a => ?_)
      · exact K1 (fun e => a ((sd_vt_end hl htT).mpr e)) _ _ b
      · have e := (sd_vt_end hl htT).mp a
        refine br_t rfl ?_
        rw [e]
        exact H _ _
    refine br_f (by decide) (sd_weigh v4 hn hs ht (fun ex' hex => ?_))
    dsimp only
    rw [ci]
    have ei : ex' i = sd_S so ta (sd_vt sd_z hi t) i - ow i := by
      rw [hex i hi5]
      grind
    unfold wY_spare_82
    refine ⟨vi, ?_⟩
    by_cases c : sd_S so ta (sd_vt sd_z hi t) i - ow i ≤ sd_sp sd_z hi (fun v => sd_S so ta v i - ow i) ok t
    · exact br_t (by rw [ei]; exact c) (A _ _ (sd_sp_a c).symm)
    · refine br_f (by rw [ei]; exact c) ⟨vi, sd_bal (fun g => ?_) (fun g => ?_)⟩
      · refine br_f (by decide) ⟨vi, A _ _ ?_⟩
        rw [ei]
        refine (sd_sp_b c ((hok _).mpr (fun p hp5 => ?_))).symm
        refine (sd_eqD _ _ _).mp ((hex p hp5).symm.trans ?_)
        rw [← ei]
        exact g p hp5
      · refine br_t rfl (A _ _ (sd_sp_c c (Bool.eq_false_iff.mpr (fun e => g (fun p hp5 => ?_)))).symm)
        rw [hex p hp5, ei]
        exact (sd_eqD _ _ _).mpr ((hok _).mp e p hp5)
  induction d with
  | zero =>
    intro t nm ex hd hn
    exact STEP 0 t _ _ (by omega) (fun e => absurd hd e) hn
  | succ d ih =>
    intro t nm ex hd hn
    exact STEP (d + 1) t _ _ (by omega) (fun _ nm ex a => ih (t + 1) _ _ (by omega) a) hn
