/-! X: what it notes, its next trial, its survey -/
def sd_XF (r : sd_R) (fo bc lc gc : Int32) (fb sb lb : Nat → Int32) : Prop :=
  (r.1 = 0 ∧ fo = 0 ∧ bc = 0) ∨ (r.1 ≠ 0 ∧ fo = 1 ∧ bc = nI r.1 ∧ lc = r.2.1 ∧ gc = r.2.2.1 ∧ ∀ k, k < 7 → fb k = r.2.2.2.1 k ∧ sb k = r.2.2.2.2.1 k ∧ lb k = r.2.2.2.2.2 k)
theorem sd_nfb15 {sp fo bc lc gc : Int32} {pe so ta ro pc ow lw hg wn nu se : Nat → Int32} {post : SX → Prop} : ∀ (d j : Nat) (fb sb lb : Nat → Int32), j + d = 7 → (∀ k, k < j → fb k = nu k ∧ sb k = nu k ∧ lb k = nu k) → (∀ fb' sb' lb' : Nat → Int32, (∀ k, k < 7 → fb' k = nu k ∧ sb' k = nu k ∧ lb' k = nu k) → post (sp, fo, bc, lc, gc, pe, so, ta, ro, pc, ow, lw, hg, wn, nu, se, fb', sb', lb')) → wX_noteFirstBest_15 post sp fo bc lc gc (d + 1) (nI j) pe so ta ro pc ow lw hg wn nu se fb sb lb := by
  intro d
  induction d with
  | zero =>
    intro j fb sb lb hj h H
    obtain rfl : j = 7 := by omega
    exact br_t sd_7y (H fb sb lb h)
  | succ d ih =>
    intro j fb sb lb hj h H
    have hi : vp_in (nI j) 7 := vp_in_nI (by omega) (by omega)
    have cj : (nI j).toNatClampNeg = j := nI_clamp (by omega)
    refine br_f (sd_7n (by omega)) ⟨hi, hi, nm_e ⟨hi, hi, nm_e ⟨hi, hi, nm_e (nm_r (nI_1 j) ?_)⟩⟩⟩
    rw [cj]
    exact ih (j + 1) _ _ _ (by omega) (lt_s (fun p hp => by rw [pk_un (by omega), pk_un (by omega), pk_un (by omega)]; exact h p hp) ⟨pk_us, pk_us, pk_us⟩) H
theorem sd_nfb {sp fo bc lc gc : Int32} {pe so ta ro pc ow lw hg wn nu se fb sb lb : Nat → Int32} {post : SX → Prop} (H : ∀ fb' sb' lb' : Nat → Int32, (∀ k, k < 7 → fb' k = nu k ∧ sb' k = nu k ∧ lb' k = nu k) → post (sp, fo, 1, sp, gc, pe, so, ta, ro, pc, ow, lw, hg, wn, nu, se, fb', sb', lb')) : wpX_noteFirstBest post (sp, fo, bc, lc, gc, pe, so, ta, ro, pc, ow, lw, hg, wn, nu, se, fb, sb, lb) :=
  ⟨8, sd_nfb15 7 0 fb sb lb rfl lt_0 H⟩
theorem sd_nob12 {sp fo bc lc gc : Int32} {pe so ta ro pc ow lw hg wn nu se fb : Nat → Int32} {post : SX → Prop} {sb0 lb0 : Nat → Int32} : ∀ (d j : Nat) (sb lb : Nat → Int32), j + d = 7 → (∀ k, k < j → sb k = (if sb0 k ≤ nu k then sb0 k else nu k) ∧ lb k = (if nu k ≤ lb0 k then lb0 k else nu k)) → (∀ k, j ≤ k → sb k = sb0 k ∧ lb k = lb0 k) → (∀ sb' lb' : Nat → Int32, (∀ k, k < 7 → sb' k = (if sb0 k ≤ nu k then sb0 k else nu k) ∧ lb' k = (if nu k ≤ lb0 k then lb0 k else nu k)) → post (sp, fo, bc, lc, gc, pe, so, ta, ro, pc, ow, lw, hg, wn, nu, se, fb, sb', lb')) → wX_noteOtherBest_12 post sp fo bc lc gc (d + 1) (nI j) pe so ta ro pc ow lw hg wn nu se fb sb lb := by
  intro d
  induction d with
  | zero =>
    intro j sb lb hj h _ H
    obtain rfl : j = 7 := by omega
    exact br_t sd_7y (H sb lb h)
  | succ d ih =>
    intro j sb lb hj h g H
    have hi : vp_in (nI j) 7 := vp_in_nI (by omega) (by omega)
    have cj : (nI j).toNatClampNeg = j := nI_clamp (by omega)
    have gj := g j (Nat.le_refl j)
    have K : ∀ sb' : Nat → Int32, (∀ k, k < j → sb' k = sb k) → sb' j = (if sb0 j ≤ nu j then sb0 j else nu j) → (∀ k, j + 1 ≤ k → sb' k = sb k) → wX_noteOtherBest_45 post (wX_noteOtherBest_12 post sp fo bc lc gc (d + 1)) (nI j) sp fo bc lc gc pe so ta ro pc ow lw hg wn nu se fb sb' lb := by
      intro sb' a b c
      refine ⟨hi, hi, ?_⟩
      rw [cj]
      refine br_c (fun z => nm_r (nI_1 j) (ih (j + 1) _ _ (by omega) (lt_s (fun k hk => ?_) ⟨b, ?_⟩) (fun k hk => ?_) H)) (fun z => ⟨hi, hi, nm_e (nm_r (nI_1 j) (ih (j + 1) _ _ (by omega) (lt_s (fun k hk => ?_) ⟨b, ?_⟩) (fun k hk => ?_) H))⟩)
      · rw [a k hk]; exact h k hk
      · rw [gj.2] at z ⊢
        rw [if_pos z]
      · rw [c k hk]; exact g k (by omega)
      · rw [a k hk, pk_un (by omega)]; exact h k hk
      · rw [gj.2] at z
        rw [pk_us, if_neg z]
      · rw [c k hk, pk_un (by omega)]; exact g k (by omega)
    refine br_f (sd_7n (by omega)) ⟨hi, hi, ?_⟩
    rw [cj]
    refine br_c (fun z => K sb (fun _ _ => rfl) ?_ (fun _ _ => rfl)) (fun z => ⟨hi, hi, nm_e (K _ (fun k hk => pk_un (by omega)) ?_ (fun k hk => pk_un (by omega)))⟩)
    · rw [gj.1] at z ⊢
      rw [if_pos z]
    · rw [gj.1] at z
      rw [pk_us, if_neg z]
theorem sd_nob {sp fo bc lc gc : Int32} {pe so ta ro pc ow lw hg wn nu se fb sb lb : Nat → Int32} {post : SX → Prop} (H : ∀ sb' lb' : Nat → Int32, (∀ k, k < 7 → sb' k = (if sb k ≤ nu k then sb k else nu k) ∧ lb' k = (if nu k ≤ lb k then lb k else nu k)) → post (sp, fo, bc + 1, lc, gc, pe, so, ta, ro, pc, ow, lw, hg, wn, nu, se, fb, sb', lb')) : wpX_noteOtherBest post (sp, fo, bc, lc, gc, pe, so, ta, ro, pc, ow, lw, hg, wn, nu, se, fb, sb, lb) :=
  nm_e ⟨8, sd_nob12 7 0 sb lb rfl lt_0 (fun _ _ => ⟨rfl, rfl⟩) H⟩
theorem sd_n44 {sp fo bc lc gc : Int32} {pe so ta ro pc ow lw hg wn nu se fb sb lb : Nat → Int32} {post : SX → Prop} (H : ∀ fb' sb' lb' : Nat → Int32, (∀ k, k < 7 → fb' k = nu k ∧ sb' k = nu k ∧ lb' k = nu k) → post (sp, 1, 1, sp, gc, pe, so, ta, ro, pc, ow, lw, hg, wn, nu, se, fb', sb', lb')) : wX_noteShipment_44 post sp fo bc lc gc pe so ta ro pc ow lw hg wn nu se fb sb lb := by
  unfold wX_noteShipment_44
  exact sd_nfb H
theorem sd_n26 {sp fo bc lc gc : Int32} {pe so ta ro pc ow lw hg wn nu se fb sb lb : Nat → Int32} {post : SX → Prop} {r : sd_R} {n : Nat → Int32} (hn : ∀ k, k < 7 → nu k = n k) (h0 : r.1 ≠ 0) (hf : fo = 1) (hb : bc = nI r.1) (hl : lc = r.2.1) (hgc : gc = (if sp ≤ r.2.2.1 then r.2.2.1 else sp)) (hk : ∀ k, k < 7 → fb k = r.2.2.2.1 k ∧ sb k = r.2.2.2.2.1 k ∧ lb k = r.2.2.2.2.2 k) (H : ∀ (bc' lc' : Int32) (fb' sb' lb' : Nat → Int32), sd_XF (sd_nt sp n r) 1 bc' lc' gc fb' sb' lb' → post (sp, 1, bc', lc', gc, pe, so, ta, ro, pc, ow, lw, hg, wn, nu, se, fb', sb', lb')) : wX_noteShipment_26 post sp fo bc lc gc pe so ta ro pc ow lw hg wn nu se fb sb lb := by
  unfold wX_noteShipment_26
  refine br_f (by rw [hf]; decide) ?_
  by_cases c : lc ≤ sp
  · refine br_t c ?_
    by_cases e : sp = lc
    · refine br_t e (sd_nob (fun sb' lb' h => ?_))
      dsimp only
      refine H _ _ _ _ _ (Or.inr ?_)
      rw [hl] at c e
      rw [sd_nt_e h0 c e]
      refine ⟨Nat.succ_ne_zero _, rfl, by rw [hb]; exact nI_1 _, hl, hgc, fun k hk7 => ?_⟩
      obtain ⟨a1, a2, a3⟩ := hk k hk7
      obtain ⟨b1, b2⟩ := h k hk7
      dsimp only
      rw [b1, b2, a1, a2, a3, hn k hk7]
      exact ⟨rfl, rfl, rfl⟩
    · refine br_f e (H _ _ _ _ _ (Or.inr ?_))
      rw [hl] at c e
      rw [sd_nt_g h0 c e]
      exact ⟨h0, rfl, hb, hl, hgc, hk⟩
  · refine br_f c (sd_n44 (fun fb' sb' lb' h => H _ _ _ _ _ (Or.inr ?_)))
    rw [hl] at c
    rw [sd_nt_l h0 c]
    refine ⟨Nat.one_ne_zero, rfl, rfl, rfl, hgc, fun k hk7 => ?_⟩
    dsimp only
    rw [← hn k hk7]
    exact h k hk7
theorem sd_note {sp fo bc lc gc : Int32} {pe so ta ro pc ow lw hg wn nu se fb sb lb : Nat → Int32} {post : SX → Prop} {r : sd_R} {n : Nat → Int32} (hn : ∀ k, k < 7 → nu k = n k) (hX : sd_XF r fo bc lc gc fb sb lb) (H : ∀ (fo' bc' lc' gc' : Int32) (fb' sb' lb' : Nat → Int32), sd_XF (sd_nt sp n r) fo' bc' lc' gc' fb' sb' lb' → post (sp, fo', bc', lc', gc', pe, so, ta, ro, pc, ow, lw, hg, wn, nu, se, fb', sb', lb')) : wpX_noteShipment post (sp, fo, bc, lc, gc, pe, so, ta, ro, pc, ow, lw, hg, wn, nu, se, fb, sb, lb) := by
  unfold wpX_noteShipment
  dsimp only
  rcases hX with ⟨h0, hf, hb⟩ | ⟨h0, hf, hb, hl, hgc, hk⟩
  · refine br_t hf ?_
    unfold wX_noteShipment_18 wX_noteShipment_26
    refine br_t hf (sd_n44 (fun fb' sb' lb' h => H _ _ _ _ _ _ _ (Or.inr ?_)))
    rw [sd_nt_0 h0]
    refine ⟨Nat.one_ne_zero, rfl, rfl, rfl, rfl, fun k hk7 => ?_⟩
    dsimp only
    rw [← hn k hk7]
    exact h k hk7
  · refine br_f (by rw [hf]; decide) ?_
    by_cases c : sp ≤ gc
    · refine br_t c (sd_n26 hn h0 hf hb hl ?_ hk (fun bc' lc' fb' sb' lb' h => H _ _ _ _ _ _ _ h))
      rw [hgc] at c ⊢
      rw [if_pos c]
    · refine br_f c ?_
      unfold wX_noteShipment_18
      refine sd_n26 hn h0 hf hb hl ?_ hk (fun bc' lc' fb' sb' lb' h => H _ _ _ _ _ _ _ h)
      rw [hgc] at c
      rw [if_neg c]
/-! nextTrial -/
theorem sd_next3 {fo bc lc gc : Int32} {pe so ta ro pc ow lw hg wn fb sb lb : Nat → Int32} {post : SX → Prop} {lo hi v : Nat → Nat} (hB : sd_B lo hi v) (h4 : ∀ k, k < 7 → hi k ≤ 4) (hlw : ∀ k, k < 7 → lw k = nI (lo k)) (hhg : ∀ k, k < 7 → hg k = nI (hi k)) (hs : ∀ k, k < 7 → vp_in (so k) 5) (ht : ∀ k, k < 7 → vp_in (ta k) 5) (H : ∀ (sp' : Int32) (nu' se' : Nat → Int32), (∀ k, k < 7 → nu' k = nI (sd_nx lo hi v k)) → sd_M so ta pc (sd_nx lo hi v) se' sp' → post (sp', fo, bc, lc, gc, pe, so, ta, ro, pc, ow, lw, hg, wn, nu', se', fb, sb, lb)) : ∀ (d : Nat) (sp : Int32) (nu se : Nat → Int32), d ≤ 7 → (∀ j, j < 7 → d ≤ j → v j = hi j) → (∀ k, k < 7 → nu k = nI (if k < d then v k else lo k)) → sd_M so ta pc (fun k => if k < d then v k else lo k) se sp → wX_nextTrial_3 post (d + 1) (nI d + (-1)) sp fo bc lc gc pe so ta ro pc ow lw hg wn nu se fb sb lb := by
  intro d
  induction d with
  | zero =>
    intro sp nu se _ hm hn hM
    have e : ∀ k, k < 7 → (if k < 0 then v k else lo k) = sd_nx lo hi v k := fun k hk => by
      rw [if_neg (Nat.not_lt_zero k), sd_nx_wrap (fun j a => hm j a (Nat.zero_le j)) k hk]
    exact br_t (by decide) (H sp nu se (fun k hk => by rw [hn k hk, e k hk]) (sd_M_c e hM))
  | succ d ih =>
    intro sp nu se hd hm hn hM
    have hi' : vp_in (nI d) 7 := vp_in_nI (by omega) (by omega)
    have cd : (nI d).toNatClampNeg = d := nI_clamp (by omega)
    have nd : nu d = nI (v d) := by rw [hn d (by omega), if_pos (Nat.lt_succ_self d)]
    have bd := hB d (by omega)
    have b4 := h4 d (by omega)
    rw [pk_m1]
    refine br_f (nI_pos (by omega)) ⟨hi', hi', ?_⟩
    rw [cd, nd, hhg d (by omega)]
    by_cases c : v d < hi d
    · obtain ⟨n1, n2, n3⟩ := sd_nx_at (lo := lo) (by omega) (fun j a b => hm j a (by omega)) c
      refine br_f (nI_ge c (by omega)) ⟨hi', ?_⟩
      have hw : ∀ j, j < 7 → j ≠ d → sd_nx lo hi v j = (if j < d + 1 then v j else lo j) := fun j hj hne => by
        by_cases z : j < d
        · rw [n3 j z, if_pos (by omega)]
        · rw [n2 j hj (by omega), if_neg (by omega)]
      refine sd_give (v := fun k => if k < d + 1 then v k else lo k) (w := sd_nx lo hi v) (by omega) (hs d (by omega)) (ht d (by omega)) hw ?_ (hn d (by omega)) hM (fun se' sp' hM' => H _ _ _ (fun k hk => ?_) hM')
      · rw [n1]; exact nI_1 _
      · by_cases z : k = d
        · rw [z, pk_us]
        · rw [pk_un z, hn k hk, hw k hk z]
    · refine br_t (nI_le (by omega) (by omega)) ⟨hi', ?_⟩
      have hw : ∀ j, j < 7 → j ≠ d → (if j < d then v j else lo j) = (if j < d + 1 then v j else lo j) := fun j hj hne => by
        by_cases z : j < d
        · rw [if_pos z, if_pos (by omega)]
        · rw [if_neg z, if_neg (by omega)]
      refine sd_give (v := fun k => if k < d + 1 then v k else lo k) (w := fun k => if k < d then v k else lo k) (by omega) (hs d (by omega)) (ht d (by omega)) hw ?_ (hn d (by omega)) hM (fun se' sp' hM' => ?_)
      · rw [hlw d (by omega), if_neg (Nat.lt_irrefl d)]
      · dsimp only
        refine nm_e (ih sp' _ se' (by omega) (fun j a b => ?_) (fun k hk => ?_) hM')
        · by_cases z : j = d
          · subst z; omega
          · exact hm j a (by omega)
        · by_cases z : k = d
          · rw [z, pk_us]
          · rw [pk_un z, hn k hk, hw k hk z]
theorem sd_next {sp fo bc lc gc : Int32} {pe so ta ro pc ow lw hg wn nu se fb sb lb : Nat → Int32} {post : SX → Prop} {lo hi v : Nat → Nat} (hB : sd_B lo hi v) (h4 : ∀ k, k < 7 → hi k ≤ 4) (hlw : ∀ k, k < 7 → lw k = nI (lo k)) (hhg : ∀ k, k < 7 → hg k = nI (hi k)) (hs : ∀ k, k < 7 → vp_in (so k) 5) (ht : ∀ k, k < 7 → vp_in (ta k) 5) (hn : ∀ k, k < 7 → nu k = nI (v k)) (hM : sd_M so ta pc v se sp) (H : ∀ (sp' : Int32) (nu' se' : Nat → Int32), (∀ k, k < 7 → nu' k = nI (sd_nx lo hi v k)) → sd_M so ta pc (sd_nx lo hi v) se' sp' → post (sp', fo, bc, lc, gc, pe, so, ta, ro, pc, ow, lw, hg, wn, nu', se', fb, sb, lb)) : wpX_nextTrial post (sp, fo, bc, lc, gc, pe, so, ta, ro, pc, ow, lw, hg, wn, nu, se, fb, sb, lb) :=
  ⟨8, sd_next3 hB h4 hlw hhg hs ht H 7 sp nu se (Nat.le_refl 7) (fun j a b => absurd a (Nat.not_lt.mpr b)) (fun k hk => by rw [hn k hk, if_pos hk]) (sd_M_c (fun k hk => (if_pos hk).symm) hM)⟩
/-! survey -/
theorem sd_sv17 {pe so ta ro pc ow lw hg wn : Nat → Int32} {post : SX → Prop} {lo hi : Nat → Nat} {ok : (Nat → Nat) → Bool} (hl : ∀ k, k < 7 → lo k ≤ hi k) (h4 : ∀ k, k < 7 → hi k ≤ 4) (hlw : ∀ k, k < 7 → lw k = nI (lo k)) (hhg : ∀ k, k < 7 → hg k = nI (hi k)) (hs : ∀ k, k < 7 → vp_in (so k) 5) (ht : ∀ k, k < 7 → vp_in (ta k) 5) (hok : ∀ v, ok v = true ↔ ∀ p, p < 5 → sd_S so ta v p = wn p)
    (H : ∀ (sp fo bc lc gc : Int32) (nu se fb sb lb : Nat → Int32), sd_XF (sd_rs lo hi ok (sd_C pc) (sd_W lo hi 7)) fo bc lc gc fb sb lb → post (sp, fo, bc, lc, gc, pe, so, ta, ro, pc, ow, lw, hg, wn, nu, se, fb, sb, lb)) :
    ∀ (d t : Nat) (sp fo bc lc gc : Int32) (nu se fb sb lb : Nat → Int32), t + d = sd_W lo hi 7 → (∀ k, k < 7 → nu k = nI (sd_vt lo hi t k)) → sd_M so ta pc (sd_vt lo hi t) se sp → sd_XF (sd_rs lo hi ok (sd_C pc) t) fo bc lc gc fb sb lb → wX_survey_17 post (nI (sd_W lo hi 7)) (d + 1) (nI t) sp fo bc lc gc pe so ta ro pc ow lw hg wn nu se fb sb lb := by
  have hT := sd_W_7 (lo := lo) h4
  intro d
  induction d with
  | zero =>
    intro t sp fo bc lc gc nu se fb sb lb hd hn hM hX
    obtain rfl : t = sd_W lo hi 7 := by omega
    exact br_t (Int32.le_refl _) (H _ _ _ _ _ _ _ _ _ _ hX)
  | succ d ih =>
    intro t sp fo bc lc gc nu se fb sb lb hd hn hM hX
    have hB := (sd_vt_ok hl t (by omega)).1
    have K : ∀ (fo bc lc gc : Int32) (fb sb lb : Nat → Int32), sd_XF (sd_rs lo hi ok (sd_C pc) (t + 1)) fo bc lc gc fb sb lb → wX_survey_33 post (wX_survey_17 post (nI (sd_W lo hi 7)) (d + 1)) (nI (sd_W lo hi 7)) (nI t) sp fo bc lc gc pe so ta ro pc ow lw hg wn nu se fb sb lb := by
      intro fo bc lc gc fb sb lb hX'
      unfold wX_survey_33
      refine sd_next hB h4 hlw hhg hs ht hn hM (fun sp' nu' se' a b => ?_)
      dsimp only
      exact nm_r (nI_1 t) (ih (t + 1) _ _ _ _ _ _ _ _ _ _ (by omega) a b hX')
    refine br_f (nI_ge (by omega) hT) ?_
    refine sd_ship (fun g => ?_) (fun g => ?_)
    · refine br_f (by decide) (sd_note (n := fun k => nI (sd_vt lo hi t k)) hn hX (fun fo' bc' lc' gc' fb' sb' lb' hX' => ?_))
      dsimp only
      refine K _ _ _ _ _ _ _ ?_
      rw [sd_rs_y ((hok _).mpr (fun p hp => by rw [← hM.1 p hp]; exact g p hp)), ← hM.2]
      exact hX'
    · refine br_t rfl (K _ _ _ _ _ _ _ ?_)
      rw [sd_rs_n (Bool.eq_false_iff.mpr (fun e => g (fun p hp => by rw [hM.1 p hp]; exact (hok _).mp e p hp)))]
      exact hX
theorem sd_survey {sp fo bc lc gc : Int32} {pe so ta ro pc ow lw hg wn nu se fb sb lb : Nat → Int32} {post : SX → Prop} {lo hi : Nat → Nat} {ok : (Nat → Nat) → Bool} (hl : ∀ k, k < 7 → lo k ≤ hi k) (h4 : ∀ k, k < 7 → hi k ≤ 4) (hlw : ∀ k, k < 7 → lw k = nI (lo k)) (hhg : ∀ k, k < 7 → hg k = nI (hi k)) (hs : ∀ k, k < 7 → vp_in (so k) 5) (ht : ∀ k, k < 7 → vp_in (ta k) 5) (hok : ∀ v, ok v = true ↔ ∀ p, p < 5 → sd_S so ta v p = wn p)
    (H : ∀ (sp fo bc lc gc : Int32) (nu se fb sb lb : Nat → Int32), sd_XF (sd_rs lo hi ok (sd_C pc) (sd_W lo hi 7)) fo bc lc gc fb sb lb → post (sp, fo, bc, lc, gc, pe, so, ta, ro, pc, ow, lw, hg, wn, nu, se, fb, sb, lb)) : wpX_survey post (sp, fo, bc, lc, gc, pe, so, ta, ro, pc, ow, lw, hg, wn, nu, se, fb, sb, lb) := by
  unfold wpX_survey
  dsimp only
  refine sd_start hl hlw hhg hs ht (fun sp' nu' se' a b => ?_)
  dsimp only
  exact ⟨_, sd_sv17 hl h4 hlw hhg hs ht hok H (sd_W lo hi 7) 0 _ _ _ _ _ _ _ _ _ _ (Nat.zero_add _) a b (Or.inl ⟨rfl, rfl, rfl⟩)⟩
