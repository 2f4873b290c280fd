/-! shifted, spare, worth -/
theorem i_vc_shifted {k : Nat} {u : SX} {v : SY} (I : i_Rel k u v) (hk : k + 4 ≤ 2048) (v1 : Int32) (v2 : Int32) : wpX_shifted (fun r u' => wpY_shifted (fun r' v' => r' = r ∧ i_Rel (k + 4) u' v') v v1 v2) u v1 v2 := by
  obtain ⟨sp, fo, bc, lc, gc, pe, so, ta, ro, pc, ow, lw, hg, wn, nu, se, fb, sb, lb⟩ := u
  obtain ⟨ml, mm, mw, pe', so', ta', rs, pc', ow', nm, ex, f1, f2, f3⟩ := v
  obtain ⟨rfl, rfl, rfl, rfl, rfl, I⟩ := I
  unfold wpX_shifted wpY_shifted
  dsimp only
  refine sd_two (fun t => br_f (by decide) ?_) (fun t => br_t rfl (br_c (fun _ => ⟨rfl, sd_rel I⟩) (fun e => sd_plY (fun p1 => br_f (by decide) (sd_plY (fun p2 => absurd ⟨p1, p2, e⟩ t) (fun _ => br_t rfl ⟨rfl, sd_rel I⟩))) (fun _ => br_t rfl ⟨rfl, sd_rel I⟩))))
  obtain ⟨⟨i, hi, rfl⟩, ⟨j, hj, rfl⟩, hne⟩ := id t
  have ci : (nI i).toNatClampNeg = i := nI_clamp (by omega)
  have cj : (nI j).toNatClampNeg = j := nI_clamp (by omega)
  have vi : vp_in (nI i) 5 := vp_in_nI hi (by omega)
  have vj : vp_in (nI j) 5 := vp_in_nI hj (by omega)
  have hij : i ≠ j := fun e => hne (by rw [e])
  refine sd_ask (fun lw hg wn a b c => ?_)
  dsimp only
  rw [ci, cj]
  refine ⟨vi, vi, nm_e ⟨vj, vj, nm_e ?_⟩⟩
  refine sd_svI (w := fun p => ow p + sd_D (nI i) (nI j) 1 p) I a b (fun p hp => sd_wD 1 hi hj hp hij (c p hp)) (fun sp fo bc lc gc nu se fb sb lb hX => ?_)
  dsimp only
  unfold wpX_leastFound
  dsimp only
  refine br_c (fun z => br_f hne (sd_plY (fun _ => br_f (by decide) (sd_plY (fun _ => br_f (by decide) (sd_seI I (fun p hp => rfl) (fun ml mm mw nm ex f1 f2 f3 hY => ?_))) (fun g => absurd t.2.1 g))) (fun g => absurd t.1 g))) (fun z => br_f hne (sd_plY (fun _ => br_f (by decide) (sd_plY (fun _ => br_f (by decide) (sd_seI I (fun p hp => rfl) (fun ml mm mw nm ex f1 f2 f3 hY => ?_))) (fun g => absurd t.2.1 g))) (fun g => absurd t.1 g)))
  · rcases sd_XY (sd_r0l I) hX hY with ⟨_, e, _, _, l, _⟩ | ⟨_, e, _, _, l, _⟩
    · exact ⟨l, sd_rel I⟩
    · exact absurd (z.symm.trans e) (by decide)
  · rcases sd_XY (sd_r0l I) hX hY with ⟨_, e, _, _, l, _⟩ | ⟨_, e, _, _, l, _⟩
    · exact absurd e z
    · exact ⟨l, sd_rel I⟩
theorem i_vc_spare {k : Nat} {u : SX} {v : SY} (I : i_Rel k u v) (hk : k + 4 ≤ 2048) (v1 : Int32) (v2 : Int32) : wpX_spare (fun r u' => wpY_spare (fun r' v' => r' = r ∧ i_Rel (k + 4) u' v') v v1 v2) u v1 v2 := by
  obtain ⟨sp, fo, bc, lc, gc, pe, so, ta, ro, pc, ow, lw, hg, wn, nu, se, fb, sb, lb⟩ := u
  obtain ⟨ml, mm, mw, pe', so', ta', rs, pc', ow', nm, ex, f1, f2, f3⟩ := v
  obtain ⟨rfl, rfl, rfl, rfl, rfl, I⟩ := I
  unfold wpX_spare wpY_spare
  dsimp only
  refine sd_two (fun t => br_f (by decide) ?_) (fun t => br_t rfl (br_c (fun _ => ⟨rfl, sd_rel I⟩) (fun e => sd_plY (fun p1 => br_f (by decide) (sd_plY (fun p2 => absurd ⟨p1, p2, e⟩ t) (fun _ => br_t rfl ⟨rfl, sd_rel I⟩))) (fun _ => br_t rfl ⟨rfl, sd_rel I⟩))))
  obtain ⟨⟨i, hi, rfl⟩, ⟨j, hj, rfl⟩, hne⟩ := id t
  have hij : i ≠ j := fun e => hne (by rw [e])
  have h4 : ∀ k, k < 7 → sd_hb ro k ≤ 4 := fun k hk => Nat.le_trans (sd_I_b I hk).2.1 (by decide)
  have hok : ∀ v, sd_bo (∀ p, p < 5 → sd_S so ta v p = ow p + sd_D (nI i) (nI j) (sd_S so ta v i - ow i) p) = true ↔ ∀ p, p < 5 → sd_S so ta v p = ow p + sd_D (nI i) (nI j) (sd_S so ta v i - ow i) p := fun v => sd_bo_i
  refine sd_ask (fun lw hg wn a b c => ?_)
  dsimp only
  refine sd_svI I a b c (fun sp fo bc lc gc nu se fb sb lb hX => ?_)
  dsimp only
  unfold wpY_possible
  refine br_c (fun z => br_f hne (sd_plY (fun _ => br_f (by decide) (sd_plY (fun _ => br_f (by decide) (sd_seI I (sd_w0 0 1) (fun ml mm mw nm ex f1 f2 f3 hY => ?_))) (fun g => absurd t.2.1 g))) (fun g => absurd t.1 g))) (fun z => ?_)
  · dsimp only
    rcases sd_XY (sd_r0l I) hX hY with ⟨_, e, _, m, _⟩ | ⟨_, e, _⟩
    · exact br_t (by rw [m]; decide) (br_t rfl ⟨rfl, sd_rel I⟩)
    · exact absurd (z.symm.trans e) (by decide)
  · refine sd_gext (lo := sd_z) (hi := sd_hb ro) (ok := fun v => sd_bo (∀ p, p < 5 → sd_S so ta v p = ow p + sd_D (nI i) (nI j) (sd_S so ta v i - ow i) p)) hi hj hij (fun k _ => Nat.zero_le _) h4 (fun k hk => a k hk) (fun k hk => (b k hk).trans (sd_I_b I hk).1) (fun k hk => (I k hk).1) (fun k hk => (I k hk).2.1) hok c (fun sp wn nu se => ?_)
    dsimp only
    refine br_f hne (sd_plY (fun _ => br_f (by decide) (sd_plY (fun _ => br_f (by decide) (sd_seI I (sd_w0 0 1) (fun ml mm mw nm ex f1 f2 f3 hY => ?_))) (fun g => absurd t.2.1 g))) (fun g => absurd t.1 g))
    dsimp only
    rcases sd_XY (sd_r0l I) hX hY with ⟨_, e, _⟩ | ⟨_, _, _, m, _⟩
    · exact absurd e z
    · refine br_f m (br_f (by decide) (sd_beg (fun nm' h => ?_)))
      dsimp only
      have h1 := sd_W_pos sd_z (sd_hb ro) 7
      exact ⟨_, sd_y39 (hi := sd_hb ro) (ok := fun v => sd_bo (∀ p, p < 5 → sd_S so ta v p = ow p + sd_D (nI i) (nI j) (sd_S so ta v i - ow i) p)) hi h4 (fun k hk => (sd_I_b I hk).2.2.1) (fun k hk => (sd_I_b I hk).2.2.2) (fun k hk => (I k hk).1) (fun k hk => (I k hk).2.1) hok (fun nm ex => ⟨rfl, sd_rel I⟩) (sd_W sd_z (sd_hb ro) 7 - 1) 0 _ _ (by omega) (fun k hk => by rw [h k hk]; rfl)⟩
/-! worth -/
theorem sd_ok_c {so ta w : Nat → Int32} {v v' : Nat → Nat} (h : ∀ k, k < 7 → v' k = v k) (g : sd_ok so ta w v = true) : sd_ok so ta w v' = true :=
  sd_ok_i.mpr (fun p hp => (sd_S_c h).trans (sd_ok_i.mp g p hp))
theorem sd_r0_up {so ta pc w : Nat → Int32} {hi hi' : Nat → Nat} (h : ∀ k, k < 7 → hi k ≤ hi' k) (g : (sd_r0 so ta pc w hi).1 ≠ 0) : (sd_r0 so ta pc w hi').1 ≠ 0 := by
  intro z
  unfold sd_r0 at g z
  rcases sd_rs_m (lo := sd_z) (hi := hi) (ok := sd_ok so ta w) (cs := sd_C pc) (sd_W sd_z hi 7) with ⟨a, _⟩ | ⟨_, ⟨s, hs, hk, _⟩, _⟩
  · exact g a
  · have hB := (sd_vt_ok (lo := sd_z) (hi := hi) (fun k _ => Nat.zero_le _) s hs).1
    obtain ⟨t, ht, e⟩ := sd_hit (lo := sd_z) (hi := hi') (v := sd_vt sd_z hi s) (fun k hk => ⟨Nat.zero_le _, Nat.le_trans (hB k hk).2 (h k hk)⟩)
    have o := sd_ok_c e hk
    rcases sd_rs_m (lo := sd_z) (hi := hi') (ok := sd_ok so ta w) (cs := sd_C pc) (sd_W sd_z hi' 7) with ⟨_, b⟩ | ⟨a, _⟩
    · rw [b t ht] at o
      cases o
    · exact a z
theorem sd_r0_ne {so ta pc w : Nat → Int32} {hi : Nat → Nat} (hc : ∀ k, k < 7 → sd_P (pc k)) (h4 : ∀ k, k < 7 → hi k ≤ 4) (g : (sd_r0 so ta pc w hi).1 ≠ 0) : (sd_r0 so ta pc w hi).2.1 ≠ -100000 := by
  unfold sd_r0 at g ⊢
  rcases sd_rs_m (lo := sd_z) (hi := hi) (ok := sd_ok so ta w) (cs := sd_C pc) (sd_W sd_z hi 7) with ⟨a, _⟩ | ⟨_, ⟨s, hs, _, e⟩, _⟩
  · exact absurd a g
  · have hB := (sd_vt_ok (lo := sd_z) (hi := hi) (fun k _ => Nat.zero_le _) s hs).1
    rw [e]
    exact sd_C_ne hc (fun k hk => Nat.le_trans (hB k hk).2 (h4 k hk))
def sd_h1 (hi : Nat → Nat) (j : Nat) : Nat → Nat := fun k => if k = j then hi k + 1 else hi k
theorem sd_h1_le (hi : Nat → Nat) (j k : Nat) : hi k ≤ sd_h1 hi j k ∧ sd_h1 hi j k ≤ hi k + 1 := by
  unfold sd_h1
  by_cases z : k = j
  · rw [if_pos z]; omega
  · rw [if_neg z]; omega
theorem sd_h1_u {hi : Nat → Nat} {f : Nat → Int32} {j : Nat} (hj : f j = nI (hi j)) {k : Nat} (hk : f k = nI (hi k)) : upd f j (f j + 1) k = nI (sd_h1 hi j k) := by
  unfold sd_h1
  by_cases z : k = j
  · rw [if_pos z, z, pk_us, hj]; exact nI_1 _
  · rw [if_neg z, pk_un z]; exact hk
theorem i_vc_worth {k : Nat} {u : SX} {v : SY} (I : i_Rel k u v) (hk : k + 4 ≤ 2048) (v1 : Int32) : wpX_worth (fun r u' => wpY_worth (fun r' v' => r' = r ∧ i_Rel (k + 4) u' v') v v1) u v1 := by
  obtain ⟨sp, fo, bc, lc, gc, pe, so, ta, ro, pc, ow, lw, hg, wn, nu, se, fb, sb, lb⟩ := u
  obtain ⟨ml, mm, mw, pe', so', ta', rs, pc', ow', nm, ex, f1, f2, f3⟩ := v
  obtain ⟨rfl, rfl, rfl, rfl, rfl, I⟩ := I
  unfold wpX_worth wpY_worth wpY_least
  dsimp only
  refine sd_isL (fun L => br_f (by decide) ?_) (fun L => br_t rfl (sd_seI I (sd_w0 0 1) (fun ml mm mw nm ex f1 f2 f3 hY => sd_isY (fun g => absurd g L) (fun _ => br_t rfl ⟨rfl, sd_rel I⟩))))
  obtain ⟨j, hj, rfl, hpj⟩ := id L
  have cj : (nI j).toNatClampNeg = j := nI_clamp (by omega)
  have vj : vp_in (nI j) 7 := vp_in_nI hj (by omega)
  have h4 : ∀ k, k < 7 → sd_h1 (sd_hb ro) j k ≤ 4 := fun k hk => Nat.le_trans (sd_h1_le _ _ _).2 (Nat.succ_le_succ (sd_I_b I hk).2.1)
  have hs : ∀ k, k < 7 → vp_in (so k) 5 := fun k hk => (I k hk).1
  have ht : ∀ k, k < 7 → vp_in (ta k) 5 := fun k hk => (I k hk).2.1
  have hc : ∀ k, k < 7 → sd_P (pc k) := fun k hk => (I k hk).2.2.1
  refine sd_ask (fun lw hg wn a b c => ?_)
  dsimp only
  refine sd_svI I a b c (fun sp fo bc lc gc nu se fb sb lb hX => ?_)
  dsimp only
  rw [cj]
  refine br_c (fun z => sd_seI I (sd_w0 0 1) (fun ml mm mw nm ex f1 f2 f3 hY => ?_)) (fun z => ⟨vj, vj, nm_e ?_⟩)
  · dsimp only
    refine sd_isY (fun _ => br_f (by decide) ?_) (fun g => absurd L g)
    rcases sd_XY (sd_r0l I) hX hY with ⟨_, e, _, _, l, _⟩ | ⟨_, e, _⟩
    · exact br_t l ⟨rfl, sd_rel I⟩
    · exact absurd (z.symm.trans e) (by decide)
  · have hb : ∀ k, k < 7 → hg k = nI (sd_hb ro k) := fun k hk => (b k hk).trans (sd_I_b I hk).1
    refine sd_svG (hi := sd_h1 (sd_hb ro) j) h4 hs ht a (fun k hk => sd_h1_u (hb j hj) (hb k hk)) c (fun sp fo' bc' lc' gc' nu se fb' sb' lb' hX' => ?_)
    dsimp only
    refine sd_seI I (sd_w0 0 1) (fun ml mm mw nm ex f1 f2 f3 hY => ?_)
    dsimp only
    refine sd_isY (fun _ => br_f (by decide) ?_) (fun g => absurd L g)
    rcases sd_XY (sd_r0l I) hX hY with ⟨_, e, _⟩ | ⟨r1, _, _, _, l, _⟩
    · exact absurd e z
    · have lne : ¬ ml = -100000 := by
        rcases hY with ⟨q, _⟩ | ⟨q, _, q2, _⟩
        · exact absurd q r1
        · rw [q2]
          exact sd_r0_ne hc (fun k hk => Nat.le_trans (sd_I_b I hk).2.1 (by decide)) q
      have r1' := sd_r0_up (fun k _ => (sd_h1_le (sd_hb ro) j k).1) r1
      refine br_f lne ⟨vj, vj, nm_e ?_⟩
      have hrs : rs j = nI (sd_hb ro j) := (sd_I_b I hj).2.2.2 hpj
      refine sd_seG (hi := sd_h1 (sd_hb ro) j) h4 (fun k hk zk => ?_) (fun k hk nk => sd_h1_u hrs ((sd_I_b I hk).2.2.2 nk)) hs ht hc (sd_w0 0 1) (fun ml' mm' mw' nm ex f1' f2' f3' hY' => ?_)
      · unfold sd_h1
        rw [if_neg (fun e => hpj (by rw [← e]; exact zk))]
        exact (sd_I_b I hk).2.2.1 zk
      · dsimp only
        refine ⟨vj, vj, nm_e ⟨?_, sd_rel ?_⟩⟩
        · rcases sd_XY (sd_rl h4) hX' hY' with ⟨q, _⟩ | ⟨_, _, _, _, l', _⟩
          · exact absurd q r1'
          · rw [l, l']
        · refine sd_I_set (j := j) I (fun n hn => ⟨rfl, rfl, rfl, rfl, rfl, by rw [pk_un hn, pk_un hn]⟩) ?_
          obtain ⟨b1, b2, b3, r, hr, b4, b5⟩ := I j hj
          exact ⟨b1, b2, b3, r, hr, by rw [pk_us, pk_us, Int32.add_sub_cancel]; exact b4, b5⟩
