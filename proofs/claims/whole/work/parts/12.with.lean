/-! leastWith -/
noncomputable def sd_okw (so ta w : Nat → Int32) (j : Nat) (n : Int32) (v : Nat → Nat) : Bool := sd_bo ((∀ p, p < 5 → sd_S so ta v p = w p) ∧ nI (v j) = n)
noncomputable def sd_rw (so ta pc w : Nat → Int32) (hi : Nat → Nat) (j : Nat) (n : Int32) : sd_R := sd_rs sd_z hi (sd_okw so ta w j n) (sd_C pc) (sd_W sd_z hi 7)
theorem sd_seW {ml mm mw : Int32} {pe so ta rs pc ow nm ex f1 f2 f3 : Nat → Int32} {post : SY → Prop} {ro : Nat → Int32} {j : Nat} {n : Int32} (I : sd_I pe so ta pc ro rs) (hj : j < 7) (H : ∀ (ml mm mw : Int32) (nm ex f1 f2 f3 : Nat → Int32), sd_YF (sd_rw so ta pc ow (sd_hb ro) j n) ml mm mw f1 f2 f3 → post (ml, mm, mw, pe, so, ta, rs, pc, ow, nm, ex, f1, f2, f3)) : wpY_search post (ml, mm, mw, pe, so, ta, rs, pc, ow, nm, ex, f1, f2, f3) 0 1 0 (nI j) n := by
  have cj : (nI j).toNatClampNeg = j := nI_clamp (by omega)
  refine sd_search (ok := sd_okw so ta ow j n) (fun k hk => Nat.le_trans (sd_I_b I hk).2.1 (by decide)) (fun k hk => (sd_I_b I hk).2.2.1) (fun k hk => (sd_I_b I hk).2.2.2) (fun k hk => (I k hk).1) (fun k hk => (I k hk).2.1) (fun k hk => (I k hk).2.2.1) (Or.inr ⟨j, hj, rfl⟩) (fun v => ?_) H
  unfold sd_okw
  rw [sd_bo_i, cj]
  constructor
  · exact fun g => ⟨fun p hp => (g.1 p hp).trans (sd_w0 0 1 p hp), Or.inr g.2⟩
  · exact fun g => ⟨fun p hp => (g.1 p hp).trans (sd_w0 0 1 p hp).symm, g.2.resolve_left (nI_pos (by omega))⟩
theorem sd_rw_0 {so ta pc w : Nat → Int32} {hi : Nat → Nat} {j : Nat} {n : Int32} (hj : j < 7) (h : ∀ m, m ≤ hi j → ¬ nI m = n) : (sd_rw so ta pc w hi j n).1 = 0 := by
  unfold sd_rw
  rcases sd_rs_m (lo := sd_z) (hi := hi) (ok := sd_okw so ta w j n) (cs := sd_C pc) (sd_W sd_z hi 7) with ⟨a, _⟩ | ⟨_, ⟨s, hs, hk, _⟩, _⟩
  · exact a
  · have hB := (sd_vt_ok (lo := sd_z) (hi := hi) (fun k _ => Nat.zero_le _) s hs).1
    exact absurd (sd_bo_i.mp hk).2 (h _ (hB j hj).2)
def sd_at (f : Nat → Nat) (j m : Nat) : Nat → Nat := fun k => if k = j then m else f k
theorem sd_at_s (f : Nat → Nat) (j m : Nat) : sd_at f j m j = m := if_pos rfl
theorem sd_at_n {f : Nat → Nat} {j m k : Nat} (h : k ≠ j) : sd_at f j m k = f k := if_neg h
theorem sd_rw_same {so ta pc w : Nat → Int32} {hi : Nat → Nat} {j m : Nat} (hj : j < 7) (h4 : ∀ k, k < 7 → hi k ≤ 4) (hm : m ≤ hi j) : ((sd_rs (sd_at sd_z j m) (sd_at hi j m) (sd_ok so ta w) (sd_C pc) (sd_W (sd_at sd_z j m) (sd_at hi j m) 7)).1 = 0 ∧ (sd_rw so ta pc w hi j (nI m)).1 = 0) ∨ ((sd_rs (sd_at sd_z j m) (sd_at hi j m) (sd_ok so ta w) (sd_C pc) (sd_W (sd_at sd_z j m) (sd_at hi j m) 7)).1 ≠ 0 ∧ (sd_rw so ta pc w hi j (nI m)).1 ≠ 0 ∧ (sd_rs (sd_at sd_z j m) (sd_at hi j m) (sd_ok so ta w) (sd_C pc) (sd_W (sd_at sd_z j m) (sd_at hi j m) 7)).2.1 = (sd_rw so ta pc w hi j (nI m)).2.1) := by
  have hl : ∀ k, k < 7 → sd_at sd_z j m k ≤ sd_at hi j m k := fun k _ => by
    by_cases z : k = j
    · rw [z, sd_at_s, sd_at_s]; exact Nat.le_refl _
    · rw [sd_at_n z]; exact Nat.zero_le _
  refine sd_rs_same (fun s hs hk => ?_) (fun s hs hk => ?_)
  · have hB := (sd_vt_ok hl s hs).1
    have bj := hB j hj
    rw [sd_at_s, sd_at_s] at bj
    obtain ⟨t, ht, e⟩ := sd_hit (lo := sd_z) (hi := hi) (v := sd_vt (sd_at sd_z j m) (sd_at hi j m) s) (fun k hk7 => ⟨Nat.zero_le _, by
      by_cases z : k = j
      · rw [z]; omega
      · have := (hB k hk7).2
        rw [sd_at_n z] at this
        exact this⟩)
    refine ⟨t, ht, sd_bo_i.mpr ⟨fun p hp => (sd_S_c e).trans (sd_ok_i.mp hk p hp), ?_⟩, sd_C_c e⟩
    rw [e j hj]
    exact congrArg nI (by omega)
  · have hB := (sd_vt_ok (lo := sd_z) (hi := hi) (fun k _ => Nat.zero_le _) s hs).1
    obtain ⟨g1, g2⟩ := sd_bo_i.mp hk
    have bj := hB j hj
    have b4 := h4 j hj
    have vm : sd_vt sd_z hi s j = m := (nI_eq (by omega) (by omega)).mp g2
    obtain ⟨t, ht, e⟩ := sd_hit (lo := sd_at sd_z j m) (hi := sd_at hi j m) (v := sd_vt sd_z hi s) (fun k hk7 => by
      by_cases z : k = j
      · rw [z, sd_at_s, sd_at_s, vm]; exact ⟨Nat.le_refl _, Nat.le_refl _⟩
      · rw [sd_at_n z, sd_at_n z]; exact hB k hk7)
    exact ⟨t, ht, sd_ok_i.mpr (fun p hp => (sd_S_c e).trans (g1 p hp)), sd_C_c e⟩
theorem sd_at_u {f : Nat → Nat} {g : Nat → Int32} {j m k : Nat} (h : g k = nI (f k)) : upd g j (nI m) k = nI (sd_at f j m k) := by
  by_cases z : k = j
  · rw [z, pk_us, sd_at_s]
  · rw [pk_un z, sd_at_n z]; exact h
theorem i_vc_leastWith {k : Nat} {u : SX} {v : SY} (I : i_Rel k u v) (hk : k + 4 ≤ 2048) (v1 : Int32) (v2 : Int32) : wpX_leastWith (fun r u' => wpY_leastWith (fun r' v' => r' = r ∧ i_Rel (k + 4) u' v') v v1 v2) u v1 v2 := by
  obtain ⟨sp, fo, bc, lc, gc, pe, so, ta, ro, pc, ow, lw, hg, wn, nu, se, fb, sb, lb⟩ := u
  obtain ⟨ml, mm, mw, pe', so', ta', rs, pc', ow', nm, ex, f1, f2, f3⟩ := v
  obtain ⟨rfl, rfl, rfl, rfl, rfl, I⟩ := I
  unfold wpX_leastWith wpY_leastWith
  dsimp only
  refine sd_isL (fun L => br_f (by decide) ?_) (fun L => br_t rfl (sd_isY (fun g => absurd g L) (fun _ => br_t rfl ⟨rfl, sd_rel I⟩)))
  obtain ⟨j, hj, rfl, hpj⟩ := id L
  have cj : (nI j).toNatClampNeg = j := nI_clamp (by omega)
  have vj : vp_in (nI j) 7 := vp_in_nI hj (by omega)
  have hrj := (sd_I_b I hj).1
  have hr3 := (sd_I_b I hj).2.1
  have h4 : ∀ k, k < 7 → sd_hb ro k ≤ 4 := fun k hk => Nat.le_trans (sd_I_b I hk).2.1 (by decide)
  rw [cj]
  refine br_c (fun n0 => sd_isY (fun _ => br_f (by decide) (sd_seW I hj (fun ml mm mw nm ex f1 f2 f3 hY => ?_))) (fun g => absurd L g)) (fun n0 => ⟨vj, br_c (fun n1 => ?_) (fun n1 => sd_isY (fun _ => br_f (by decide) (sd_seW I hj (fun ml mm mw nm ex f1 f2 f3 hY => ?_))) (fun g => absurd L g))⟩)
  · have q := sd_rw_0 (so := so) (ta := ta) (pc := pc) (w := ow) (hi := sd_hb ro) (n := v2) hj (fun m hm e => by rw [← e] at n0; exact nI_pos (by omega) n0)
    rcases hY with ⟨_, _, l, _⟩ | ⟨y, _⟩
    · exact ⟨l, sd_rel I⟩
    · exact absurd q y
  · obtain ⟨m, hm, rfl⟩ := nI_of n0
    rw [hrj, nI_leI hm (by omega)] at n1
    refine sd_ask (fun lw hg wn a b c => ?_)
    dsimp only
    refine ⟨vj, nm_e ⟨vj, nm_e ?_⟩⟩
    refine sd_survey (lo := sd_at sd_z j m) (hi := sd_at (sd_hb ro) j m) (ok := sd_ok so ta ow) (fun k _ => ?_) (fun k hk7 => ?_) (fun k hk7 => sd_at_u (f := sd_z) (a k hk7)) (fun k hk7 => sd_at_u ((b k hk7).trans (sd_I_b I hk7).1)) (fun k hk7 => (I k hk7).1) (fun k hk7 => (I k hk7).2.1) (fun v => ?_) (fun sp fo bc lc gc nu se fb sb lb hX => ?_)
    · by_cases z : k = j
      · rw [z, sd_at_s, sd_at_s]; exact Nat.le_refl _
      · rw [sd_at_n z]; exact Nat.zero_le _
    · by_cases z : k = j
      · rw [z, sd_at_s]; omega
      · rw [sd_at_n z]; exact h4 k hk7
    · rw [sd_ok_i]
      exact ⟨fun g p hp => (g p hp).trans (c p hp).symm, fun g p hp => (g p hp).trans (c p hp)⟩
    · dsimp only
      unfold wpX_leastFound
      dsimp only
      refine br_c (fun z => sd_isY (fun _ => br_f (by decide) (sd_seW I hj (fun ml mm mw nm ex f1 f2 f3 hY => ⟨?_, sd_rel I⟩))) (fun g => absurd L g)) (fun z => sd_isY (fun _ => br_f (by decide) (sd_seW I hj (fun ml mm mw nm ex f1 f2 f3 hY => ⟨?_, sd_rel I⟩))) (fun g => absurd L g))
      · rcases sd_rw_same (so := so) (ta := ta) (pc := pc) (w := ow) hj h4 n1 with ⟨x, y⟩ | ⟨x, y, _⟩
        · rcases hY with ⟨_, _, l, _⟩ | ⟨y', _⟩
          · exact l
          · exact absurd y y'
        · rcases hX with ⟨x', _⟩ | ⟨_, e, _⟩
          · exact absurd x' x
          · exact absurd (z.symm.trans e) (by decide)
      · rcases sd_rw_same (so := so) (ta := ta) (pc := pc) (w := ow) hj h4 n1 with ⟨x, y⟩ | ⟨x, y, q⟩
        · rcases hX with ⟨_, e, _⟩ | ⟨x', _⟩
          · exact absurd e z
          · exact absurd x x'
        · rcases hX with ⟨x', _⟩ | ⟨_, _, _, l, _⟩
          · exact absurd x' x
          · rcases hY with ⟨y', _⟩ | ⟨_, _, l', _⟩
            · exact absurd y' y
            · exact l'.trans (q.symm.trans l.symm)
  · have q := sd_rw_0 (so := so) (ta := ta) (pc := pc) (w := ow) (hi := sd_hb ro) (n := v2) hj (fun m hm e => by
      rw [← e, hrj] at n1
      exact n1 (nI_le hm (by omega)))
    rcases hY with ⟨_, _, l, _⟩ | ⟨y, _⟩
    · exact ⟨l, sd_rel I⟩
    · exact absurd q y
