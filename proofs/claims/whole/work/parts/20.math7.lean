theorem zNx_in {tb : Nat → Int} {len q : Nat} (hb : ∀ j, j < len → 0 ≤ tb j ∧ tb j ≤ 127) : -1 ≤ zNx tb len q ∧ zNx tb len q ≤ 127 := by
  unfold zNx
  split
  · rename_i h; have := hb q h; omega
  · omega
theorem zNx_lt {tb : Nat → Int} {len q : Nat} (h : zNx tb len q ≠ -1) : q < len := by
  unfold zNx at h
  by_cases e : q < len
  · exact e
  · rw [if_neg e] at h; exact absurd rfl h
theorem rk_r {tb : Nat → Int} {len q : Nat} {u : Nat × Int} (hl : len ≤ 150) (hq : q ≤ 150) (h : zRk tb len q u) : u.1 ≤ 150 ∧ -1 ≤ u.2 ∧ u.2 ≤ 200 := by
  by_cases c : zKo (zNx tb len q)
  · obtain ⟨e1, e2⟩ := h.2 c
    have := zNx_lt (tb := tb) (len := len) (q := q) (by unfold zKo at c; omega)
    omega
  · obtain ⟨e1, e2⟩ := h.1 c; omega
theorem rn_r {tb : Nat → Int} {len q : Nat} {er : Int} {u : Nat × Int × Int} (hl : len ≤ 150) (hq : q ≤ 150) (he : -1 ≤ er ∧ er ≤ 200) (h : zRn tb len q er u) : u.1 ≤ 150 ∧ -1 ≤ u.2.1 ∧ u.2.1 ≤ 200 := by
  by_cases c : er = -1
  · by_cases d : zDg tb len q = true
    · obtain ⟨e1, e2, -⟩ := h.2.2 c d
      have := zNe_len d
      omega
    · obtain ⟨e1, e2⟩ := h.2.1 c d; omega
  · obtain ⟨e1, e2⟩ := h.1 c; omega
theorem rn_ok {tb : Nat → Int} {len q : Nat} {er : Int} {u : Nat × Int × Int} (h : zRn tb len q er u) (h1 : u.2.1 = -1) : er = -1 ∧ zDg tb len q = true ∧ u.1 = zNe tb len q ∧ u.2.2 = zNv tb len q ∧ 0 ≤ u.2.2 ∧ u.2.2 ≤ 9999 := by
  by_cases c : er = -1
  · by_cases d : zDg tb len q = true
    · obtain ⟨e1, e2, e3⟩ := h.2.2 c d
      have := zNv_in d
      exact ⟨c, d, e1, e3, by omega, by omega⟩
    · obtain ⟨e1, e2⟩ := h.2.1 c d; omega
  · obtain ⟨e1, e2⟩ := h.1 c; omega
theorem ra_r {tb : Nat → Int} {len q : Nat} {er : Int} {u : Nat × Int × Int} (hl : len ≤ 150) (hq : q ≤ 150) (he : -1 ≤ er ∧ er ≤ 200) (h : zRa tb len q er u) : u.1 ≤ 150 ∧ -1 ≤ u.2.1 ∧ u.2.1 ≤ 200 := by
  by_cases c : er = -1
  · by_cases d : zDg tb len q = true
    · obtain ⟨e1, e2, e3⟩ := h.2.2 c d
      have := zNe_len d
      by_cases f : 2000 < zNv tb len q ∧ ¬ zDg tb len (zNe tb len q) = true
      · have := e2 f; omega
      · have := e3 f; omega
    · obtain ⟨e1, e2⟩ := h.2.1 c d; omega
  · obtain ⟨e1, e2⟩ := h.1 c; omega
theorem rs_r {tb : Nat → Int} {len q : Nat} {er : Int} {u : Nat × Int} (hl : len ≤ 150) (hq : q ≤ 150) (he : -1 ≤ er ∧ er ≤ 200) (h : zRs tb len q er u) : u.1 ≤ 150 ∧ -1 ≤ u.2 ∧ u.2 ≤ 200 := by
  by_cases c : er = -1
  · by_cases d : zSo (zNx tb len q)
    · obtain ⟨e1, e2⟩ := h.2.2 c d
      have := zNx_lt (tb := tb) (len := len) (q := q) (by unfold zSo at d; omega)
      omega
    · obtain ⟨e1, e2⟩ := h.2.1 c d; omega
  · obtain ⟨e1, e2⟩ := h.1 c; omega
theorem rc_r {tb : Nat → Int} {len q : Nat} {er : Int} {u : Nat × Int} (hl : len ≤ 150) (hq : q ≤ 150) (he : -1 ≤ er ∧ er ≤ 200) (h : zRc tb len q er u) : u.1 ≤ 150 ∧ -1 ≤ u.2 ∧ u.2 ≤ 200 := by
  by_cases c : er = -1
  · by_cases d : zNx tb len q = 59
    · obtain ⟨e1, e2⟩ := h.2.2 c d
      have := zNx_lt (tb := tb) (len := len) (q := q) (by omega)
      omega
    · obtain ⟨e1, e2⟩ := h.2.1 c d; omega
  · obtain ⟨e1, e2⟩ := h.1 c; omega
theorem ra_no {tb : Nat → Int} {len q : Nat} {er : Int} {u : Nat × Int × Int} (h : zRn tb len q er u) (h1 : u.2.1 ≠ -1) : zRa tb len q er (u.1, u.2.1, u.2.2) := by
  refine ⟨h.1, h.2.1, fun c d => ?_⟩
  exact absurd (h.2.2 c d).2.1 h1
theorem ra_lo {tb : Nat → Int} {len q : Nat} {er : Int} {u : Nat × Int × Int} (h : zRn tb len q er u) (h1 : u.2.1 = -1) (h2 : u.2.2 ≤ 2000) : zRa tb len q er (u.1, u.2.1, u.2.2) := by
  obtain ⟨c, d, e1, e2, -⟩ := rn_ok h h1
  refine ⟨fun g => absurd c g, fun _ g => absurd d g, fun _ _ => ⟨e1, fun g => absurd g.1 (by omega), fun _ => ⟨h1, e2⟩⟩⟩
theorem ra_dg {tb : Nat → Int} {len q : Nat} {er : Int} {u : Nat × Int × Int} (h : zRn tb len q er u) (h1 : u.2.1 = -1) (h3 : zDg tb len u.1 = true) : zRa tb len q er (u.1, u.2.1, u.2.2) := by
  obtain ⟨c, d, e1, e2, -⟩ := rn_ok h h1
  refine ⟨fun g => absurd c g, fun _ g => absurd d g, fun _ _ => ⟨e1, fun g => absurd (by rw [← e1]; exact h3) g.2, fun _ => ⟨h1, e2⟩⟩⟩
theorem ra_hi {tb : Nat → Int} {len q : Nat} {er : Int} {u : Nat × Int × Int} (h : zRn tb len q er u) (h1 : u.2.1 = -1) (h2 : 2000 < u.2.2) (h3 : ¬ zDg tb len u.1 = true) : zRa tb len q er (u.1, (q : Int), u.2.2) := by
  obtain ⟨c, d, e1, e2, -⟩ := rn_ok h h1
  refine ⟨fun g => absurd c g, fun _ g => absurd d g, fun _ _ => ⟨e1, fun _ => rfl, fun g => absurd ⟨by omega, by rw [← e1]; exact h3⟩ g⟩⟩
def zTa (tb : Nat → Int) (len : Nat) (kk tt ta : Nat → Int) (N : Nat) : Prop := ∀ j, j < N → kk j = zPk0 tb len (zPp tb len j) ∧ tt j = zPt tb len (zPp tb len j) ∧ ta j = zPa tb len (zPp tb len j)
/-- what reading one pulse leaves -/
def zRp (tb : Nat → Int) (len q fo : Nat) (kk tt ta : Nat → Int) (u : Nat × Nat × (Nat → Int) × (Nat → Int) × (Nat → Int)) : Prop :=
  u.1 ≤ 150 ∧ (zPe tb len q = -1 → u.1 = zPn tb len q ∧ u.2.1 = fo + 1 ∧ u.2.2.1 fo = zPk0 tb len q ∧ u.2.2.2.1 fo = zPt tb len q ∧ u.2.2.2.2 fo = zPa tb len q) ∧ (zPe tb len q ≠ -1 → u.2.1 = fo) ∧ ∀ j, j < fo → u.2.2.1 j = kk j ∧ u.2.2.2.1 j = tt j ∧ u.2.2.2.2 j = ta j
theorem rp_y {tb : Nat → Int} {len q fo a : Nat} {kk tt ta : Nat → Int} {x y z : Int} (hr : a ≤ 150) (h : zPe tb len q = -1 → a = zPn tb len q ∧ y = zPt tb len q ∧ z = zPa tb len q) (he : zPe tb len q = -1) (hx : x = zPk0 tb len q) : zRp tb len q fo kk tt ta (a, fo + 1, zU kk fo x, zU tt fo y, zU ta fo z) := by
  obtain ⟨e1, e2, e3⟩ := h he
  refine ⟨hr, fun _ => ⟨e1, rfl, ?_, ?_, ?_⟩, fun g => absurd he g, fun j hj => ⟨?_, ?_, ?_⟩⟩
  · show zU kk fo x fo = _; rw [zU_s]; exact hx
  · show zU tt fo y fo = _; rw [zU_s]; exact e2
  · show zU ta fo z fo = _; rw [zU_s]; exact e3
  · show zU kk fo x j = _; rw [zU_n (by omega)]
  · show zU tt fo y j = _; rw [zU_n (by omega)]
  · show zU ta fo z j = _; rw [zU_n (by omega)]
theorem rp_n {tb : Nat → Int} {len q fo a : Nat} {kk tt ta : Nat → Int} (hr : a ≤ 150) (he : zPe tb len q ≠ -1) : zRp tb len q fo kk tt ta (a, fo, kk, tt, ta) := ⟨hr, fun g => absurd g he, fun _ => rfl, fun _ _ => ⟨rfl, rfl, rfl⟩⟩
/-- the reading's loop: no error yet, or all said -/
def zRl (tb : Nat → Int) (len i : Nat) (q fo : Nat) (er : Int) (kk tt ta : Nat → Int) : Prop :=
  (er = -1 ∧ fo = i ∧ q = zPp tb len i ∧ (∀ j, j < i → zPp tb len j < len ∧ zPe tb len (zPp tb len j) = -1) ∧ zTa tb len kk tt ta i) ∨ (er ≠ -1 ∧ fo ≤ 30 ∧ zTxt tb len fo er ∧ zTa tb len kk tt ta fo)
theorem rl_s {tb : Nat → Int} {len i q fo : Nat} {er : Int} {kk tt ta : Nat → Int} {u : Nat × Nat × (Nat → Int) × (Nat → Int) × (Nat → Int)} (hi : i < 30) (hq : q < len) (he : er = -1) (h : zRl tb len i q fo er kk tt ta) (hu : zRp tb len q fo kk tt ta u) : zRl tb len (i + 1) u.1 u.2.1 (zPe tb len q) u.2.2.1 u.2.2.2.1 u.2.2.2.2 := by
  rcases h with ⟨h1, h2, h3, h4, h5⟩ | h
  · subst h2; subst h3
    obtain ⟨k0, k1, k2, k3⟩ := hu
    by_cases c : zPe tb len (zPp tb len fo) = -1
    · obtain ⟨a1, a2, a3, a4, a5⟩ := k1 c
      refine Or.inl ⟨c, a2, a1, fun j hj => ?_, fun j hj => ?_⟩
      · by_cases e : j = fo
        · subst e; exact ⟨hq, c⟩
        · exact h4 j (by omega)
      · by_cases e : j = fo
        · subst e; exact ⟨a3, a4, a5⟩
        · obtain ⟨b1, b2, b3⟩ := k3 j (by omega)
          rw [b1, b2, b3]; exact h5 j (by omega)
    · have a2 := k2 c
      refine Or.inr ⟨c, by omega, ?_, ?_⟩
      · rw [a2]; exact ⟨h4, Or.inr ⟨hq, rfl, c⟩⟩
      · rw [a2]; intro j hj
        obtain ⟨b1, b2, b3⟩ := k3 j hj
        rw [b1, b2, b3]; exact h5 j hj
  · exact absurd he h.1
theorem rl_e {tb : Nat → Int} {len i q fo : Nat} {er : Int} {kk tt ta : Nat → Int} (hl : len ≤ 150) (h : zRl tb len i q fo er kk tt ta) (hx : i = 30 ∨ len ≤ q ∨ er ≠ -1) (hi : i ≤ 30) : zTxt tb len fo er ∧ zTa tb len kk tt ta fo ∧ fo ≤ 30 := by
  rcases h with ⟨h1, h2, h3, h4, h5⟩ | ⟨h1, h2, h3, h4⟩
  · subst h2; subst h3
    have := zPp_ge h4
    refine ⟨⟨h4, Or.inl ⟨h1, ?_⟩⟩, h5, hi⟩
    omega
  · exact ⟨h3, h4, h2⟩
