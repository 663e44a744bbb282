/-! the law, for every script -/
def zz : zA := fun _ => 0
def zt0 : zT := (0, zz, zz, zz, zz, zz)
def zw0 : zW := ((zt0, 0), false, (zt0, 0), 0, fun _ => (zt0, 0), 0, zz, 0, zz, zz)
theorem zt0_V : tV zt0 := ⟨by decide, fun p hp => absurd hp (Nat.not_lt_zero _)⟩
theorem zw0_V : WV zw0 := ⟨⟨zt0_V, by decide⟩, fun z => absurd (show false = true from z) hFT, by decide, fun i hi => absurd hi (Nat.not_lt_zero _), by decide, fun i hi => absurd hi (Nat.not_lt_zero _), by decide, fun i hi => absurd hi (Nat.not_lt_zero _)⟩
theorem six {P : Nat → Prop} (h1 : P 1) (h2 : P 2) (h3 : P 3) (h4 : P 4) (h5 : P 5) (h6 : P 6) : ∀ j, 1 ≤ j → j < 7 → P j := fun j a b => by
  have : j = 1 ∨ j = 2 ∨ j = 3 ∨ j = 4 ∨ j = 5 ∨ j = 6 := by omega
  rcases this with rfl | rfl | rfl | rfl | rfl | rfl <;> assumption
section z72
variable {H : zH}
theorem xp_0 (h : ∀ q, q ∈ zst0 → H.1 q.1 q.2 = 0) : XP H zw0 := by
  have e : ∀ a j, (a, j) ∈ zst0 → H.1 a j = 0 := fun a j hq => h (a, j) hq
  refine ⟨⟨⟨e 2 5 (by decide), fun p hp => absurd hp (Nat.not_lt_zero _)⟩, e 2 6 (by decide)⟩, ⟨e 1 4 (by decide), fun z => absurd (show false = true from z) hFT⟩, ⟨0, by decide, e 21 2 (by decide), e 21 1 (by decide), fun i hi => absurd hi (Nat.not_lt_zero _)⟩, ⟨e 71 1 (by decide), fun j hj => absurd hj (Nat.not_lt_zero _)⟩, ⟨e 1 8 (by decide), fun j hj => absurd hj (Nat.not_lt_zero _)⟩, six (e 74 1 (by decide)) (e 74 2 (by decide)) (e 74 3 (by decide)) (e 74 4 (by decide)) (e 74 5 (by decide)) (e 74 6 (by decide))⟩
theorem mp_0 (h : ∀ q, q ∈ zst0 → H.1 q.1 q.2 = 0) : MP H zw0 := by
  have e : ∀ a j, (a, j) ∈ zst0 → H.1 a j = 0 := fun a j hq => h (a, j) hq
  refine ⟨⟨⟨e 123 0 (by decide), fun p hp => absurd hp (Nat.not_lt_zero _)⟩, e 123 6 (by decide)⟩, ⟨e 123 21 (by decide), fun z => absurd (show false = true from z) hFT⟩, ⟨e 123 27 (by decide), fun i hi => absurd hi (Nat.not_lt_zero _)⟩, ⟨e 123 12 (by decide), fun j hj => absurd hj (Nat.not_lt_zero _)⟩, ⟨e 123 32 (by decide), fun j hj => absurd hj (Nat.not_lt_zero _)⟩, six (e 129 1 (by decide)) (e 129 2 (by decide)) (e 129 3 (by decide)) (e 129 4 (by decide)) (e 129 5 (by decide)) (e 129 6 (by decide))⟩
end z72
theorem z_HL (L : Nat) (xs : Nat → Int32) (hL : L ≤ 3072) : ∃ n N d h', zex (L, xs) 15 m_L_law (zev (L, xs) d N) n (0, [some (.ref 0), none, none, none], [], (0, []), zh0) = some (some (.int 1), zPH, h') := by
  obtain ⟨H, hr, hz⟩ := zchk_ok zstart
  obtain ⟨h', hl⟩ := law_loop (X := (L, xs)) hL (L / 6) 0 H zw0 (by show 0 + 6 * (L / 6) ≤ L; omega) (by show L < 0 + 6 * (L / 6) + 6; omega) (xp_0 hz) (mp_0 hz) zw0_V
  obtain ⟨n, hn⟩ := zlim_some hl
  have hn := zfr_some hn
  refine ⟨max n 400 + 10, max n 400, 15, h', ?_⟩
  refine zruS_ok (C := zevS 15 400) (C' := zev (L, xs) 15 (max n 400)) (fun m as p h x q => zev_mono 15 400 (max n 400) m as p h x (by omega) (zevS_ok 15 400 m as p h x q)) 10 _ _ hr (max n 400) _ ?_
  exact zex_mono (fun m as p h x q => zev_mono 15 n (max n 400) m as p h x (by omega) q) n (max n 400) _ _ (by omega) hn
