def zsl (n : Nat) : Nat := ((zSH.take n).map fun q => q.2).sum
theorem zsl_succ : ∀ n, n < 140 → zsl (n + 1) = zsl n + (zSH.getD n (9, 0)).2 := by decide +kernel
def zisr : FieldType → Bool
  | .object _ => true
  | .array _ => true
  | _ => false
theorem zkind0 : ∀ c, c < 5 → ∀ j, j < zNf c → zfk c j = 0 → zTy c j = .int ∧ (zF c j).2.2.2 = false := by decide +kernel
theorem zkind1 : ∀ c, c < 5 → ∀ j, j < zNf c → zfk c j = 1 → zTy c j = .boolean ∧ (zF c j).2.2.2 = false := by decide +kernel
theorem zkind2 : ∀ c, c < 5 → ∀ j, j < zNf c → zfk c j = 2 → zisr (zTy c j) = true ∧ (zF c j).2.2.2 = true := by decide +kernel
theorem zkind3 : ∀ c, c < 5 → ∀ j, j < zNf c → zfk c j = 3 → zisr (zTy c j) = true ∧ (zF c j).2.2.2 = false ∧ c = 4 := by decide +kernel
theorem zkind3u : ∀ c, c < 5 → ∀ i, i < zNf c → ∀ j, j < zNf c → zfk c i = 3 → zfk c j = 3 → i = j := by decide +kernel
theorem zSH_six : ∀ i, i < 140 → (zSH.getD i (9, 0)).1 = 6 → i = 122 := by decide +kernel
theorem zNf_lt {c j : Nat} (h : j < zNf c) : c < 5 := by
  unfold zNf at h
  split at h
  · omega
  · omega
  · omega
  · omega
  · omega
  · exact absurd h (Nat.not_lt_zero _)
theorem zce_obj {b bs : Nat} {cI cH : ClassId} {p : zP} {h : zH} {q c n : Nat} (hs : zSH.getD q (9, 0) = (2 + c, n)) : zce b bs cI cH p h q = .inr (c, zfs b bs p h (q + 1) c) := by
  unfold zce
  rw [hs, Nat.add_comm 2 c]
theorem zce_int {b bs : Nat} {cI cH : ClassId} {p : zP} {h : zH} {q n : Nat} (hs : zSH.getD q (9, 0) = (0, n)) : zce b bs cI cH p h q = .inl (cI, n, .inl (fun j => h.1 (q + 1) j)) := by
  unfold zce
  rw [hs]
theorem zce_row {b bs : Nat} {cI cH : ClassId} {p : zP} {h : zH} {q n : Nat} (hs : zSH.getD q (9, 0) = (1, n)) : zce b bs cI cH p h q = .inl (cH, n, .inr (.inr (.inr (.inr (fun j => zra bs (zlk p.2 (q + 1) j)))))) := by
  unfold zce
  rw [hs]
theorem zce_ext {b bs : Nat} {cI cH : ClassId} {p p' : zP} {h h' : zH} {i : Nat} (h1 : ∀ j, h'.1 (i + 1) j = h.1 (i + 1) j) (h2 : ∀ j, zlk p'.2 (i + 1) j = zlk p.2 (i + 1) j) (h3 : h'.2 = h.2 ∨ (zSH.getD i (9, 0)).1 ≠ 6) : zce b bs cI cH p' h' i = zce b bs cI cH p h i := by
  unfold zce
  split
  · simp only [h1]
  · simp only [h2]
  · rename_i c n hs
    congr 2
    unfold zfs
    refine List.map_congr_left fun j hj => ?_
    have hj := List.mem_range.mp hj
    unfold zfv
    split
    · rw [h2]
    · rename_i hk
      rcases h3 with h3 | h3
      · rw [h3]
      · have := (zkind3 c (zNf_lt hj) j hj hk).2.2
        subst this
        rw [hs] at h3
        exact absurd rfl h3
    · rw [h1]
theorem znar {ty : FieldType} {v : Value} (h : (ty = .int ∧ ∃ x, v = .int x) ∨ (ty = .boolean ∧ (v = .int 0 ∨ v = .int 1)) ∨ (zisr ty = true ∧ ∃ a, v = .ref a)) : narrow ty v = v ∧ fits ty v = true := by
  rcases h with ⟨rfl, x, rfl⟩ | ⟨rfl, rfl | rfl⟩ | ⟨h, a, rfl⟩
  · exact ⟨rfl, rfl⟩
  · exact ⟨rfl, rfl⟩
  · exact ⟨rfl, rfl⟩
  · cases ty with
    | object n => exact ⟨rfl, rfl⟩
    | array t => exact ⟨rfl, rfl⟩
    | _ => cases h
