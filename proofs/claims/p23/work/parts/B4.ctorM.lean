/-! THE REFERENCE: it is made -/
theorem m14_1 (l : Launch) : M14_1 l 7 17076 (fun d S V => 0 ≤ d ∧ (∀ c : Int, d < c → c ≤ d + 7 → S.1 c = 0) ∧ ∀ j : Int, V d j = 0) (fun d S V S' V' => S'.1 d = 32 ∧ j_made S S' V V' d (d + 7) ∧ ∀ c j : Int, d ≤ c → c ≤ d + 7 → V' c j = 0) := by
  refine e14_1 ?_
  rintro C G h hrm hcs hl hn d S V hd ⟨d0, hz, hv⟩ R
  have z1 := hz (d + 1) (by omega) (by omega)
  have z2 := hz (d + 2) (by omega) (by omega)
  have z3 := hz (d + 3) (by omega) (by omega)
  have z4 := hz (d + 4) (by omega) (by omega)
  have z5 := hz (d + 5) (by omega) (by omega)
  have z6 := hz (d + 6) (by omega) (by omega)
  have z7 := hz (d + 7) (by omega) (by omega)
  refine t14_1_0 (a1 := d + 1) (a2 := d + 2) (a3 := d + 3) (a4 := d + 4) (a5 := d + 5) (a6 := d + 6) (a7 := d + 7) h (by omega) hn hd (by omega) z1 (by rw [hcs.1]; omega) (by rw [hcs.2]; omega) (by omega) (by simp [j_sp, j_ns, z2]) (by rw [hcs.1]; omega) (by rw [hcs.2]; omega) (by omega) (by simp [j_sp, j_ns, z3]) (by rw [hcs.1]; omega) (by rw [hcs.2]; omega) (by omega) (by simp [j_sp, j_ns, z4]) (by rw [hcs.1]; omega) (by rw [hcs.2]; omega) (by omega) (by simp [j_sp, j_ns, z5]) (by rw [hcs.1]; omega) (by rw [hcs.2]; omega) (by omega) (by simp [j_sp, j_ns, z6]) (by rw [hcs.1]; omega) (by rw [hcs.2]; omega) (by omega) (by simp [j_sp, j_ns, z7]) (by rw [hcs.1]; omega) (by rw [hcs.2]; omega) R ?_ (Nat.le_refl _) (Nat.le_refl _)
  have e : ∀ i : Int, d = d + i ↔ i = 0 := fun i => by omega
  refine ⟨by simp [j_sp, j_ns, hd, e], ⟨fun c hc => ?_, fun x x0 x1 => ?_⟩, fun c j c0 c1 => ?_⟩
  · have c0 : c ≠ d := by omega
    have c1 : c ≠ d + 1 := by omega
    have c2 : c ≠ d + 2 := by omega
    have c3 : c ≠ d + 3 := by omega
    have c4 : c ≠ d + 4 := by omega
    have c5 : c ≠ d + 5 := by omega
    have c6 : c ≠ d + 6 := by omega
    have c7 : c ≠ d + 7 := by omega
    refine ⟨by simp [j_sp, j_ns, c0, c1, c2, c3, c4, c5, c6, c7], ?_, ?_⟩
    · funext i; simp [j_sp, j_ns, j_up, c0, c1, c2, c3, c4, c5, c6, c7]
    · funext i; simp [j_nv, c0, c1, c2, c3, c4, c5, c6, c7]
  · have : x = d ∨ x = d + 1 ∨ x = d + 2 ∨ x = d + 3 ∨ x = d + 4 ∨ x = d + 5 ∨ x = d + 6 ∨ x = d + 7 := by omega
    rcases this with q | q | q | q | q | q | q | q <;> subst q
    · exact j_Lat_32 (by simp [j_sp, j_ns, hd, e]) (by simp [j_sp, j_ns, j_up, e])
    all_goals exact j_Lat_tr (by simp [j_sp, j_ns, e])
  · have : c = d ∨ c = d + 1 ∨ c = d + 2 ∨ c = d + 3 ∨ c = d + 4 ∨ c = d + 5 ∨ c = d + 6 ∨ c = d + 7 := by omega
    rcases this with q | q | q | q | q | q | q | q <;> subst q
    · simp [j_nv, e, hv]
    all_goals simp [j_nv]
def j_mA (S2 : jS) (a : Int) : jS := (j_sp (j_ns (j_sp (j_ns (j_sp (j_ns (j_sp (j_ns (j_sp (j_ns (j_sp (j_ns (j_sp (j_ns (j_sp (j_ns (j_sp (j_ns (j_sp (j_ns (j_sp (j_ns (j_sp (j_ns (j_sp (j_ns (j_sp (j_ns (j_sp S2 a 1 (a + 9)) (a + 17) 1) a 5 (a + 17)) (a + 18) 1) a 6 (a + 18)) (a + 19) 3) a 7 (a + 19)) (a + 20) 3) a 8 (a + 20)) (a + 21) 12) a 11 (a + 21)) (a + 22) 1) a 14 (a + 22)) (a + 23) 1) a 15 (a + 23)) (a + 24) 15) a 16 (a + 24)) (a + 25) 13) a 17 (a + 25)) (a + 26) 14) a 19 (a + 26)) (a + 27) 12) a 21 (a + 27)) (a + 28) 1) a 28 (a + 28)) (a + 29) 16) a 29 (a + 29)) (a + 30) 1) a 30 (a + 30))
def j_mZ (V2 : jH) (a : Int) : jH := (j_nv (j_nv (j_nv (j_nv (j_nv (j_nv (j_nv (j_nv (j_nv (j_nv (j_nv (j_nv (j_nv (j_nv V2 (a + 17)) (a + 18)) (a + 19)) (a + 20)) (a + 21)) (a + 22)) (a + 23)) (a + 24)) (a + 25)) (a + 26)) (a + 27)) (a + 28)) (a + 29)) (a + 30))
theorem j_mA_1 {S2 : jS} {a c : Int} (hc : c < a + 17 ∨ a + 30 < c) : (j_mA S2 a).1 c = S2.1 c := by
  have c1 : c ≠ a + 17 := by omega
  have c2 : c ≠ a + 18 := by omega
  have c3 : c ≠ a + 19 := by omega
  have c4 : c ≠ a + 20 := by omega
  have c5 : c ≠ a + 21 := by omega
  have c6 : c ≠ a + 22 := by omega
  have c7 : c ≠ a + 23 := by omega
  have c8 : c ≠ a + 24 := by omega
  have c9 : c ≠ a + 25 := by omega
  have c10 : c ≠ a + 26 := by omega
  have c11 : c ≠ a + 27 := by omega
  have c12 : c ≠ a + 28 := by omega
  have c13 : c ≠ a + 29 := by omega
  have c14 : c ≠ a + 30 := by omega
  unfold j_mA
  simp [j_sp, j_ns, c1, c2, c3, c4, c5, c6, c7, c8, c9, c10, c11, c12, c13, c14]
theorem j_mA_2 {S2 : jS} {a c : Int} (c0 : c ≠ a) (hc : c < a + 17 ∨ a + 30 < c) : (j_mA S2 a).2 c = S2.2 c := by
  have c1 : c ≠ a + 17 := by omega
  have c2 : c ≠ a + 18 := by omega
  have c3 : c ≠ a + 19 := by omega
  have c4 : c ≠ a + 20 := by omega
  have c5 : c ≠ a + 21 := by omega
  have c6 : c ≠ a + 22 := by omega
  have c7 : c ≠ a + 23 := by omega
  have c8 : c ≠ a + 24 := by omega
  have c9 : c ≠ a + 25 := by omega
  have c10 : c ≠ a + 26 := by omega
  have c11 : c ≠ a + 27 := by omega
  have c12 : c ≠ a + 28 := by omega
  have c13 : c ≠ a + 29 := by omega
  have c14 : c ≠ a + 30 := by omega
  unfold j_mA
  funext i; simp [j_sp, j_ns, j_up, c0, c1, c2, c3, c4, c5, c6, c7, c8, c9, c10, c11, c12, c13, c14]
theorem j_mZ_1 {V2 : jH} {a c : Int} (hc : c < a + 17 ∨ a + 30 < c) : j_mZ V2 a c = V2 c := by
  have c1 : c ≠ a + 17 := by omega
  have c2 : c ≠ a + 18 := by omega
  have c3 : c ≠ a + 19 := by omega
  have c4 : c ≠ a + 20 := by omega
  have c5 : c ≠ a + 21 := by omega
  have c6 : c ≠ a + 22 := by omega
  have c7 : c ≠ a + 23 := by omega
  have c8 : c ≠ a + 24 := by omega
  have c9 : c ≠ a + 25 := by omega
  have c10 : c ≠ a + 26 := by omega
  have c11 : c ≠ a + 27 := by omega
  have c12 : c ≠ a + 28 := by omega
  have c13 : c ≠ a + 29 := by omega
  have c14 : c ≠ a + 30 := by omega
  unfold j_mZ
  simp [j_nv, c1, c2, c3, c4, c5, c6, c7, c8, c9, c10, c11, c12, c13, c14]
theorem j_mZ_0 {V2 : jH} {a c j : Int} (c0 : a + 17 ≤ c) (c1 : c ≤ a + 30) : j_mZ V2 a c j = 0 := by
  have : c = a + 17 ∨ c = a + 18 ∨ c = a + 19 ∨ c = a + 20 ∨ c = a + 21 ∨ c = a + 22 ∨ c = a + 23 ∨ c = a + 24 ∨ c = a + 25 ∨ c = a + 26 ∨ c = a + 27 ∨ c = a + 28 ∨ c = a + 29 ∨ c = a + 30 := by omega
  unfold j_mZ
  rcases this with q | q | q | q | q | q | q | q | q | q | q | q | q | q <;> subst q <;> simp [j_nv]
theorem j_mA_3 {S2 : jS} {a c : Int} (c0 : a + 17 ≤ c) (c1 : c ≤ a + 30) : (j_mA S2 a).1 c < 18 := by
  have : c = a + 17 ∨ c = a + 18 ∨ c = a + 19 ∨ c = a + 20 ∨ c = a + 21 ∨ c = a + 22 ∨ c = a + 23 ∨ c = a + 24 ∨ c = a + 25 ∨ c = a + 26 ∨ c = a + 27 ∨ c = a + 28 ∨ c = a + 29 ∨ c = a + 30 := by omega
  unfold j_mA
  rcases this with q | q | q | q | q | q | q | q | q | q | q | q | q | q <;> subst q <;> simp [j_sp, j_ns]
theorem j_mA_f5 {S2 : jS} {a : Int} : (j_mA S2 a).2 a 5 = a + 17 ∧ (j_mA S2 a).1 (a + 17) = 1 := by
  have e : ∀ i : Int, a = a + i ↔ i = 0 := fun i => by omega
  unfold j_mA
  simp [j_sp, j_ns, j_up, e]
theorem j_mA_f6 {S2 : jS} {a : Int} : (j_mA S2 a).2 a 6 = a + 18 ∧ (j_mA S2 a).1 (a + 18) = 1 := by
  have e : ∀ i : Int, a = a + i ↔ i = 0 := fun i => by omega
  unfold j_mA
  simp [j_sp, j_ns, j_up, e]
theorem j_mA_f7 {S2 : jS} {a : Int} : (j_mA S2 a).2 a 7 = a + 19 ∧ (j_mA S2 a).1 (a + 19) = 3 := by
  have e : ∀ i : Int, a = a + i ↔ i = 0 := fun i => by omega
  unfold j_mA
  simp [j_sp, j_ns, j_up, e]
theorem j_mA_f8 {S2 : jS} {a : Int} : (j_mA S2 a).2 a 8 = a + 20 ∧ (j_mA S2 a).1 (a + 20) = 3 := by
  have e : ∀ i : Int, a = a + i ↔ i = 0 := fun i => by omega
  unfold j_mA
  simp [j_sp, j_ns, j_up, e]
theorem j_mA_f11 {S2 : jS} {a : Int} : (j_mA S2 a).2 a 11 = a + 21 ∧ (j_mA S2 a).1 (a + 21) = 12 := by
  have e : ∀ i : Int, a = a + i ↔ i = 0 := fun i => by omega
  unfold j_mA
  simp [j_sp, j_ns, j_up, e]
theorem j_mA_f14 {S2 : jS} {a : Int} : (j_mA S2 a).2 a 14 = a + 22 ∧ (j_mA S2 a).1 (a + 22) = 1 := by
  have e : ∀ i : Int, a = a + i ↔ i = 0 := fun i => by omega
  unfold j_mA
  simp [j_sp, j_ns, j_up, e]
theorem j_mA_f15 {S2 : jS} {a : Int} : (j_mA S2 a).2 a 15 = a + 23 ∧ (j_mA S2 a).1 (a + 23) = 1 := by
  have e : ∀ i : Int, a = a + i ↔ i = 0 := fun i => by omega
  unfold j_mA
  simp [j_sp, j_ns, j_up, e]
theorem j_mA_f16 {S2 : jS} {a : Int} : (j_mA S2 a).2 a 16 = a + 24 ∧ (j_mA S2 a).1 (a + 24) = 15 := by
  have e : ∀ i : Int, a = a + i ↔ i = 0 := fun i => by omega
  unfold j_mA
  simp [j_sp, j_ns, j_up, e]
theorem j_mA_f17 {S2 : jS} {a : Int} : (j_mA S2 a).2 a 17 = a + 25 ∧ (j_mA S2 a).1 (a + 25) = 13 := by
  have e : ∀ i : Int, a = a + i ↔ i = 0 := fun i => by omega
  unfold j_mA
  simp [j_sp, j_ns, j_up, e]
theorem j_mA_f19 {S2 : jS} {a : Int} : (j_mA S2 a).2 a 19 = a + 26 ∧ (j_mA S2 a).1 (a + 26) = 14 := by
  have e : ∀ i : Int, a = a + i ↔ i = 0 := fun i => by omega
  unfold j_mA
  simp [j_sp, j_ns, j_up, e]
theorem j_mA_f21 {S2 : jS} {a : Int} : (j_mA S2 a).2 a 21 = a + 27 ∧ (j_mA S2 a).1 (a + 27) = 12 := by
  have e : ∀ i : Int, a = a + i ↔ i = 0 := fun i => by omega
  unfold j_mA
  simp [j_sp, j_ns, j_up, e]
theorem j_mA_f28 {S2 : jS} {a : Int} : (j_mA S2 a).2 a 28 = a + 28 ∧ (j_mA S2 a).1 (a + 28) = 1 := by
  have e : ∀ i : Int, a = a + i ↔ i = 0 := fun i => by omega
  unfold j_mA
  simp [j_sp, j_ns, j_up, e]
theorem j_mA_f29 {S2 : jS} {a : Int} : (j_mA S2 a).2 a 29 = a + 29 ∧ (j_mA S2 a).1 (a + 29) = 16 := by
  have e : ∀ i : Int, a = a + i ↔ i = 0 := fun i => by omega
  unfold j_mA
  simp [j_sp, j_ns, j_up, e]
theorem j_mA_f30 {S2 : jS} {a : Int} : (j_mA S2 a).2 a 30 = a + 30 ∧ (j_mA S2 a).1 (a + 30) = 1 := by
  have e : ∀ i : Int, a = a + i ↔ i = 0 := fun i => by omega
  unfold j_mA
  simp [j_sp, j_ns, j_up, e]
theorem j_mA_f0 {S2 : jS} {a : Int} (r : S2.2 a 0 = a + 1) : (j_mA S2 a).2 a 0 = a + 1 ∧ (j_mA S2 a).2 a 1 = a + 9 := by
  have e : ∀ i : Int, a = a + i ↔ i = 0 := fun i => by omega
  unfold j_mA
  simp [j_sp, j_ns, j_up, e, r]
theorem j_mA_lat {S2 : jS} {a : Int} (r20 : S2.2 a 0 = a + 1) (k5 : (j_mA S2 a).1 a = 33) (b1 : (j_mA S2 a).1 (a + 1) = 32) (b9 : (j_mA S2 a).1 (a + 9) = 32) : j_Lat (j_mA S2 a) a :=
  j_Lat_33 k5 ⟨(j_mA_f0 r20).1, b1, (j_mA_f0 r20).2, b9, j_mA_f5.1, j_mA_f5.2, j_mA_f6.1, j_mA_f6.2, j_mA_f7.1, j_mA_f7.2, j_mA_f8.1, j_mA_f8.2, j_mA_f11.1, j_mA_f11.2, j_mA_f14.1, j_mA_f14.2, j_mA_f15.1, j_mA_f15.2, j_mA_f16.1, j_mA_f16.2, j_mA_f17.1, j_mA_f17.2, j_mA_f19.1, j_mA_f19.2, j_mA_f21.1, j_mA_f21.2, j_mA_f28.1, j_mA_f28.2, j_mA_f29.1, j_mA_f29.2, j_mA_f30.1, j_mA_f30.2⟩
theorem j_m131 {S S1 S2 : jS} {V V1 V2 : jH} {a : Int} (hL : ∀ x : Int, x ≠ a → j_Lat S x) (hz : ∀ c : Int, a < c → c ≤ a + 30 → S.1 c = 0) (hv : ∀ j : Int, V a j = 0) (k1 : S1.1 (a + 1) = 32) (k2 : S2.1 (a + 9) = 32) (g2 : S2.1 a = 33) (r20 : S2.2 a 0 = a + 1) (o1 : ∀ c : Int, (c < a + 1 ∨ a + 8 < c) → S1.1 c = S.1 c ∧ S1.2 c = S.2 c ∧ V1 c = V c) (o2 : ∀ c : Int, (c < a + 9 ∨ a + 16 < c) → S2.1 c = S1.1 c ∧ S2.2 c = j_up S1.2 a 0 (a + 1) c ∧ V2 c = V1 c) (l1 : ∀ x : Int, a + 1 ≤ x → x ≤ a + 8 → j_Lat S1 x) (l2 : ∀ x : Int, a + 9 ≤ x → x ≤ a + 16 → j_Lat S2 x) (w1 : ∀ c j : Int, a + 1 ≤ c → c ≤ a + 8 → V1 c j = 0) (w2 : ∀ c j : Int, a + 9 ≤ c → c ≤ a + 16 → V2 c j = 0) : (j_mA S2 a).1 a = 33 ∧ j_L (j_mA S2 a) ∧ (∀ c : Int, (c < a ∨ a + 30 < c) → (j_mA S2 a).1 c = S.1 c ∧ (j_mA S2 a).2 c = S.2 c ∧ j_mZ V2 a c = V c) ∧ ∀ c j : Int, a ≤ c → c ≤ a + 30 → j_mZ V2 a c j = 0 := by
  have z1 : ∀ c : Int, a + 9 ≤ c → c ≤ a + 30 → S1.1 c = 0 := fun c c0 c1 => by rw [(o1 c (by omega)).1]; exact hz c (by omega) (by omega)
  have z2 : ∀ c : Int, a + 17 ≤ c → c ≤ a + 30 → S2.1 c = 0 := fun c c0 c1 => by rw [(o2 c (by omega)).1]; exact z1 c (by omega) (by omega)
  have E1 : ∀ c : Int, (c < a + 17 ∨ a + 30 < c) → (j_mA S2 a).1 c = S2.1 c := fun c hc => j_mA_1 hc
  have E2 : ∀ c : Int, c ≠ a → (c < a + 17 ∨ a + 30 < c) → (j_mA S2 a).2 c = S2.2 c := fun c c0 hc => j_mA_2 c0 hc
  have E3 : ∀ c : Int, (c < a + 17 ∨ a + 30 < c) → j_mZ V2 a c = V2 c := fun c hc => j_mZ_1 hc
  have E4 : ∀ c j : Int, a + 17 ≤ c → c ≤ a + 30 → j_mZ V2 a c j = 0 := fun c j c0 c1 => j_mZ_0 c0 c1
  have E5 : ∀ c : Int, a + 17 ≤ c → c ≤ a + 30 → (j_mA S2 a).1 c < 18 := fun c c0 c1 => j_mA_3 c0 c1
  have lat : (j_mA S2 a).1 a = 33 → (j_mA S2 a).1 (a + 1) = 32 → (j_mA S2 a).1 (a + 9) = 32 → j_Lat (j_mA S2 a) a := fun q1 q2 q3 => j_mA_lat r20 q1 q2 q3
  generalize j_mA S2 a = S5 at *
  generalize j_mZ V2 a = V5 at *
  have k5 : S5.1 a = 33 := by rw [E1 a (by omega)]; exact g2
  have b1 : S5.1 (a + 1) = 32 := by rw [E1 _ (by omega), (o2 _ (by omega)).1]; exact k1
  have b9 : S5.1 (a + 9) = 32 := by rw [E1 _ (by omega)]; exact k2
  have up2 : ∀ x : Int, S2.1 x ≠ 0 → S5.1 x = S2.1 x := fun x hx => by
    by_cases c : x < a + 17 ∨ a + 30 < x
    · exact E1 x c
    · exact absurd (z2 x (by omega) (by omega)) hx
  have up1 : ∀ x : Int, S1.1 x ≠ 0 → S5.1 x = S1.1 x := fun x hx => by
    by_cases c : x < a + 9 ∨ a + 16 < x
    · have q := (o2 x c).1
      rw [up2 x (by rw [q]; exact hx), q]
    · exact absurd (z1 x (by omega) (by omega)) hx
  have up0 : ∀ x : Int, S.1 x ≠ 0 → S5.1 x = S.1 x := fun x hx => by
    by_cases c : x < a + 1 ∨ a + 8 < x
    · have q := (o1 x c).1
      rw [up1 x (by rw [q]; exact hx), q]
    · exact absurd (hz x (by omega) (by omega)) hx
  refine ⟨k5, j_L_of (fun x => ?_), fun c hc => ⟨?_, ?_, ?_⟩, fun c j c0 c1 => ?_⟩
  · by_cases c1 : x = a
    · rw [c1]
      exact lat k5 b1 b9
    · by_cases c2 : a + 17 ≤ x ∧ x ≤ a + 30
      · exact j_Lat_tr (Or.inl (E5 x c2.1 c2.2))
      · by_cases c3 : a + 9 ≤ x ∧ x ≤ a + 16
        · exact j_Lat_mono up2 (E1 x (by omega)) (E2 x c1 (by omega)) (l2 x (by omega) (by omega))
        · by_cases c4 : a + 1 ≤ x ∧ x ≤ a + 8
          · exact j_Lat_mono up1 (by rw [E1 x (by omega), (o2 x (by omega)).1]) (by rw [E2 x c1 (by omega), (o2 x (by omega)).2.1, j_up_ne c1]) (l1 x (by omega) (by omega))
          · exact j_Lat_mono up0 (by rw [E1 x (by omega), (o2 x (by omega)).1, (o1 x (by omega)).1]) (by rw [E2 x c1 (by omega), (o2 x (by omega)).2.1, j_up_ne c1, (o1 x (by omega)).2.1]) (hL x c1)
  · rw [E1 c (by omega), (o2 c (by omega)).1, (o1 c (by omega)).1]
  · rw [E2 c (by omega) (by omega), (o2 c (by omega)).2.1, j_up_ne (by omega), (o1 c (by omega)).2.1]
  · rw [E3 c (by omega), (o2 c (by omega)).2.2, (o1 c (by omega)).2.2]
  · by_cases q2 : a + 17 ≤ c
    · exact E4 c j q2 c1
    · rw [E3 c (by omega)]
      by_cases q3 : a + 9 ≤ c
      · exact w2 c j (by omega) (by omega)
      · rw [(o2 c (by omega)).2.2]
        by_cases q4 : a + 1 ≤ c
        · exact w1 c j (by omega) (by omega)
        · rw [(o1 c (by omega)).2.2, show c = a by omega]; exact hv j
theorem m13_1 (l : Launch) : M13_1 l 30 45244 (fun a S V => 0 ≤ a ∧ (∀ x : Int, x ≠ a → j_Lat S x) ∧ (∀ c : Int, a < c → c ≤ a + 30 → S.1 c = 0) ∧ ∀ j : Int, V a j = 0) (fun a S V S' V' => S'.1 a = 33 ∧ j_L S' ∧ (∀ c : Int, (c < a ∨ a + 30 < c) → S'.1 c = S.1 c ∧ S'.2 c = S.2 c ∧ V' c = V c) ∧ ∀ c j : Int, a ≤ c → c ≤ a + 30 → V' c j = 0) := by
  refine e13_1 ?_
  rintro C G h hrm hcs hl hn a S V ha ⟨a0, hL, hz, hv⟩ R
  have e : ∀ i : Int, a = a + i ↔ i = 0 := fun i => by omega
  refine t13_1_0 (a1 := a + 1) h hrm (by omega) ha (by omega) (hz _ (by omega) (by omega)) (by rw [hcs.1]; omega) (by rw [hcs.2]; omega) (m14_1 C.2.1) ⟨(by omega), fun c c0 c1 => by rw [j_ns1e _ _ _ (by omega)]; exact hz c (by omega) (by omega), fun j => by simp [j_nv]⟩ (by rw [hcs.1]; omega) (by rw [hcs.2]; omega) ?_
  rintro S1 V1 ⟨k1, ⟨m1, l1⟩, w1⟩
  have o1 : ∀ c : Int, (c < a + 1 ∨ a + 8 < c) → S1.1 c = S.1 c ∧ S1.2 c = S.2 c ∧ V1 c = V c := fun c hc => by
    obtain ⟨q1, q2, q3⟩ := m1 c (by omega)
    exact ⟨q1.trans (j_ns1e _ _ _ (by omega)), q2.trans (j_ns2e _ _ _ (by omega)), q3.trans (j_nve _ _ (by omega))⟩
  have z1 : ∀ c : Int, a + 9 ≤ c → c ≤ a + 30 → S1.1 c = 0 := fun c c0 c1 => by rw [(o1 c (by omega)).1]; exact hz c (by omega) (by omega)
  have g1 : S1.1 a = 33 := by rw [(o1 a (by omega)).1]; exact ha
  refine t13_1_12 (a1 := a + 9) h hrm hn g1 k1 (by omega) (by show S1.1 (a + 9) = 0; exact z1 _ (by omega) (by omega)) (by rw [hcs.1]; omega) (by rw [hcs.2]; omega) (m14_1 C.2.1) ⟨(by omega), fun c c0 c1 => by rw [j_ns1e _ _ _ (by omega)]; exact z1 c (by omega) (by omega), fun j => by simp [j_nv]⟩ (by rw [hcs.1]; omega) (by rw [hcs.2]; omega) ?_
  rintro S2 V2 ⟨k2, ⟨m2, l2⟩, w2⟩
  have o2 : ∀ c : Int, (c < a + 9 ∨ a + 16 < c) → S2.1 c = S1.1 c ∧ S2.2 c = j_up S1.2 a 0 (a + 1) c ∧ V2 c = V1 c := fun c hc => by
    obtain ⟨q1, q2, q3⟩ := m2 c (by omega)
    exact ⟨q1.trans (j_ns1e _ _ _ (by omega)), q2.trans (j_ns2e _ _ _ (by omega)), q3.trans (j_nve _ _ (by omega))⟩
  have z2 : ∀ c : Int, a + 17 ≤ c → c ≤ a + 30 → S2.1 c = 0 := fun c c0 c1 => by rw [(o2 c (by omega)).1]; exact z1 c (by omega) (by omega)
  have g2 : S2.1 a = 33 := by rw [(o2 a (by omega)).1]; exact g1
  have r20 : S2.2 a 0 = a + 1 := by rw [(o2 a (by omega)).2.1, j_up_at]
  have y1 := z2 (a + 17) (by omega) (by omega)
  have y2 := z2 (a + 18) (by omega) (by omega)
  have y3 := z2 (a + 19) (by omega) (by omega)
  have y4 := z2 (a + 20) (by omega) (by omega)
  have y5 := z2 (a + 21) (by omega) (by omega)
  have y6 := z2 (a + 22) (by omega) (by omega)
  have y7 := z2 (a + 23) (by omega) (by omega)
  have y8 := z2 (a + 24) (by omega) (by omega)
  have y9 := z2 (a + 25) (by omega) (by omega)
  have y10 := z2 (a + 26) (by omega) (by omega)
  have y11 := z2 (a + 27) (by omega) (by omega)
  have y12 := z2 (a + 28) (by omega) (by omega)
  have y13 := z2 (a + 29) (by omega) (by omega)
  have y14 := z2 (a + 30) (by omega) (by omega)
  refine t13_1_23 (a1 := a + 17) (a2 := a + 18) (a3 := a + 19) (a4 := a + 20) (a5 := a + 21) (a6 := a + 22) (a7 := a + 23) (a8 := a + 24) (a9 := a + 25) (a10 := a + 26) (a11 := a + 27) (a12 := a + 28) (a13 := a + 29) (a14 := a + 30) h hn g2 k2 (by omega) y1 (by rw [hcs.1]; omega) (by rw [hcs.2]; omega) (by simp [j_sp, j_ns, g2, e]) (by omega) (by simp [j_sp, j_ns, y2]) (by rw [hcs.1]; omega) (by rw [hcs.2]; omega) (by omega) (by simp [j_sp, j_ns, y3]) (by rw [hcs.1]; omega) (by rw [hcs.2]; omega) (by omega) (by simp [j_sp, j_ns, y4]) (by rw [hcs.1]; omega) (by rw [hcs.2]; omega) (by omega) (by simp [j_sp, j_ns, y5]) (by rw [hcs.1]; omega) (by rw [hcs.2]; omega) (by omega) (by simp [j_sp, j_ns, y6]) (by rw [hcs.1]; omega) (by rw [hcs.2]; omega) (by omega) (by simp [j_sp, j_ns, y7]) (by rw [hcs.1]; omega) (by rw [hcs.2]; omega) (by omega) (by simp [j_sp, j_ns, y8]) (by rw [hcs.1]; omega) (by rw [hcs.2]; omega) (by omega) (by simp [j_sp, j_ns, y9]) (by rw [hcs.1]; omega) (by rw [hcs.2]; omega) (by omega) (by simp [j_sp, j_ns, y10]) (by rw [hcs.1]; omega) (by rw [hcs.2]; omega) (by omega) (by simp [j_sp, j_ns, y11]) (by rw [hcs.1]; omega) (by rw [hcs.2]; omega) (by omega) (by simp [j_sp, j_ns, y12]) (by rw [hcs.1]; omega) (by rw [hcs.2]; omega) (by omega) (by simp [j_sp, j_ns, y13]) (by rw [hcs.1]; omega) (by rw [hcs.2]; omega) (by omega) (by simp [j_sp, j_ns, y14]) (by rw [hcs.1]; omega) (by rw [hcs.2]; omega) R (j_m131 hL hz hv k1 k2 g2 r20 o1 o2 (fun x x0 x1 => l1 x x0 (by omega)) (fun x x0 x1 => l2 x x0 (by omega)) (fun c j c0 c1 => w1 c j c0 (by omega)) (fun c j c0 c1 => w2 c j c0 (by omega))) (by decide) (by decide)
theorem j_BI_0 {V : jH} {b : Int} (h : ∀ c j : Int, b ≤ c → c ≤ b + 7 → V c j = 0) : j_BI V b := by
  have h2 := h b 2 (by omega) (by omega)
  have h7 := h b 7 (by omega) (by omega)
  have h9 := h b 9 (by omega) (by omega)
  have h10 := h b 10 (by omega) (by omega)
  refine ⟨fun p p0 p1 => ?_, ⟨by rw [h2]; omega, by rw [h2]; omega, fun t t0 t1 => by rw [h (b + 5) t (by omega) (by omega)]; omega, fun t t0 t1 => absurd t1 (by rw [h2]; omega)⟩, ⟨⟨by rw [h7]; omega, by rw [h7]; omega, fun i i0 i1 => absurd i1 (by rw [h7]; omega)⟩, by rw [h9]; omega, fun z => absurd h9 z, fun z => absurd h10 z⟩⟩
  rw [h (b + 1) p (by omega) (by omega)]
  exact ⟨(by omega), (by omega), fun i i0 i1 => absurd i1 (by omega)⟩
theorem j_mI_0 {S : jS} {V : jH} {a : Int} (L : j_L S) (k : S.1 a = 33) (a0 : 0 ≤ a) (h : ∀ c j : Int, a ≤ c → c ≤ a + 30 → V c j = 0) : j_mI S V a := by
  refine ⟨L, k, a0, j_BI_0 (fun c j c0 c1 => h c j (by omega) (by omega)), j_BI_0 (fun c j c0 c1 => h c j (by omega) (by omega)), ?_, ?_, ?_, ?_⟩
  · rw [h a 2 (by omega) (by omega)]; omega
  · rw [h a 4 (by omega) (by omega)]; omega
  · rw [h a 3 (by omega) (by omega)]; omega
  · rw [h a 3 (by omega) (by omega)]; omega
