/-! THE LAYOUT, cell by cell -/
def j_Lat (S : jS) (a : Int) : Prop := (S.1 a = 21 → S.2 a 0 = a + 1 ∧ S.1 (a + 1) = 29 ∧ S.2 a 1 = a + 11 ∧ S.1 (a + 11) = 25 ∧ S.2 a 2 = a + 14 ∧ S.1 (a + 14) = 28 ∧ S.2 a 3 = a + 20 ∧ S.1 (a + 20) = 4 ∧ S.2 a 4 = a + 21 ∧ S.1 (a + 21) = 5) ∧ (S.1 a = 22 → S.2 a 0 = a + 1 ∧ S.1 (a + 1) = 6 ∧ S.2 a 3 = a + 2 ∧ S.1 (a + 2) = 28) ∧ (S.1 a = 23 → S.2 a 0 = a + 1 ∧ S.1 (a + 1) = 2) ∧ (S.1 a = 24 → S.2 a 0 = a + 1 ∧ S.1 (a + 1) = 3 ∧ S.2 a 1 = a + 2 ∧ S.1 (a + 2) = 3) ∧ (S.1 a = 25 → S.2 a 0 = a + 1 ∧ S.1 (a + 1) = 23) ∧ (S.1 a = 27 → S.2 a 0 = a + 1 ∧ S.1 (a + 1) = 1) ∧ (S.1 a = 28 → S.2 a 0 = a + 1 ∧ S.1 (a + 1) = 1 ∧ S.2 a 1 = a + 2 ∧ S.1 (a + 2) = 1 ∧ S.2 a 2 = a + 3 ∧ S.1 (a + 3) = 1 ∧ S.2 a 3 = a + 4 ∧ S.1 (a + 4) = 1 ∧ S.2 a 4 = a + 5 ∧ S.1 (a + 5) = 1) ∧ (S.1 a = 29 → S.2 a 0 = a + 1 ∧ S.1 (a + 1) = 19) ∧ (S.1 a = 30 → S.2 a 0 = a + 1 ∧ S.1 (a + 1) = 18 ∧ S.2 a 1 = a + 14 ∧ S.1 (a + 14) = 20 ∧ S.2 a 3 = a + 15 ∧ S.1 (a + 15) = 22) ∧ (S.1 a = 31 → S.2 a 0 = a + 1 ∧ S.1 (a + 1) = 30 ∧ S.2 a 2 = a + 200 ∧ S.1 (a + 200) = 21 ∧ S.2 a 3 = a + 230 ∧ S.1 (a + 230) = 24 ∧ S.2 a 4 = a + 240 ∧ S.1 (a + 240) = 26 ∧ S.2 a 5 = a + 241 ∧ S.1 (a + 241) = 1) ∧ (S.1 a = 32 → S.2 a 0 = a + 1 ∧ S.1 (a + 1) = 8 ∧ S.2 a 1 = a + 2 ∧ S.1 (a + 2) = 9 ∧ S.2 a 3 = a + 3 ∧ S.1 (a + 3) = 10 ∧ S.2 a 4 = a + 4 ∧ S.1 (a + 4) = 10 ∧ S.2 a 5 = a + 5 ∧ S.1 (a + 5) = 17 ∧ S.2 a 6 = a + 6 ∧ S.1 (a + 6) = 11 ∧ S.2 a 8 = a + 7 ∧ S.1 (a + 7) = 6) ∧ (S.1 a = 33 → S.2 a 0 = a + 1 ∧ S.1 (a + 1) = 32 ∧ S.2 a 1 = a + 9 ∧ S.1 (a + 9) = 32 ∧ S.2 a 5 = a + 17 ∧ S.1 (a + 17) = 1 ∧ S.2 a 6 = a + 18 ∧ S.1 (a + 18) = 1 ∧ S.2 a 7 = a + 19 ∧ S.1 (a + 19) = 3 ∧ S.2 a 8 = a + 20 ∧ S.1 (a + 20) = 3 ∧ S.2 a 11 = a + 21 ∧ S.1 (a + 21) = 12 ∧ S.2 a 14 = a + 22 ∧ S.1 (a + 22) = 1 ∧ S.2 a 15 = a + 23 ∧ S.1 (a + 23) = 1 ∧ S.2 a 16 = a + 24 ∧ S.1 (a + 24) = 15 ∧ S.2 a 17 = a + 25 ∧ S.1 (a + 25) = 13 ∧ S.2 a 19 = a + 26 ∧ S.1 (a + 26) = 14 ∧ S.2 a 21 = a + 27 ∧ S.1 (a + 27) = 12 ∧ S.2 a 28 = a + 28 ∧ S.1 (a + 28) = 1 ∧ S.2 a 29 = a + 29 ∧ S.1 (a + 29) = 16 ∧ S.2 a 30 = a + 30 ∧ S.1 (a + 30) = 1) ∧ (S.1 a = 18 → ∀ i : Int, 0 ≤ i → i < 6 → S.2 a i = a + 1 + 2 * i ∧ S.1 (a + 1 + 2 * i) = 27) ∧ (S.1 a = 19 → ∀ i : Int, 0 ≤ i → i < 4 → S.2 a i = a + 1 + 2 * i ∧ S.1 (a + 1 + 2 * i) = 23)
theorem j_L_of {S : jS} (h : ∀ a : Int, j_Lat S a) : j_L S := ⟨fun a k => (h a).1 k, fun a k => (h a).2.1 k, fun a k => (h a).2.2.1 k, fun a k => (h a).2.2.2.1 k, fun a k => (h a).2.2.2.2.1 k, fun a k => (h a).2.2.2.2.2.1 k, fun a k => (h a).2.2.2.2.2.2.1 k, fun a k => (h a).2.2.2.2.2.2.2.1 k, fun a k => (h a).2.2.2.2.2.2.2.2.1 k, fun a k => (h a).2.2.2.2.2.2.2.2.2.1 k, fun a k => (h a).2.2.2.2.2.2.2.2.2.2.1 k, fun a k => (h a).2.2.2.2.2.2.2.2.2.2.2.1 k, fun a i k => (h a).2.2.2.2.2.2.2.2.2.2.2.2.1 k i, fun a i k => (h a).2.2.2.2.2.2.2.2.2.2.2.2.2 k i⟩
theorem j_L_at {S : jS} (L : j_L S) (a : Int) : j_Lat S a := ⟨fun k => L.1 a k, fun k => L.2.1 a k, fun k => L.2.2.1 a k, fun k => L.2.2.2.1 a k, fun k => L.2.2.2.2.1 a k, fun k => L.2.2.2.2.2.1 a k, fun k => L.2.2.2.2.2.2.1 a k, fun k => L.2.2.2.2.2.2.2.1 a k, fun k => L.2.2.2.2.2.2.2.2.1 a k, fun k => L.2.2.2.2.2.2.2.2.2.1 a k, fun k => L.2.2.2.2.2.2.2.2.2.2.1 a k, fun k => L.2.2.2.2.2.2.2.2.2.2.2.1 a k, fun k i => L.2.2.2.2.2.2.2.2.2.2.2.2.1 a i k, fun k i => L.2.2.2.2.2.2.2.2.2.2.2.2.2 a i k⟩
theorem j_Lat_21 {S : jS} {a : Int} (k : S.1 a = 21) (h : S.2 a 0 = a + 1 ∧ S.1 (a + 1) = 29 ∧ S.2 a 1 = a + 11 ∧ S.1 (a + 11) = 25 ∧ S.2 a 2 = a + 14 ∧ S.1 (a + 14) = 28 ∧ S.2 a 3 = a + 20 ∧ S.1 (a + 20) = 4 ∧ S.2 a 4 = a + 21 ∧ S.1 (a + 21) = 5) : j_Lat S a := by
  unfold j_Lat
  rw [k]
  exact ⟨fun _ => h, fun z => absurd z (by decide), fun z => absurd z (by decide), fun z => absurd z (by decide), fun z => absurd z (by decide), fun z => absurd z (by decide), fun z => absurd z (by decide), fun z => absurd z (by decide), fun z => absurd z (by decide), fun z => absurd z (by decide), fun z => absurd z (by decide), fun z => absurd z (by decide), fun z => absurd z (by decide), fun z => absurd z (by decide)⟩
theorem j_Lat_22 {S : jS} {a : Int} (k : S.1 a = 22) (h : S.2 a 0 = a + 1 ∧ S.1 (a + 1) = 6 ∧ S.2 a 3 = a + 2 ∧ S.1 (a + 2) = 28) : j_Lat S a := by
  unfold j_Lat
  rw [k]
  exact ⟨fun z => absurd z (by decide), fun _ => h, fun z => absurd z (by decide), fun z => absurd z (by decide), fun z => absurd z (by decide), fun z => absurd z (by decide), fun z => absurd z (by decide), fun z => absurd z (by decide), fun z => absurd z (by decide), fun z => absurd z (by decide), fun z => absurd z (by decide), fun z => absurd z (by decide), fun z => absurd z (by decide), fun z => absurd z (by decide)⟩
theorem j_Lat_23 {S : jS} {a : Int} (k : S.1 a = 23) (h : S.2 a 0 = a + 1 ∧ S.1 (a + 1) = 2) : j_Lat S a := by
  unfold j_Lat
  rw [k]
  exact ⟨fun z => absurd z (by decide), fun z => absurd z (by decide), fun _ => h, fun z => absurd z (by decide), fun z => absurd z (by decide), fun z => absurd z (by decide), fun z => absurd z (by decide), fun z => absurd z (by decide), fun z => absurd z (by decide), fun z => absurd z (by decide), fun z => absurd z (by decide), fun z => absurd z (by decide), fun z => absurd z (by decide), fun z => absurd z (by decide)⟩
theorem j_Lat_24 {S : jS} {a : Int} (k : S.1 a = 24) (h : S.2 a 0 = a + 1 ∧ S.1 (a + 1) = 3 ∧ S.2 a 1 = a + 2 ∧ S.1 (a + 2) = 3) : j_Lat S a := by
  unfold j_Lat
  rw [k]
  exact ⟨fun z => absurd z (by decide), fun z => absurd z (by decide), fun z => absurd z (by decide), fun _ => h, fun z => absurd z (by decide), fun z => absurd z (by decide), fun z => absurd z (by decide), fun z => absurd z (by decide), fun z => absurd z (by decide), fun z => absurd z (by decide), fun z => absurd z (by decide), fun z => absurd z (by decide), fun z => absurd z (by decide), fun z => absurd z (by decide)⟩
theorem j_Lat_25 {S : jS} {a : Int} (k : S.1 a = 25) (h : S.2 a 0 = a + 1 ∧ S.1 (a + 1) = 23) : j_Lat S a := by
  unfold j_Lat
  rw [k]
  exact ⟨fun z => absurd z (by decide), fun z => absurd z (by decide), fun z => absurd z (by decide), fun z => absurd z (by decide), fun _ => h, fun z => absurd z (by decide), fun z => absurd z (by decide), fun z => absurd z (by decide), fun z => absurd z (by decide), fun z => absurd z (by decide), fun z => absurd z (by decide), fun z => absurd z (by decide), fun z => absurd z (by decide), fun z => absurd z (by decide)⟩
theorem j_Lat_27 {S : jS} {a : Int} (k : S.1 a = 27) (h : S.2 a 0 = a + 1 ∧ S.1 (a + 1) = 1) : j_Lat S a := by
  unfold j_Lat
  rw [k]
  exact ⟨fun z => absurd z (by decide), fun z => absurd z (by decide), fun z => absurd z (by decide), fun z => absurd z (by decide), fun z => absurd z (by decide), fun _ => h, fun z => absurd z (by decide), fun z => absurd z (by decide), fun z => absurd z (by decide), fun z => absurd z (by decide), fun z => absurd z (by decide), fun z => absurd z (by decide), fun z => absurd z (by decide), fun z => absurd z (by decide)⟩
theorem j_Lat_28 {S : jS} {a : Int} (k : S.1 a = 28) (h : S.2 a 0 = a + 1 ∧ S.1 (a + 1) = 1 ∧ S.2 a 1 = a + 2 ∧ S.1 (a + 2) = 1 ∧ S.2 a 2 = a + 3 ∧ S.1 (a + 3) = 1 ∧ S.2 a 3 = a + 4 ∧ S.1 (a + 4) = 1 ∧ S.2 a 4 = a + 5 ∧ S.1 (a + 5) = 1) : j_Lat S a := by
  unfold j_Lat
  rw [k]
  exact ⟨fun z => absurd z (by decide), fun z => absurd z (by decide), fun z => absurd z (by decide), fun z => absurd z (by decide), fun z => absurd z (by decide), fun z => absurd z (by decide), fun _ => h, fun z => absurd z (by decide), fun z => absurd z (by decide), fun z => absurd z (by decide), fun z => absurd z (by decide), fun z => absurd z (by decide), fun z => absurd z (by decide), fun z => absurd z (by decide)⟩
theorem j_Lat_29 {S : jS} {a : Int} (k : S.1 a = 29) (h : S.2 a 0 = a + 1 ∧ S.1 (a + 1) = 19) : j_Lat S a := by
  unfold j_Lat
  rw [k]
  exact ⟨fun z => absurd z (by decide), fun z => absurd z (by decide), fun z => absurd z (by decide), fun z => absurd z (by decide), fun z => absurd z (by decide), fun z => absurd z (by decide), fun z => absurd z (by decide), fun _ => h, fun z => absurd z (by decide), fun z => absurd z (by decide), fun z => absurd z (by decide), fun z => absurd z (by decide), fun z => absurd z (by decide), fun z => absurd z (by decide)⟩
theorem j_Lat_30 {S : jS} {a : Int} (k : S.1 a = 30) (h : S.2 a 0 = a + 1 ∧ S.1 (a + 1) = 18 ∧ S.2 a 1 = a + 14 ∧ S.1 (a + 14) = 20 ∧ S.2 a 3 = a + 15 ∧ S.1 (a + 15) = 22) : j_Lat S a := by
  unfold j_Lat
  rw [k]
  exact ⟨fun z => absurd z (by decide), fun z => absurd z (by decide), fun z => absurd z (by decide), fun z => absurd z (by decide), fun z => absurd z (by decide), fun z => absurd z (by decide), fun z => absurd z (by decide), fun z => absurd z (by decide), fun _ => h, fun z => absurd z (by decide), fun z => absurd z (by decide), fun z => absurd z (by decide), fun z => absurd z (by decide), fun z => absurd z (by decide)⟩
theorem j_Lat_31 {S : jS} {a : Int} (k : S.1 a = 31) (h : S.2 a 0 = a + 1 ∧ S.1 (a + 1) = 30 ∧ S.2 a 2 = a + 200 ∧ S.1 (a + 200) = 21 ∧ S.2 a 3 = a + 230 ∧ S.1 (a + 230) = 24 ∧ S.2 a 4 = a + 240 ∧ S.1 (a + 240) = 26 ∧ S.2 a 5 = a + 241 ∧ S.1 (a + 241) = 1) : j_Lat S a := by
  unfold j_Lat
  rw [k]
  exact ⟨fun z => absurd z (by decide), fun z => absurd z (by decide), fun z => absurd z (by decide), fun z => absurd z (by decide), fun z => absurd z (by decide), fun z => absurd z (by decide), fun z => absurd z (by decide), fun z => absurd z (by decide), fun z => absurd z (by decide), fun _ => h, fun z => absurd z (by decide), fun z => absurd z (by decide), fun z => absurd z (by decide), fun z => absurd z (by decide)⟩
theorem j_Lat_32 {S : jS} {a : Int} (k : S.1 a = 32) (h : S.2 a 0 = a + 1 ∧ S.1 (a + 1) = 8 ∧ S.2 a 1 = a + 2 ∧ S.1 (a + 2) = 9 ∧ S.2 a 3 = a + 3 ∧ S.1 (a + 3) = 10 ∧ S.2 a 4 = a + 4 ∧ S.1 (a + 4) = 10 ∧ S.2 a 5 = a + 5 ∧ S.1 (a + 5) = 17 ∧ S.2 a 6 = a + 6 ∧ S.1 (a + 6) = 11 ∧ S.2 a 8 = a + 7 ∧ S.1 (a + 7) = 6) : j_Lat S a := by
  unfold j_Lat
  rw [k]
  exact ⟨fun z => absurd z (by decide), fun z => absurd z (by decide), fun z => absurd z (by decide), fun z => absurd z (by decide), fun z => absurd z (by decide), fun z => absurd z (by decide), fun z => absurd z (by decide), fun z => absurd z (by decide), fun z => absurd z (by decide), fun z => absurd z (by decide), fun _ => h, fun z => absurd z (by decide), fun z => absurd z (by decide), fun z => absurd z (by decide)⟩
theorem j_Lat_33 {S : jS} {a : Int} (k : S.1 a = 33) (h : S.2 a 0 = a + 1 ∧ S.1 (a + 1) = 32 ∧ S.2 a 1 = a + 9 ∧ S.1 (a + 9) = 32 ∧ S.2 a 5 = a + 17 ∧ S.1 (a + 17) = 1 ∧ S.2 a 6 = a + 18 ∧ S.1 (a + 18) = 1 ∧ S.2 a 7 = a + 19 ∧ S.1 (a + 19) = 3 ∧ S.2 a 8 = a + 20 ∧ S.1 (a + 20) = 3 ∧ S.2 a 11 = a + 21 ∧ S.1 (a + 21) = 12 ∧ S.2 a 14 = a + 22 ∧ S.1 (a + 22) = 1 ∧ S.2 a 15 = a + 23 ∧ S.1 (a + 23) = 1 ∧ S.2 a 16 = a + 24 ∧ S.1 (a + 24) = 15 ∧ S.2 a 17 = a + 25 ∧ S.1 (a + 25) = 13 ∧ S.2 a 19 = a + 26 ∧ S.1 (a + 26) = 14 ∧ S.2 a 21 = a + 27 ∧ S.1 (a + 27) = 12 ∧ S.2 a 28 = a + 28 ∧ S.1 (a + 28) = 1 ∧ S.2 a 29 = a + 29 ∧ S.1 (a + 29) = 16 ∧ S.2 a 30 = a + 30 ∧ S.1 (a + 30) = 1) : j_Lat S a := by
  unfold j_Lat
  rw [k]
  exact ⟨fun z => absurd z (by decide), fun z => absurd z (by decide), fun z => absurd z (by decide), fun z => absurd z (by decide), fun z => absurd z (by decide), fun z => absurd z (by decide), fun z => absurd z (by decide), fun z => absurd z (by decide), fun z => absurd z (by decide), fun z => absurd z (by decide), fun z => absurd z (by decide), fun _ => h, fun z => absurd z (by decide), fun z => absurd z (by decide)⟩
theorem j_Lat_18 {S : jS} {a : Int} (k : S.1 a = 18) (h : ∀ i : Int, 0 ≤ i → i < 6 → S.2 a i = a + 1 + 2 * i ∧ S.1 (a + 1 + 2 * i) = 27) : j_Lat S a := by
  unfold j_Lat
  rw [k]
  exact ⟨fun z => absurd z (by decide), fun z => absurd z (by decide), fun z => absurd z (by decide), fun z => absurd z (by decide), fun z => absurd z (by decide), fun z => absurd z (by decide), fun z => absurd z (by decide), fun z => absurd z (by decide), fun z => absurd z (by decide), fun z => absurd z (by decide), fun z => absurd z (by decide), fun z => absurd z (by decide), fun _ => h, fun z => absurd z (by decide)⟩
theorem j_Lat_19 {S : jS} {a : Int} (k : S.1 a = 19) (h : ∀ i : Int, 0 ≤ i → i < 4 → S.2 a i = a + 1 + 2 * i ∧ S.1 (a + 1 + 2 * i) = 23) : j_Lat S a := by
  unfold j_Lat
  rw [k]
  exact ⟨fun z => absurd z (by decide), fun z => absurd z (by decide), fun z => absurd z (by decide), fun z => absurd z (by decide), fun z => absurd z (by decide), fun z => absurd z (by decide), fun z => absurd z (by decide), fun z => absurd z (by decide), fun z => absurd z (by decide), fun z => absurd z (by decide), fun z => absurd z (by decide), fun z => absurd z (by decide), fun z => absurd z (by decide), fun _ => h⟩
theorem j_Lat_tr {S : jS} {a : Int} (k : S.1 a < 18 ∨ S.1 a = 20 ∨ S.1 a = 26) : j_Lat S a := ⟨fun z => absurd z (by omega), fun z => absurd z (by omega), fun z => absurd z (by omega), fun z => absurd z (by omega), fun z => absurd z (by omega), fun z => absurd z (by omega), fun z => absurd z (by omega), fun z => absurd z (by omega), fun z => absurd z (by omega), fun z => absurd z (by omega), fun z => absurd z (by omega), fun z => absurd z (by omega), fun z => absurd z (by omega), fun z => absurd z (by omega)⟩
theorem j_Lat_mono {S S' : jS} {a : Int} (hk : ∀ x : Int, S.1 x ≠ 0 → S'.1 x = S.1 x) (h1 : S'.1 a = S.1 a) (h2 : S'.2 a = S.2 a) (h : j_Lat S a) : j_Lat S' a := by
  unfold j_Lat at h ⊢
  rw [h1, h2]
  obtain ⟨h0, h1, h2, h3, h4, h5, h6, h7, h8, h9, h10, h11, h12, h13⟩ := h
  refine ⟨?_, ?_, ?_, ?_, ?_, ?_, ?_, ?_, ?_, ?_, ?_, ?_, ?_, ?_⟩
  · intro k
    obtain ⟨q0, q1, q2, q3, q4, q5, q6, q7, q8, q9⟩ := h0 k
    exact ⟨q0, (hk _ (by rw [q1]; decide)).trans q1, q2, (hk _ (by rw [q3]; decide)).trans q3, q4, (hk _ (by rw [q5]; decide)).trans q5, q6, (hk _ (by rw [q7]; decide)).trans q7, q8, (hk _ (by rw [q9]; decide)).trans q9⟩
  · intro k
    obtain ⟨q0, q1, q2, q3⟩ := h1 k
    exact ⟨q0, (hk _ (by rw [q1]; decide)).trans q1, q2, (hk _ (by rw [q3]; decide)).trans q3⟩
  · intro k
    obtain ⟨q0, q1⟩ := h2 k
    exact ⟨q0, (hk _ (by rw [q1]; decide)).trans q1⟩
  · intro k
    obtain ⟨q0, q1, q2, q3⟩ := h3 k
    exact ⟨q0, (hk _ (by rw [q1]; decide)).trans q1, q2, (hk _ (by rw [q3]; decide)).trans q3⟩
  · intro k
    obtain ⟨q0, q1⟩ := h4 k
    exact ⟨q0, (hk _ (by rw [q1]; decide)).trans q1⟩
  · intro k
    obtain ⟨q0, q1⟩ := h5 k
    exact ⟨q0, (hk _ (by rw [q1]; decide)).trans q1⟩
  · intro k
    obtain ⟨q0, q1, q2, q3, q4, q5, q6, q7, q8, q9⟩ := h6 k
    exact ⟨q0, (hk _ (by rw [q1]; decide)).trans q1, q2, (hk _ (by rw [q3]; decide)).trans q3, q4, (hk _ (by rw [q5]; decide)).trans q5, q6, (hk _ (by rw [q7]; decide)).trans q7, q8, (hk _ (by rw [q9]; decide)).trans q9⟩
  · intro k
    obtain ⟨q0, q1⟩ := h7 k
    exact ⟨q0, (hk _ (by rw [q1]; decide)).trans q1⟩
  · intro k
    obtain ⟨q0, q1, q2, q3, q4, q5⟩ := h8 k
    exact ⟨q0, (hk _ (by rw [q1]; decide)).trans q1, q2, (hk _ (by rw [q3]; decide)).trans q3, q4, (hk _ (by rw [q5]; decide)).trans q5⟩
  · intro k
    obtain ⟨q0, q1, q2, q3, q4, q5, q6, q7, q8, q9⟩ := h9 k
    exact ⟨q0, (hk _ (by rw [q1]; decide)).trans q1, q2, (hk _ (by rw [q3]; decide)).trans q3, q4, (hk _ (by rw [q5]; decide)).trans q5, q6, (hk _ (by rw [q7]; decide)).trans q7, q8, (hk _ (by rw [q9]; decide)).trans q9⟩
  · intro k
    obtain ⟨q0, q1, q2, q3, q4, q5, q6, q7, q8, q9, q10, q11, q12, q13⟩ := h10 k
    exact ⟨q0, (hk _ (by rw [q1]; decide)).trans q1, q2, (hk _ (by rw [q3]; decide)).trans q3, q4, (hk _ (by rw [q5]; decide)).trans q5, q6, (hk _ (by rw [q7]; decide)).trans q7, q8, (hk _ (by rw [q9]; decide)).trans q9, q10, (hk _ (by rw [q11]; decide)).trans q11, q12, (hk _ (by rw [q13]; decide)).trans q13⟩
  · intro k
    obtain ⟨q0, q1, q2, q3, q4, q5, q6, q7, q8, q9, q10, q11, q12, q13, q14, q15, q16, q17, q18, q19, q20, q21, q22, q23, q24, q25, q26, q27, q28, q29, q30, q31⟩ := h11 k
    exact ⟨q0, (hk _ (by rw [q1]; decide)).trans q1, q2, (hk _ (by rw [q3]; decide)).trans q3, q4, (hk _ (by rw [q5]; decide)).trans q5, q6, (hk _ (by rw [q7]; decide)).trans q7, q8, (hk _ (by rw [q9]; decide)).trans q9, q10, (hk _ (by rw [q11]; decide)).trans q11, q12, (hk _ (by rw [q13]; decide)).trans q13, q14, (hk _ (by rw [q15]; decide)).trans q15, q16, (hk _ (by rw [q17]; decide)).trans q17, q18, (hk _ (by rw [q19]; decide)).trans q19, q20, (hk _ (by rw [q21]; decide)).trans q21, q22, (hk _ (by rw [q23]; decide)).trans q23, q24, (hk _ (by rw [q25]; decide)).trans q25, q26, (hk _ (by rw [q27]; decide)).trans q27, q28, (hk _ (by rw [q29]; decide)).trans q29, q30, (hk _ (by rw [q31]; decide)).trans q31⟩
  · intro k i i0 i1
    obtain ⟨q0, q1⟩ := h12 k i i0 i1
    exact ⟨q0, (hk _ (by rw [q1]; decide)).trans q1⟩
  · intro k i i0 i1
    obtain ⟨q0, q1⟩ := h13 k i i0 i1
    exact ⟨q0, (hk _ (by rw [q1]; decide)).trans q1⟩
