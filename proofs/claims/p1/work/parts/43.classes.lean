def t_fg0 : List (Nat × Nat × Nat) := []
def t_fp0 : List (Nat × Nat × Nat) := [(39, 0, 5)]
def t_fi0 : List (Nat × Nat × Nat) := [(12, 0, 0), (21, 0, 1), (28, 0, 2), (32, 0, 3), (36, 0, 4), (39, 0, 5)]
def t_cn0 : List (Nat × Nat × Nat) := [(9, 8, 3), (18, 4, 2), (25, 7, 6)]
def t_na0 : List (Nat × Nat) := [(10, 0)]
def t_at0 : List (Nat × Nat) := []
def t_kI0 : List (Nat × Int) := []
def t_kL0 : List (Nat × Int) := []
def t_ob0 : List Nat := [3]
def t_cp0 : List Nat := []
theorem c_fg0 {C : qCx} {cc : ByteArray} {nL : Nat} {D : va_G} {tys : List (ClassId × FieldType)} (h : n_ctx C cc nL "BalanceCoder$Bench" D tys) : ∀ x ∈ t_fg0, q_Fget C cc D x.1 x.2.1 x.2.2 := n_mem0
theorem c_fp0 {C : qCx} {cc : ByteArray} {nL : Nat} {D : va_G} {tys : List (ClassId × FieldType)} (h : n_ctx C cc nL "BalanceCoder$Bench" D tys) : ∀ x ∈ t_fp0, ∃ ty, q_Fput C cc D x.1 x.2.1 x.2.2 ty ∧ q_ktf n_KT x.2.1 x.2.2 ty = true := (n_mem2 (⟨_, q_Fput_of h.2.1 h.2.2.2.1 h.2.2.2.2.1 h.2.2.2.2.2.1 (Cn := RX0) (Tt := TX0) (ty := tyX0 5) rfl (by decide) n_u0 (tyX0_ok _ (by decide)) rfl (h.2.2.2.2.1 _ n_w226), by decide +kernel⟩) n_mem0)
theorem c_fi0 {C : qCx} {cc : ByteArray} {nL : Nat} {D : va_G} {tys : List (ClassId × FieldType)} (h : n_ctx C cc nL "BalanceCoder$Bench" D tys) (hin : C.2.2.2.2.2.2.2.2.1.name = "<init>") : ∀ x ∈ t_fi0, ∃ ty, q_Fput C cc D x.1 x.2.1 x.2.2 ty ∧ q_ktf n_KT x.2.1 x.2.2 ty = true := (n_mem2 (⟨_, q_FputF_of h.2.1 h.2.2.2.1 h.2.2.2.2.1 h.2.2.2.2.2.1 (Cn := RX0) (Tt := TX0) (ty := tyX0 0) rfl (by decide) n_u0 (tyX0_ok _ (by decide)) rfl hin rfl (h.2.2.2.2.1 _ n_w214), by decide +kernel⟩) (n_mem2 (⟨_, q_FputF_of h.2.1 h.2.2.2.1 h.2.2.2.2.1 h.2.2.2.2.2.1 (Cn := RX0) (Tt := TX0) (ty := tyX0 1) rfl (by decide) n_u0 (tyX0_ok _ (by decide)) rfl hin rfl (h.2.2.2.2.1 _ n_w217), by decide +kernel⟩) (n_mem2 (⟨_, q_FputF_of h.2.1 h.2.2.2.1 h.2.2.2.2.1 h.2.2.2.2.2.1 (Cn := RX0) (Tt := TX0) (ty := tyX0 2) rfl (by decide) n_u0 (tyX0_ok _ (by decide)) rfl hin rfl (h.2.2.2.2.1 _ n_w218), by decide +kernel⟩) (n_mem2 (⟨_, q_FputF_of h.2.1 h.2.2.2.1 h.2.2.2.2.1 h.2.2.2.2.2.1 (Cn := RX0) (Tt := TX0) (ty := tyX0 3) rfl (by decide) n_u0 (tyX0_ok _ (by decide)) rfl hin rfl (h.2.2.2.2.1 _ n_w221), by decide +kernel⟩) (n_mem2 (⟨_, q_FputF_of h.2.1 h.2.2.2.1 h.2.2.2.2.1 h.2.2.2.2.2.1 (Cn := RX0) (Tt := TX0) (ty := tyX0 4) rfl (by decide) n_u0 (tyX0_ok _ (by decide)) rfl hin rfl (h.2.2.2.2.1 _ n_w224), by decide +kernel⟩) (n_mem2 (⟨_, q_Fput_of h.2.1 h.2.2.2.1 h.2.2.2.2.1 h.2.2.2.2.2.1 (Cn := RX0) (Tt := TX0) (ty := tyX0 5) rfl (by decide) n_u0 (tyX0_ok _ (by decide)) rfl (h.2.2.2.2.1 _ n_w226), by decide +kernel⟩) n_mem0))))))
theorem c_cn0 {C : qCx} {cc : ByteArray} {nL : Nat} {D : va_G} {tys : List (ClassId × FieldType)} (h : n_ctx C cc nL "BalanceCoder$Bench" D tys) : ∀ x ∈ t_cn0, ∃ tyf : Nat → FieldType, q_Fnew C cc D x.1 x.2.1 x.2.2 tyf ∧ ∀ f, f < x.2.2 → q_ktf n_KT x.2.1 f (tyf f) = true := (n_mem2 (⟨tyX8, q_Fnew_of h.2.1 h.2.2.2.1 h.2.2.2.2.1 h.2.2.2.2.2.1 (Cn := RX8) (Tt := TX8) rfl n_u8 tyX8_ok (h.2.2.2.2.1 _ n_w158) (h.2.2.2.2.1 _ n_w159) (h.2.2.2.2.1 _ n_w7), by decide +kernel⟩) (n_mem2 (⟨tyX4, q_Fnew_of h.2.1 h.2.2.2.1 h.2.2.2.2.1 h.2.2.2.2.2.1 (Cn := RX4) (Tt := TX4) rfl n_u4 tyX4_ok (h.2.2.2.2.1 _ n_w197) (h.2.2.2.2.1 _ n_w198) (h.2.2.2.2.1 _ n_w9), by decide +kernel⟩) (n_mem2 (⟨tyX7, q_Fnew_of h.2.1 h.2.2.2.1 h.2.2.2.2.1 h.2.2.2.2.2.1 (Cn := RX7) (Tt := TX7) rfl n_u7 tyX7_ok (h.2.2.2.2.1 _ n_w212) (h.2.2.2.2.1 _ n_w42) (h.2.2.2.2.1 _ n_w4), by decide +kernel⟩) n_mem0)))
theorem c_n10 {C : qCx} {cc : ByteArray} {nL : Nat} {D : va_G} {tys : List (ClassId × FieldType)} (h : n_ctx C cc nL "BalanceCoder$Bench" D tys) : ∀ a t, (q_aky a, t) ∈ t_na0 → ∃ cA ty, tys[t]? = some (cA, ty) ∧ q_Fna C cc (.newarray a) cA ty := by
  intro a t hm
  cases a
  · exact absurd hm (by simp [t_na0, q_aky])
  · exact absurd hm (by simp [t_na0, q_aky])
  · exact absurd hm (by simp [t_na0, q_aky])
  · exact absurd hm (by simp [t_na0, q_aky])
  · exact absurd hm (by simp [t_na0, q_aky])
  · exact absurd hm (by simp [t_na0, q_aky])
  · have ht : t = 0 := by simpa [t_na0, q_aky] using hm
    subst ht
    obtain ⟨cA, hcA⟩ := n_ty h.1 0 rfl
    exact ⟨cA, _, hcA, q_Fna_of h.2.1 h.2.2.2.2.2.1 hcA (h.2.2.2.2.1 _ n_w81)⟩
  · exact absurd hm (by simp [t_na0, q_aky])
theorem c_n20 {C : qCx} {cc : ByteArray} {nL : Nat} {D : va_G} {tys : List (ClassId × FieldType)} (h : n_ctx C cc nL "BalanceCoder$Bench" D tys) : ∀ i t, (100 + i, t) ∈ t_na0 → ∃ cA ty, tys[t]? = some (cA, ty) ∧ q_Fna C cc (.anewarray i) cA ty := by
  intro i t hm
  simp [t_na0] at hm
  try omega
theorem c_at0 {C : qCx} {cc : ByteArray} {nL : Nat} {D : va_G} {tys : List (ClassId × FieldType)} (h : n_ctx C cc nL "BalanceCoder$Bench" D tys) : ∀ x ∈ t_at0, q_AR C.2.2.2.2.1 D tys x.1 x.2 := n_mem0
theorem c_kI0 {C : qCx} {cc : ByteArray} {nL : Nat} {D : va_G} {tys : List (ClassId × FieldType)} (h : n_ctx C cc nL "BalanceCoder$Bench" D tys) : ∀ x ∈ t_kI0, ∃ v : Int32, v.toInt = x.2 ∧ q_Kld C cc (.ldc x.1) (.int v) := n_mem0
theorem c_kL0 {C : qCx} {cc : ByteArray} {nL : Nat} {D : va_G} {tys : List (ClassId × FieldType)} (h : n_ctx C cc nL "BalanceCoder$Bench" D tys) : ∀ x ∈ t_kL0, ∃ v : Int64, v.toInt = x.2 ∧ q_Kld C cc (.ldc2_w x.1) (.long v) := n_mem0
theorem c_ob0 {C : qCx} {cc : ByteArray} {nL : Nat} {D : va_G} {tys : List (ClassId × FieldType)} (h : n_ctx C cc nL "BalanceCoder$Bench" D tys) (hR : 1 ≤ C.2.2.2.1.frames ∧ 20 ≤ C.2.2.2.1.locals) : ∀ x ∈ t_ob0, q_Kob C cc nL x := (n_mem2 (q_Kob_of h.2.1 h.2.2.1 h.2.2.2.1 (h.2.2.2.2.1 _ n_w157) (h.2.2.2.2.1 _ n_w23) (h.2.2.2.2.1 _ n_w24) hR) n_mem0)
theorem c_cp0 {C : qCx} {cc : ByteArray} {nL : Nat} {D : va_G} {tys : List (ClassId × FieldType)} (h : n_ctx C cc nL "BalanceCoder$Bench" D tys) : ∀ x ∈ t_cp0, q_Kcp C cc nL x := n_mem0
def t_fg1 : List (Nat × Nat × Nat) := [(9, 1, 0), (15, 1, 1), (19, 1, 2), (26, 1, 3), (30, 1, 4)]
def t_fp1 : List (Nat × Nat × Nat) := [(15, 1, 1), (19, 1, 2), (30, 1, 4)]
def t_fi1 : List (Nat × Nat × Nat) := [(9, 1, 0), (15, 1, 1), (19, 1, 2), (26, 1, 3), (30, 1, 4)]
def t_cn1 : List (Nat × Nat × Nat) := [(23, 7, 6)]
def t_na1 : List (Nat × Nat) := [(10, 0)]
def t_at1 : List (Nat × Nat) := []
def t_kI1 : List (Nat × Int) := []
def t_kL1 : List (Nat × Int) := []
def t_ob1 : List Nat := [3]
def t_cp1 : List Nat := [33]
theorem c_fg1 {C : qCx} {cc : ByteArray} {nL : Nat} {D : va_G} {tys : List (ClassId × FieldType)} (h : n_ctx C cc nL "BalanceCoder$Block" D tys) : ∀ x ∈ t_fg1, q_Fget C cc D x.1 x.2.1 x.2.2 := (n_mem2 (q_Fget_of h.2.1 h.2.2.2.1 h.2.2.2.2.1 h.2.2.2.2.2.1 (Cn := RX1) (Tt := TX1) rfl (by decide) n_u1 (h.2.2.2.2.1 _ n_w82)) (n_mem2 (q_Fget_of h.2.1 h.2.2.2.1 h.2.2.2.2.1 h.2.2.2.2.2.1 (Cn := RX1) (Tt := TX1) rfl (by decide) n_u1 (h.2.2.2.2.1 _ n_w86)) (n_mem2 (q_Fget_of h.2.1 h.2.2.2.1 h.2.2.2.2.1 h.2.2.2.2.2.1 (Cn := RX1) (Tt := TX1) rfl (by decide) n_u1 (h.2.2.2.2.1 _ n_w90)) (n_mem2 (q_Fget_of h.2.1 h.2.2.2.1 h.2.2.2.2.1 h.2.2.2.2.2.1 (Cn := RX1) (Tt := TX1) rfl (by decide) n_u1 (h.2.2.2.2.1 _ n_w92)) (n_mem2 (q_Fget_of h.2.1 h.2.2.2.1 h.2.2.2.2.1 h.2.2.2.2.2.1 (Cn := RX1) (Tt := TX1) rfl (by decide) n_u1 (h.2.2.2.2.1 _ n_w94)) n_mem0)))))
theorem c_fp1 {C : qCx} {cc : ByteArray} {nL : Nat} {D : va_G} {tys : List (ClassId × FieldType)} (h : n_ctx C cc nL "BalanceCoder$Block" D tys) : ∀ x ∈ t_fp1, ∃ ty, q_Fput C cc D x.1 x.2.1 x.2.2 ty ∧ q_ktf n_KT x.2.1 x.2.2 ty = true := (n_mem2 (⟨_, q_Fput_of h.2.1 h.2.2.2.1 h.2.2.2.2.1 h.2.2.2.2.2.1 (Cn := RX1) (Tt := TX1) (ty := tyX1 1) rfl (by decide) n_u1 (tyX1_ok _ (by decide)) rfl (h.2.2.2.2.1 _ n_w86), by decide +kernel⟩) (n_mem2 (⟨_, q_Fput_of h.2.1 h.2.2.2.1 h.2.2.2.2.1 h.2.2.2.2.2.1 (Cn := RX1) (Tt := TX1) (ty := tyX1 2) rfl (by decide) n_u1 (tyX1_ok _ (by decide)) rfl (h.2.2.2.2.1 _ n_w90), by decide +kernel⟩) (n_mem2 (⟨_, q_Fput_of h.2.1 h.2.2.2.1 h.2.2.2.2.1 h.2.2.2.2.2.1 (Cn := RX1) (Tt := TX1) (ty := tyX1 4) rfl (by decide) n_u1 (tyX1_ok _ (by decide)) rfl (h.2.2.2.2.1 _ n_w94), by decide +kernel⟩) n_mem0)))
theorem c_fi1 {C : qCx} {cc : ByteArray} {nL : Nat} {D : va_G} {tys : List (ClassId × FieldType)} (h : n_ctx C cc nL "BalanceCoder$Block" D tys) (hin : C.2.2.2.2.2.2.2.2.1.name = "<init>") : ∀ x ∈ t_fi1, ∃ ty, q_Fput C cc D x.1 x.2.1 x.2.2 ty ∧ q_ktf n_KT x.2.1 x.2.2 ty = true := (n_mem2 (⟨_, q_FputF_of h.2.1 h.2.2.2.1 h.2.2.2.2.1 h.2.2.2.2.2.1 (Cn := RX1) (Tt := TX1) (ty := tyX1 0) rfl (by decide) n_u1 (tyX1_ok _ (by decide)) rfl hin rfl (h.2.2.2.2.1 _ n_w82), by decide +kernel⟩) (n_mem2 (⟨_, q_Fput_of h.2.1 h.2.2.2.1 h.2.2.2.2.1 h.2.2.2.2.2.1 (Cn := RX1) (Tt := TX1) (ty := tyX1 1) rfl (by decide) n_u1 (tyX1_ok _ (by decide)) rfl (h.2.2.2.2.1 _ n_w86), by decide +kernel⟩) (n_mem2 (⟨_, q_Fput_of h.2.1 h.2.2.2.1 h.2.2.2.2.1 h.2.2.2.2.2.1 (Cn := RX1) (Tt := TX1) (ty := tyX1 2) rfl (by decide) n_u1 (tyX1_ok _ (by decide)) rfl (h.2.2.2.2.1 _ n_w90), by decide +kernel⟩) (n_mem2 (⟨_, q_FputF_of h.2.1 h.2.2.2.1 h.2.2.2.2.1 h.2.2.2.2.2.1 (Cn := RX1) (Tt := TX1) (ty := tyX1 3) rfl (by decide) n_u1 (tyX1_ok _ (by decide)) rfl hin rfl (h.2.2.2.2.1 _ n_w92), by decide +kernel⟩) (n_mem2 (⟨_, q_Fput_of h.2.1 h.2.2.2.1 h.2.2.2.2.1 h.2.2.2.2.2.1 (Cn := RX1) (Tt := TX1) (ty := tyX1 4) rfl (by decide) n_u1 (tyX1_ok _ (by decide)) rfl (h.2.2.2.2.1 _ n_w94), by decide +kernel⟩) n_mem0)))))
theorem c_cn1 {C : qCx} {cc : ByteArray} {nL : Nat} {D : va_G} {tys : List (ClassId × FieldType)} (h : n_ctx C cc nL "BalanceCoder$Block" D tys) : ∀ x ∈ t_cn1, ∃ tyf : Nat → FieldType, q_Fnew C cc D x.1 x.2.1 x.2.2 tyf ∧ ∀ f, f < x.2.2 → q_ktf n_KT x.2.1 f (tyf f) = true := (n_mem2 (⟨tyX7, q_Fnew_of h.2.1 h.2.2.2.1 h.2.2.2.2.1 h.2.2.2.2.2.1 (Cn := RX7) (Tt := TX7) rfl n_u7 tyX7_ok (h.2.2.2.2.1 _ n_w41) (h.2.2.2.2.1 _ n_w42) (h.2.2.2.2.1 _ n_w4), by decide +kernel⟩) n_mem0)
theorem c_n11 {C : qCx} {cc : ByteArray} {nL : Nat} {D : va_G} {tys : List (ClassId × FieldType)} (h : n_ctx C cc nL "BalanceCoder$Block" D tys) : ∀ a t, (q_aky a, t) ∈ t_na1 → ∃ cA ty, tys[t]? = some (cA, ty) ∧ q_Fna C cc (.newarray a) cA ty := by
  intro a t hm
  cases a
  · exact absurd hm (by simp [t_na1, q_aky])
  · exact absurd hm (by simp [t_na1, q_aky])
  · exact absurd hm (by simp [t_na1, q_aky])
  · exact absurd hm (by simp [t_na1, q_aky])
  · exact absurd hm (by simp [t_na1, q_aky])
  · exact absurd hm (by simp [t_na1, q_aky])
  · have ht : t = 0 := by simpa [t_na1, q_aky] using hm
    subst ht
    obtain ⟨cA, hcA⟩ := n_ty h.1 0 rfl
    exact ⟨cA, _, hcA, q_Fna_of h.2.1 h.2.2.2.2.2.1 hcA (h.2.2.2.2.1 _ n_w81)⟩
  · exact absurd hm (by simp [t_na1, q_aky])
theorem c_n21 {C : qCx} {cc : ByteArray} {nL : Nat} {D : va_G} {tys : List (ClassId × FieldType)} (h : n_ctx C cc nL "BalanceCoder$Block" D tys) : ∀ i t, (100 + i, t) ∈ t_na1 → ∃ cA ty, tys[t]? = some (cA, ty) ∧ q_Fna C cc (.anewarray i) cA ty := by
  intro i t hm
  simp [t_na1] at hm
  try omega
theorem c_at1 {C : qCx} {cc : ByteArray} {nL : Nat} {D : va_G} {tys : List (ClassId × FieldType)} (h : n_ctx C cc nL "BalanceCoder$Block" D tys) : ∀ x ∈ t_at1, q_AR C.2.2.2.2.1 D tys x.1 x.2 := n_mem0
theorem c_kI1 {C : qCx} {cc : ByteArray} {nL : Nat} {D : va_G} {tys : List (ClassId × FieldType)} (h : n_ctx C cc nL "BalanceCoder$Block" D tys) : ∀ x ∈ t_kI1, ∃ v : Int32, v.toInt = x.2 ∧ q_Kld C cc (.ldc x.1) (.int v) := n_mem0
theorem c_kL1 {C : qCx} {cc : ByteArray} {nL : Nat} {D : va_G} {tys : List (ClassId × FieldType)} (h : n_ctx C cc nL "BalanceCoder$Block" D tys) : ∀ x ∈ t_kL1, ∃ v : Int64, v.toInt = x.2 ∧ q_Kld C cc (.ldc2_w x.1) (.long v) := n_mem0
theorem c_ob1 {C : qCx} {cc : ByteArray} {nL : Nat} {D : va_G} {tys : List (ClassId × FieldType)} (h : n_ctx C cc nL "BalanceCoder$Block" D tys) (hR : 1 ≤ C.2.2.2.1.frames ∧ 20 ≤ C.2.2.2.1.locals) : ∀ x ∈ t_ob1, q_Kob C cc nL x := (n_mem2 (q_Kob_of h.2.1 h.2.2.1 h.2.2.2.1 (h.2.2.2.2.1 _ n_w40) (h.2.2.2.2.1 _ n_w23) (h.2.2.2.2.1 _ n_w24) hR) n_mem0)
theorem c_cp1 {C : qCx} {cc : ByteArray} {nL : Nat} {D : va_G} {tys : List (ClassId × FieldType)} (h : n_ctx C cc nL "BalanceCoder$Block" D tys) (hR : 1 ≤ C.2.2.2.1.frames ∧ 8 + (nativeFrameWords "java/lang/System" "arraycopy" 5 + 11) ≤ C.2.2.2.1.locals) : ∀ x ∈ t_cp1, q_Kcp C cc nL x := (n_mem2 (q_Kcp_of h.2.1 h.2.2.1 h.2.2.2.1 (h.2.2.2.2.1 _ n_w739) (h.2.2.2.2.1 _ n_w592) (h.2.2.2.2.1 _ n_w591) (h.2.2.2.2.1 _ n_w16) hR) n_mem0)
def t_fg2 : List (Nat × Nat × Nat) := [(9, 2, 0)]
def t_fp2 : List (Nat × Nat × Nat) := []
def t_fi2 : List (Nat × Nat × Nat) := [(9, 2, 0)]
def t_cn2 : List (Nat × Nat × Nat) := []
def t_na2 : List (Nat × Nat) := [(10, 0)]
def t_at2 : List (Nat × Nat) := []
def t_kI2 : List (Nat × Int) := []
def t_kL2 : List (Nat × Int) := []
def t_ob2 : List Nat := [3]
def t_cp2 : List Nat := []
theorem c_fg2 {C : qCx} {cc : ByteArray} {nL : Nat} {D : va_G} {tys : List (ClassId × FieldType)} (h : n_ctx C cc nL "BalanceCoder$Deal" D tys) : ∀ x ∈ t_fg2, q_Fget C cc D x.1 x.2.1 x.2.2 := (n_mem2 (q_Fget_of h.2.1 h.2.2.2.1 h.2.2.2.2.1 h.2.2.2.2.2.1 (Cn := RX2) (Tt := TX2) rfl (by decide) n_u2 (h.2.2.2.2.1 _ n_w171)) n_mem0)
theorem c_fp2 {C : qCx} {cc : ByteArray} {nL : Nat} {D : va_G} {tys : List (ClassId × FieldType)} (h : n_ctx C cc nL "BalanceCoder$Deal" D tys) : ∀ x ∈ t_fp2, ∃ ty, q_Fput C cc D x.1 x.2.1 x.2.2 ty ∧ q_ktf n_KT x.2.1 x.2.2 ty = true := n_mem0
theorem c_fi2 {C : qCx} {cc : ByteArray} {nL : Nat} {D : va_G} {tys : List (ClassId × FieldType)} (h : n_ctx C cc nL "BalanceCoder$Deal" D tys) (hin : C.2.2.2.2.2.2.2.2.1.name = "<init>") : ∀ x ∈ t_fi2, ∃ ty, q_Fput C cc D x.1 x.2.1 x.2.2 ty ∧ q_ktf n_KT x.2.1 x.2.2 ty = true := (n_mem2 (⟨_, q_FputF_of h.2.1 h.2.2.2.1 h.2.2.2.2.1 h.2.2.2.2.2.1 (Cn := RX2) (Tt := TX2) (ty := tyX2 0) rfl (by decide) n_u2 (tyX2_ok _ (by decide)) rfl hin rfl (h.2.2.2.2.1 _ n_w171), by decide +kernel⟩) n_mem0)
theorem c_cn2 {C : qCx} {cc : ByteArray} {nL : Nat} {D : va_G} {tys : List (ClassId × FieldType)} (h : n_ctx C cc nL "BalanceCoder$Deal" D tys) : ∀ x ∈ t_cn2, ∃ tyf : Nat → FieldType, q_Fnew C cc D x.1 x.2.1 x.2.2 tyf ∧ ∀ f, f < x.2.2 → q_ktf n_KT x.2.1 f (tyf f) = true := n_mem0
theorem c_n12 {C : qCx} {cc : ByteArray} {nL : Nat} {D : va_G} {tys : List (ClassId × FieldType)} (h : n_ctx C cc nL "BalanceCoder$Deal" D tys) : ∀ a t, (q_aky a, t) ∈ t_na2 → ∃ cA ty, tys[t]? = some (cA, ty) ∧ q_Fna C cc (.newarray a) cA ty := by
  intro a t hm
  cases a
  · exact absurd hm (by simp [t_na2, q_aky])
  · exact absurd hm (by simp [t_na2, q_aky])
  · exact absurd hm (by simp [t_na2, q_aky])
  · exact absurd hm (by simp [t_na2, q_aky])
  · exact absurd hm (by simp [t_na2, q_aky])
  · exact absurd hm (by simp [t_na2, q_aky])
  · have ht : t = 0 := by simpa [t_na2, q_aky] using hm
    subst ht
    obtain ⟨cA, hcA⟩ := n_ty h.1 0 rfl
    exact ⟨cA, _, hcA, q_Fna_of h.2.1 h.2.2.2.2.2.1 hcA (h.2.2.2.2.1 _ n_w81)⟩
  · exact absurd hm (by simp [t_na2, q_aky])
theorem c_n22 {C : qCx} {cc : ByteArray} {nL : Nat} {D : va_G} {tys : List (ClassId × FieldType)} (h : n_ctx C cc nL "BalanceCoder$Deal" D tys) : ∀ i t, (100 + i, t) ∈ t_na2 → ∃ cA ty, tys[t]? = some (cA, ty) ∧ q_Fna C cc (.anewarray i) cA ty := by
  intro i t hm
  simp [t_na2] at hm
  try omega
theorem c_at2 {C : qCx} {cc : ByteArray} {nL : Nat} {D : va_G} {tys : List (ClassId × FieldType)} (h : n_ctx C cc nL "BalanceCoder$Deal" D tys) : ∀ x ∈ t_at2, q_AR C.2.2.2.2.1 D tys x.1 x.2 := n_mem0
theorem c_kI2 {C : qCx} {cc : ByteArray} {nL : Nat} {D : va_G} {tys : List (ClassId × FieldType)} (h : n_ctx C cc nL "BalanceCoder$Deal" D tys) : ∀ x ∈ t_kI2, ∃ v : Int32, v.toInt = x.2 ∧ q_Kld C cc (.ldc x.1) (.int v) := n_mem0
theorem c_kL2 {C : qCx} {cc : ByteArray} {nL : Nat} {D : va_G} {tys : List (ClassId × FieldType)} (h : n_ctx C cc nL "BalanceCoder$Deal" D tys) : ∀ x ∈ t_kL2, ∃ v : Int64, v.toInt = x.2 ∧ q_Kld C cc (.ldc2_w x.1) (.long v) := n_mem0
theorem c_ob2 {C : qCx} {cc : ByteArray} {nL : Nat} {D : va_G} {tys : List (ClassId × FieldType)} (h : n_ctx C cc nL "BalanceCoder$Deal" D tys) (hR : 1 ≤ C.2.2.2.1.frames ∧ 20 ≤ C.2.2.2.1.locals) : ∀ x ∈ t_ob2, q_Kob C cc nL x := (n_mem2 (q_Kob_of h.2.1 h.2.2.1 h.2.2.2.1 (h.2.2.2.2.1 _ n_w170) (h.2.2.2.2.1 _ n_w23) (h.2.2.2.2.1 _ n_w24) hR) n_mem0)
theorem c_cp2 {C : qCx} {cc : ByteArray} {nL : Nat} {D : va_G} {tys : List (ClassId × FieldType)} (h : n_ctx C cc nL "BalanceCoder$Deal" D tys) : ∀ x ∈ t_cp2, q_Kcp C cc nL x := n_mem0
def t_fg3 : List (Nat × Nat × Nat) := []
def t_fp3 : List (Nat × Nat × Nat) := [(18, 3, 2), (22, 3, 3)]
def t_fi3 : List (Nat × Nat × Nat) := [(9, 3, 0), (15, 3, 1), (18, 3, 2), (22, 3, 3)]
def t_cn3 : List (Nat × Nat × Nat) := []
def t_na3 : List (Nat × Nat) := [(10, 0)]
def t_at3 : List (Nat × Nat) := []
def t_kI3 : List (Nat × Int) := []
def t_kL3 : List (Nat × Int) := []
def t_ob3 : List Nat := [3]
def t_cp3 : List Nat := []
theorem c_fg3 {C : qCx} {cc : ByteArray} {nL : Nat} {D : va_G} {tys : List (ClassId × FieldType)} (h : n_ctx C cc nL "BalanceCoder$Dealer" D tys) : ∀ x ∈ t_fg3, q_Fget C cc D x.1 x.2.1 x.2.2 := n_mem0
theorem c_fp3 {C : qCx} {cc : ByteArray} {nL : Nat} {D : va_G} {tys : List (ClassId × FieldType)} (h : n_ctx C cc nL "BalanceCoder$Dealer" D tys) : ∀ x ∈ t_fp3, ∃ ty, q_Fput C cc D x.1 x.2.1 x.2.2 ty ∧ q_ktf n_KT x.2.1 x.2.2 ty = true := (n_mem2 (⟨_, q_Fput_of h.2.1 h.2.2.2.1 h.2.2.2.2.1 h.2.2.2.2.2.1 (Cn := RX3) (Tt := TX3) (ty := tyX3 2) rfl (by decide) n_u3 (tyX3_ok _ (by decide)) rfl (h.2.2.2.2.1 _ n_w249), by decide +kernel⟩) (n_mem2 (⟨_, q_Fput_of h.2.1 h.2.2.2.1 h.2.2.2.2.1 h.2.2.2.2.2.1 (Cn := RX3) (Tt := TX3) (ty := tyX3 3) rfl (by decide) n_u3 (tyX3_ok _ (by decide)) rfl (h.2.2.2.2.1 _ n_w250), by decide +kernel⟩) n_mem0))
theorem c_fi3 {C : qCx} {cc : ByteArray} {nL : Nat} {D : va_G} {tys : List (ClassId × FieldType)} (h : n_ctx C cc nL "BalanceCoder$Dealer" D tys) (hin : C.2.2.2.2.2.2.2.2.1.name = "<init>") : ∀ x ∈ t_fi3, ∃ ty, q_Fput C cc D x.1 x.2.1 x.2.2 ty ∧ q_ktf n_KT x.2.1 x.2.2 ty = true := (n_mem2 (⟨_, q_FputF_of h.2.1 h.2.2.2.1 h.2.2.2.2.1 h.2.2.2.2.2.1 (Cn := RX3) (Tt := TX3) (ty := tyX3 0) rfl (by decide) n_u3 (tyX3_ok _ (by decide)) rfl hin rfl (h.2.2.2.2.1 _ n_w247), by decide +kernel⟩) (n_mem2 (⟨_, q_FputF_of h.2.1 h.2.2.2.1 h.2.2.2.2.1 h.2.2.2.2.2.1 (Cn := RX3) (Tt := TX3) (ty := tyX3 1) rfl (by decide) n_u3 (tyX3_ok _ (by decide)) rfl hin rfl (h.2.2.2.2.1 _ n_w248), by decide +kernel⟩) (n_mem2 (⟨_, q_Fput_of h.2.1 h.2.2.2.1 h.2.2.2.2.1 h.2.2.2.2.2.1 (Cn := RX3) (Tt := TX3) (ty := tyX3 2) rfl (by decide) n_u3 (tyX3_ok _ (by decide)) rfl (h.2.2.2.2.1 _ n_w249), by decide +kernel⟩) (n_mem2 (⟨_, q_Fput_of h.2.1 h.2.2.2.1 h.2.2.2.2.1 h.2.2.2.2.2.1 (Cn := RX3) (Tt := TX3) (ty := tyX3 3) rfl (by decide) n_u3 (tyX3_ok _ (by decide)) rfl (h.2.2.2.2.1 _ n_w250), by decide +kernel⟩) n_mem0))))
theorem c_cn3 {C : qCx} {cc : ByteArray} {nL : Nat} {D : va_G} {tys : List (ClassId × FieldType)} (h : n_ctx C cc nL "BalanceCoder$Dealer" D tys) : ∀ x ∈ t_cn3, ∃ tyf : Nat → FieldType, q_Fnew C cc D x.1 x.2.1 x.2.2 tyf ∧ ∀ f, f < x.2.2 → q_ktf n_KT x.2.1 f (tyf f) = true := n_mem0
theorem c_n13 {C : qCx} {cc : ByteArray} {nL : Nat} {D : va_G} {tys : List (ClassId × FieldType)} (h : n_ctx C cc nL "BalanceCoder$Dealer" D tys) : ∀ a t, (q_aky a, t) ∈ t_na3 → ∃ cA ty, tys[t]? = some (cA, ty) ∧ q_Fna C cc (.newarray a) cA ty := by
  intro a t hm
  cases a
  · exact absurd hm (by simp [t_na3, q_aky])
  · exact absurd hm (by simp [t_na3, q_aky])
  · exact absurd hm (by simp [t_na3, q_aky])
  · exact absurd hm (by simp [t_na3, q_aky])
  · exact absurd hm (by simp [t_na3, q_aky])
  · exact absurd hm (by simp [t_na3, q_aky])
  · have ht : t = 0 := by simpa [t_na3, q_aky] using hm
    subst ht
    obtain ⟨cA, hcA⟩ := n_ty h.1 0 rfl
    exact ⟨cA, _, hcA, q_Fna_of h.2.1 h.2.2.2.2.2.1 hcA (h.2.2.2.2.1 _ n_w81)⟩
  · exact absurd hm (by simp [t_na3, q_aky])
theorem c_n23 {C : qCx} {cc : ByteArray} {nL : Nat} {D : va_G} {tys : List (ClassId × FieldType)} (h : n_ctx C cc nL "BalanceCoder$Dealer" D tys) : ∀ i t, (100 + i, t) ∈ t_na3 → ∃ cA ty, tys[t]? = some (cA, ty) ∧ q_Fna C cc (.anewarray i) cA ty := by
  intro i t hm
  simp [t_na3] at hm
  try omega
theorem c_at3 {C : qCx} {cc : ByteArray} {nL : Nat} {D : va_G} {tys : List (ClassId × FieldType)} (h : n_ctx C cc nL "BalanceCoder$Dealer" D tys) : ∀ x ∈ t_at3, q_AR C.2.2.2.2.1 D tys x.1 x.2 := n_mem0
theorem c_kI3 {C : qCx} {cc : ByteArray} {nL : Nat} {D : va_G} {tys : List (ClassId × FieldType)} (h : n_ctx C cc nL "BalanceCoder$Dealer" D tys) : ∀ x ∈ t_kI3, ∃ v : Int32, v.toInt = x.2 ∧ q_Kld C cc (.ldc x.1) (.int v) := n_mem0
theorem c_kL3 {C : qCx} {cc : ByteArray} {nL : Nat} {D : va_G} {tys : List (ClassId × FieldType)} (h : n_ctx C cc nL "BalanceCoder$Dealer" D tys) : ∀ x ∈ t_kL3, ∃ v : Int64, v.toInt = x.2 ∧ q_Kld C cc (.ldc2_w x.1) (.long v) := n_mem0
theorem c_ob3 {C : qCx} {cc : ByteArray} {nL : Nat} {D : va_G} {tys : List (ClassId × FieldType)} (h : n_ctx C cc nL "BalanceCoder$Dealer" D tys) (hR : 1 ≤ C.2.2.2.1.frames ∧ 20 ≤ C.2.2.2.1.locals) : ∀ x ∈ t_ob3, q_Kob C cc nL x := (n_mem2 (q_Kob_of h.2.1 h.2.2.1 h.2.2.2.1 (h.2.2.2.2.1 _ n_w246) (h.2.2.2.2.1 _ n_w23) (h.2.2.2.2.1 _ n_w24) hR) n_mem0)
theorem c_cp3 {C : qCx} {cc : ByteArray} {nL : Nat} {D : va_G} {tys : List (ClassId × FieldType)} (h : n_ctx C cc nL "BalanceCoder$Dealer" D tys) : ∀ x ∈ t_cp3, q_Kcp C cc nL x := n_mem0
def t_fg4 : List (Nat × Nat × Nat) := []
def t_fp4 : List (Nat × Nat × Nat) := [(18, 4, 1)]
def t_fi4 : List (Nat × Nat × Nat) := [(12, 4, 0), (18, 4, 1)]
def t_cn4 : List (Nat × Nat × Nat) := [(9, 2, 1)]
def t_na4 : List (Nat × Nat) := []
def t_at4 : List (Nat × Nat) := []
def t_kI4 : List (Nat × Int) := []
def t_kL4 : List (Nat × Int) := []
def t_ob4 : List Nat := [3]
def t_cp4 : List Nat := []
theorem c_fg4 {C : qCx} {cc : ByteArray} {nL : Nat} {D : va_G} {tys : List (ClassId × FieldType)} (h : n_ctx C cc nL "BalanceCoder$Guide" D tys) : ∀ x ∈ t_fg4, q_Fget C cc D x.1 x.2.1 x.2.2 := n_mem0
theorem c_fp4 {C : qCx} {cc : ByteArray} {nL : Nat} {D : va_G} {tys : List (ClassId × FieldType)} (h : n_ctx C cc nL "BalanceCoder$Guide" D tys) : ∀ x ∈ t_fp4, ∃ ty, q_Fput C cc D x.1 x.2.1 x.2.2 ty ∧ q_ktf n_KT x.2.1 x.2.2 ty = true := (n_mem2 (⟨_, q_Fput_of h.2.1 h.2.2.2.1 h.2.2.2.2.1 h.2.2.2.2.2.1 (Cn := RX4) (Tt := TX4) (ty := tyX4 1) rfl (by decide) n_u4 (tyX4_ok _ (by decide)) rfl (h.2.2.2.2.1 _ n_w206), by decide +kernel⟩) n_mem0)
theorem c_fi4 {C : qCx} {cc : ByteArray} {nL : Nat} {D : va_G} {tys : List (ClassId × FieldType)} (h : n_ctx C cc nL "BalanceCoder$Guide" D tys) (hin : C.2.2.2.2.2.2.2.2.1.name = "<init>") : ∀ x ∈ t_fi4, ∃ ty, q_Fput C cc D x.1 x.2.1 x.2.2 ty ∧ q_ktf n_KT x.2.1 x.2.2 ty = true := (n_mem2 (⟨_, q_FputF_of h.2.1 h.2.2.2.1 h.2.2.2.2.1 h.2.2.2.2.2.1 (Cn := RX4) (Tt := TX4) (ty := tyX4 0) rfl (by decide) n_u4 (tyX4_ok _ (by decide)) rfl hin rfl (h.2.2.2.2.1 _ n_w205), by decide +kernel⟩) (n_mem2 (⟨_, q_Fput_of h.2.1 h.2.2.2.1 h.2.2.2.2.1 h.2.2.2.2.2.1 (Cn := RX4) (Tt := TX4) (ty := tyX4 1) rfl (by decide) n_u4 (tyX4_ok _ (by decide)) rfl (h.2.2.2.2.1 _ n_w206), by decide +kernel⟩) n_mem0))
theorem c_cn4 {C : qCx} {cc : ByteArray} {nL : Nat} {D : va_G} {tys : List (ClassId × FieldType)} (h : n_ctx C cc nL "BalanceCoder$Guide" D tys) : ∀ x ∈ t_cn4, ∃ tyf : Nat → FieldType, q_Fnew C cc D x.1 x.2.1 x.2.2 tyf ∧ ∀ f, f < x.2.2 → q_ktf n_KT x.2.1 f (tyf f) = true := (n_mem2 (⟨tyX2, q_Fnew_of h.2.1 h.2.2.2.1 h.2.2.2.2.1 h.2.2.2.2.2.1 (Cn := RX2) (Tt := TX2) rfl n_u2 tyX2_ok (h.2.2.2.2.1 _ n_w203) (h.2.2.2.2.1 _ n_w166) (h.2.2.2.2.1 _ n_w8), by decide +kernel⟩) n_mem0)
theorem c_n14 {C : qCx} {cc : ByteArray} {nL : Nat} {D : va_G} {tys : List (ClassId × FieldType)} (h : n_ctx C cc nL "BalanceCoder$Guide" D tys) : ∀ a t, (q_aky a, t) ∈ t_na4 → ∃ cA ty, tys[t]? = some (cA, ty) ∧ q_Fna C cc (.newarray a) cA ty := by
  intro a t hm
  cases a
  · exact absurd hm (by simp [t_na4, q_aky])
  · exact absurd hm (by simp [t_na4, q_aky])
  · exact absurd hm (by simp [t_na4, q_aky])
  · exact absurd hm (by simp [t_na4, q_aky])
  · exact absurd hm (by simp [t_na4, q_aky])
  · exact absurd hm (by simp [t_na4, q_aky])
  · exact absurd hm (by simp [t_na4, q_aky])
  · exact absurd hm (by simp [t_na4, q_aky])
theorem c_n24 {C : qCx} {cc : ByteArray} {nL : Nat} {D : va_G} {tys : List (ClassId × FieldType)} (h : n_ctx C cc nL "BalanceCoder$Guide" D tys) : ∀ i t, (100 + i, t) ∈ t_na4 → ∃ cA ty, tys[t]? = some (cA, ty) ∧ q_Fna C cc (.anewarray i) cA ty := by
  intro i t hm
  simp [t_na4] at hm
  try omega
theorem c_at4 {C : qCx} {cc : ByteArray} {nL : Nat} {D : va_G} {tys : List (ClassId × FieldType)} (h : n_ctx C cc nL "BalanceCoder$Guide" D tys) : ∀ x ∈ t_at4, q_AR C.2.2.2.2.1 D tys x.1 x.2 := n_mem0
theorem c_kI4 {C : qCx} {cc : ByteArray} {nL : Nat} {D : va_G} {tys : List (ClassId × FieldType)} (h : n_ctx C cc nL "BalanceCoder$Guide" D tys) : ∀ x ∈ t_kI4, ∃ v : Int32, v.toInt = x.2 ∧ q_Kld C cc (.ldc x.1) (.int v) := n_mem0
theorem c_kL4 {C : qCx} {cc : ByteArray} {nL : Nat} {D : va_G} {tys : List (ClassId × FieldType)} (h : n_ctx C cc nL "BalanceCoder$Guide" D tys) : ∀ x ∈ t_kL4, ∃ v : Int64, v.toInt = x.2 ∧ q_Kld C cc (.ldc2_w x.1) (.long v) := n_mem0
theorem c_ob4 {C : qCx} {cc : ByteArray} {nL : Nat} {D : va_G} {tys : List (ClassId × FieldType)} (h : n_ctx C cc nL "BalanceCoder$Guide" D tys) (hR : 1 ≤ C.2.2.2.1.frames ∧ 20 ≤ C.2.2.2.1.locals) : ∀ x ∈ t_ob4, q_Kob C cc nL x := (n_mem2 (q_Kob_of h.2.1 h.2.2.1 h.2.2.2.1 (h.2.2.2.2.1 _ n_w202) (h.2.2.2.2.1 _ n_w23) (h.2.2.2.2.1 _ n_w24) hR) n_mem0)
theorem c_cp4 {C : qCx} {cc : ByteArray} {nL : Nat} {D : va_G} {tys : List (ClassId × FieldType)} (h : n_ctx C cc nL "BalanceCoder$Guide" D tys) : ∀ x ∈ t_cp4, q_Kcp C cc nL x := n_mem0
def t_fg5 : List (Nat × Nat × Nat) := [(9, 5, 0), (15, 5, 1), (58, 1, 1)]
def t_fp5 : List (Nat × Nat × Nat) := [(9, 5, 0), (15, 5, 1)]
def t_fi5 : List (Nat × Nat × Nat) := [(9, 5, 0), (15, 5, 1)]
def t_cn5 : List (Nat × Nat × Nat) := []
def t_na5 : List (Nat × Nat) := []
def t_at5 : List (Nat × Nat) := []
def t_kI5 : List (Nat × Int) := []
def t_kL5 : List (Nat × Int) := []
def t_ob5 : List Nat := [3]
def t_cp5 : List Nat := []
theorem c_fg5 {C : qCx} {cc : ByteArray} {nL : Nat} {D : va_G} {tys : List (ClassId × FieldType)} (h : n_ctx C cc nL "BalanceCoder$Reader" D tys) : ∀ x ∈ t_fg5, q_Fget C cc D x.1 x.2.1 x.2.2 := (n_mem2 (q_Fget_of h.2.1 h.2.2.2.1 h.2.2.2.2.1 h.2.2.2.2.2.1 (Cn := RX5) (Tt := TX5) rfl (by decide) n_u5 (h.2.2.2.2.1 _ n_w266)) (n_mem2 (q_Fget_of h.2.1 h.2.2.2.1 h.2.2.2.2.1 h.2.2.2.2.2.1 (Cn := RX5) (Tt := TX5) rfl (by decide) n_u5 (h.2.2.2.2.1 _ n_w267)) (n_mem2 (q_FgetN_of h.2.1 h.2.2.2.1 h.2.2.2.2.1 h.2.2.2.2.2.1 (Cn := RX1) (Tt := TX1) rfl (by decide) n_u1 (va_Nw.use rfl (h.2.2.2.2.2.2 _ (List.mem_of_getElem? (i := 0) rfl)))) n_mem0)))
theorem c_fp5 {C : qCx} {cc : ByteArray} {nL : Nat} {D : va_G} {tys : List (ClassId × FieldType)} (h : n_ctx C cc nL "BalanceCoder$Reader" D tys) : ∀ x ∈ t_fp5, ∃ ty, q_Fput C cc D x.1 x.2.1 x.2.2 ty ∧ q_ktf n_KT x.2.1 x.2.2 ty = true := (n_mem2 (⟨_, q_Fput_of h.2.1 h.2.2.2.1 h.2.2.2.2.1 h.2.2.2.2.2.1 (Cn := RX5) (Tt := TX5) (ty := tyX5 0) rfl (by decide) n_u5 (tyX5_ok _ (by decide)) rfl (h.2.2.2.2.1 _ n_w266), by decide +kernel⟩) (n_mem2 (⟨_, q_Fput_of h.2.1 h.2.2.2.1 h.2.2.2.2.1 h.2.2.2.2.2.1 (Cn := RX5) (Tt := TX5) (ty := tyX5 1) rfl (by decide) n_u5 (tyX5_ok _ (by decide)) rfl (h.2.2.2.2.1 _ n_w267), by decide +kernel⟩) n_mem0))
theorem c_fi5 {C : qCx} {cc : ByteArray} {nL : Nat} {D : va_G} {tys : List (ClassId × FieldType)} (h : n_ctx C cc nL "BalanceCoder$Reader" D tys) (hin : C.2.2.2.2.2.2.2.2.1.name = "<init>") : ∀ x ∈ t_fi5, ∃ ty, q_Fput C cc D x.1 x.2.1 x.2.2 ty ∧ q_ktf n_KT x.2.1 x.2.2 ty = true := (n_mem2 (⟨_, q_Fput_of h.2.1 h.2.2.2.1 h.2.2.2.2.1 h.2.2.2.2.2.1 (Cn := RX5) (Tt := TX5) (ty := tyX5 0) rfl (by decide) n_u5 (tyX5_ok _ (by decide)) rfl (h.2.2.2.2.1 _ n_w266), by decide +kernel⟩) (n_mem2 (⟨_, q_Fput_of h.2.1 h.2.2.2.1 h.2.2.2.2.1 h.2.2.2.2.2.1 (Cn := RX5) (Tt := TX5) (ty := tyX5 1) rfl (by decide) n_u5 (tyX5_ok _ (by decide)) rfl (h.2.2.2.2.1 _ n_w267), by decide +kernel⟩) n_mem0))
theorem c_cn5 {C : qCx} {cc : ByteArray} {nL : Nat} {D : va_G} {tys : List (ClassId × FieldType)} (h : n_ctx C cc nL "BalanceCoder$Reader" D tys) : ∀ x ∈ t_cn5, ∃ tyf : Nat → FieldType, q_Fnew C cc D x.1 x.2.1 x.2.2 tyf ∧ ∀ f, f < x.2.2 → q_ktf n_KT x.2.1 f (tyf f) = true := n_mem0
theorem c_n15 {C : qCx} {cc : ByteArray} {nL : Nat} {D : va_G} {tys : List (ClassId × FieldType)} (h : n_ctx C cc nL "BalanceCoder$Reader" D tys) : ∀ a t, (q_aky a, t) ∈ t_na5 → ∃ cA ty, tys[t]? = some (cA, ty) ∧ q_Fna C cc (.newarray a) cA ty := by
  intro a t hm
  cases a
  · exact absurd hm (by simp [t_na5, q_aky])
  · exact absurd hm (by simp [t_na5, q_aky])
  · exact absurd hm (by simp [t_na5, q_aky])
  · exact absurd hm (by simp [t_na5, q_aky])
  · exact absurd hm (by simp [t_na5, q_aky])
  · exact absurd hm (by simp [t_na5, q_aky])
  · exact absurd hm (by simp [t_na5, q_aky])
  · exact absurd hm (by simp [t_na5, q_aky])
theorem c_n25 {C : qCx} {cc : ByteArray} {nL : Nat} {D : va_G} {tys : List (ClassId × FieldType)} (h : n_ctx C cc nL "BalanceCoder$Reader" D tys) : ∀ i t, (100 + i, t) ∈ t_na5 → ∃ cA ty, tys[t]? = some (cA, ty) ∧ q_Fna C cc (.anewarray i) cA ty := by
  intro i t hm
  simp [t_na5] at hm
  try omega
theorem c_at5 {C : qCx} {cc : ByteArray} {nL : Nat} {D : va_G} {tys : List (ClassId × FieldType)} (h : n_ctx C cc nL "BalanceCoder$Reader" D tys) : ∀ x ∈ t_at5, q_AR C.2.2.2.2.1 D tys x.1 x.2 := n_mem0
theorem c_kI5 {C : qCx} {cc : ByteArray} {nL : Nat} {D : va_G} {tys : List (ClassId × FieldType)} (h : n_ctx C cc nL "BalanceCoder$Reader" D tys) : ∀ x ∈ t_kI5, ∃ v : Int32, v.toInt = x.2 ∧ q_Kld C cc (.ldc x.1) (.int v) := n_mem0
theorem c_kL5 {C : qCx} {cc : ByteArray} {nL : Nat} {D : va_G} {tys : List (ClassId × FieldType)} (h : n_ctx C cc nL "BalanceCoder$Reader" D tys) : ∀ x ∈ t_kL5, ∃ v : Int64, v.toInt = x.2 ∧ q_Kld C cc (.ldc2_w x.1) (.long v) := n_mem0
theorem c_ob5 {C : qCx} {cc : ByteArray} {nL : Nat} {D : va_G} {tys : List (ClassId × FieldType)} (h : n_ctx C cc nL "BalanceCoder$Reader" D tys) (hR : 1 ≤ C.2.2.2.1.frames ∧ 20 ≤ C.2.2.2.1.locals) : ∀ x ∈ t_ob5, q_Kob C cc nL x := (n_mem2 (q_Kob_of h.2.1 h.2.2.1 h.2.2.2.1 (h.2.2.2.2.1 _ n_w265) (h.2.2.2.2.1 _ n_w23) (h.2.2.2.2.1 _ n_w24) hR) n_mem0)
theorem c_cp5 {C : qCx} {cc : ByteArray} {nL : Nat} {D : va_G} {tys : List (ClassId × FieldType)} (h : n_ctx C cc nL "BalanceCoder$Reader" D tys) : ∀ x ∈ t_cp5, q_Kcp C cc nL x := n_mem0
def t_fg6 : List (Nat × Nat × Nat) := [(9, 6, 0), (15, 6, 1)]
def t_fp6 : List (Nat × Nat × Nat) := [(15, 6, 1)]
def t_fi6 : List (Nat × Nat × Nat) := [(9, 6, 0), (15, 6, 1)]
def t_cn6 : List (Nat × Nat × Nat) := []
def t_na6 : List (Nat × Nat) := [(10, 0)]
def t_at6 : List (Nat × Nat) := []
def t_kI6 : List (Nat × Int) := []
def t_kL6 : List (Nat × Int) := []
def t_ob6 : List Nat := [3]
def t_cp6 : List Nat := [19]
theorem c_fg6 {C : qCx} {cc : ByteArray} {nL : Nat} {D : va_G} {tys : List (ClassId × FieldType)} (h : n_ctx C cc nL "BalanceCoder$Row" D tys) : ∀ x ∈ t_fg6, q_Fget C cc D x.1 x.2.1 x.2.2 := (n_mem2 (q_Fget_of h.2.1 h.2.2.2.1 h.2.2.2.2.1 h.2.2.2.2.2.1 (Cn := RX6) (Tt := TX6) rfl (by decide) n_u6 (h.2.2.2.2.1 _ n_w112)) (n_mem2 (q_Fget_of h.2.1 h.2.2.2.1 h.2.2.2.2.1 h.2.2.2.2.2.1 (Cn := RX6) (Tt := TX6) rfl (by decide) n_u6 (h.2.2.2.2.1 _ n_w117)) n_mem0))
theorem c_fp6 {C : qCx} {cc : ByteArray} {nL : Nat} {D : va_G} {tys : List (ClassId × FieldType)} (h : n_ctx C cc nL "BalanceCoder$Row" D tys) : ∀ x ∈ t_fp6, ∃ ty, q_Fput C cc D x.1 x.2.1 x.2.2 ty ∧ q_ktf n_KT x.2.1 x.2.2 ty = true := (n_mem2 (⟨_, q_Fput_of h.2.1 h.2.2.2.1 h.2.2.2.2.1 h.2.2.2.2.2.1 (Cn := RX6) (Tt := TX6) (ty := tyX6 1) rfl (by decide) n_u6 (tyX6_ok _ (by decide)) rfl (h.2.2.2.2.1 _ n_w117), by decide +kernel⟩) n_mem0)
theorem c_fi6 {C : qCx} {cc : ByteArray} {nL : Nat} {D : va_G} {tys : List (ClassId × FieldType)} (h : n_ctx C cc nL "BalanceCoder$Row" D tys) (hin : C.2.2.2.2.2.2.2.2.1.name = "<init>") : ∀ x ∈ t_fi6, ∃ ty, q_Fput C cc D x.1 x.2.1 x.2.2 ty ∧ q_ktf n_KT x.2.1 x.2.2 ty = true := (n_mem2 (⟨_, q_FputF_of h.2.1 h.2.2.2.1 h.2.2.2.2.1 h.2.2.2.2.2.1 (Cn := RX6) (Tt := TX6) (ty := tyX6 0) rfl (by decide) n_u6 (tyX6_ok _ (by decide)) rfl hin rfl (h.2.2.2.2.1 _ n_w112), by decide +kernel⟩) (n_mem2 (⟨_, q_Fput_of h.2.1 h.2.2.2.1 h.2.2.2.2.1 h.2.2.2.2.2.1 (Cn := RX6) (Tt := TX6) (ty := tyX6 1) rfl (by decide) n_u6 (tyX6_ok _ (by decide)) rfl (h.2.2.2.2.1 _ n_w117), by decide +kernel⟩) n_mem0))
theorem c_cn6 {C : qCx} {cc : ByteArray} {nL : Nat} {D : va_G} {tys : List (ClassId × FieldType)} (h : n_ctx C cc nL "BalanceCoder$Row" D tys) : ∀ x ∈ t_cn6, ∃ tyf : Nat → FieldType, q_Fnew C cc D x.1 x.2.1 x.2.2 tyf ∧ ∀ f, f < x.2.2 → q_ktf n_KT x.2.1 f (tyf f) = true := n_mem0
theorem c_n16 {C : qCx} {cc : ByteArray} {nL : Nat} {D : va_G} {tys : List (ClassId × FieldType)} (h : n_ctx C cc nL "BalanceCoder$Row" D tys) : ∀ a t, (q_aky a, t) ∈ t_na6 → ∃ cA ty, tys[t]? = some (cA, ty) ∧ q_Fna C cc (.newarray a) cA ty := by
  intro a t hm
  cases a
  · exact absurd hm (by simp [t_na6, q_aky])
  · exact absurd hm (by simp [t_na6, q_aky])
  · exact absurd hm (by simp [t_na6, q_aky])
  · exact absurd hm (by simp [t_na6, q_aky])
  · exact absurd hm (by simp [t_na6, q_aky])
  · exact absurd hm (by simp [t_na6, q_aky])
  · have ht : t = 0 := by simpa [t_na6, q_aky] using hm
    subst ht
    obtain ⟨cA, hcA⟩ := n_ty h.1 0 rfl
    exact ⟨cA, _, hcA, q_Fna_of h.2.1 h.2.2.2.2.2.1 hcA (h.2.2.2.2.1 _ n_w81)⟩
  · exact absurd hm (by simp [t_na6, q_aky])
theorem c_n26 {C : qCx} {cc : ByteArray} {nL : Nat} {D : va_G} {tys : List (ClassId × FieldType)} (h : n_ctx C cc nL "BalanceCoder$Row" D tys) : ∀ i t, (100 + i, t) ∈ t_na6 → ∃ cA ty, tys[t]? = some (cA, ty) ∧ q_Fna C cc (.anewarray i) cA ty := by
  intro i t hm
  simp [t_na6] at hm
  try omega
theorem c_at6 {C : qCx} {cc : ByteArray} {nL : Nat} {D : va_G} {tys : List (ClassId × FieldType)} (h : n_ctx C cc nL "BalanceCoder$Row" D tys) : ∀ x ∈ t_at6, q_AR C.2.2.2.2.1 D tys x.1 x.2 := n_mem0
theorem c_kI6 {C : qCx} {cc : ByteArray} {nL : Nat} {D : va_G} {tys : List (ClassId × FieldType)} (h : n_ctx C cc nL "BalanceCoder$Row" D tys) : ∀ x ∈ t_kI6, ∃ v : Int32, v.toInt = x.2 ∧ q_Kld C cc (.ldc x.1) (.int v) := n_mem0
theorem c_kL6 {C : qCx} {cc : ByteArray} {nL : Nat} {D : va_G} {tys : List (ClassId × FieldType)} (h : n_ctx C cc nL "BalanceCoder$Row" D tys) : ∀ x ∈ t_kL6, ∃ v : Int64, v.toInt = x.2 ∧ q_Kld C cc (.ldc2_w x.1) (.long v) := n_mem0
theorem c_ob6 {C : qCx} {cc : ByteArray} {nL : Nat} {D : va_G} {tys : List (ClassId × FieldType)} (h : n_ctx C cc nL "BalanceCoder$Row" D tys) (hR : 1 ≤ C.2.2.2.1.frames ∧ 20 ≤ C.2.2.2.1.locals) : ∀ x ∈ t_ob6, q_Kob C cc nL x := (n_mem2 (q_Kob_of h.2.1 h.2.2.1 h.2.2.2.1 (h.2.2.2.2.1 _ n_w111) (h.2.2.2.2.1 _ n_w23) (h.2.2.2.2.1 _ n_w24) hR) n_mem0)
theorem c_cp6 {C : qCx} {cc : ByteArray} {nL : Nat} {D : va_G} {tys : List (ClassId × FieldType)} (h : n_ctx C cc nL "BalanceCoder$Row" D tys) (hR : 1 ≤ C.2.2.2.1.frames ∧ 8 + (nativeFrameWords "java/lang/System" "arraycopy" 5 + 11) ≤ C.2.2.2.1.locals) : ∀ x ∈ t_cp6, q_Kcp C cc nL x := (n_mem2 (q_Kcp_of h.2.1 h.2.2.1 h.2.2.2.1 (h.2.2.2.2.1 _ n_w659) (h.2.2.2.2.1 _ n_w592) (h.2.2.2.2.1 _ n_w591) (h.2.2.2.2.1 _ n_w16) hR) n_mem0)
def t_fg7 : List (Nat × Nat × Nat) := [(9, 7, 0), (15, 7, 1), (18, 7, 2), (21, 7, 3), (24, 7, 4), (27, 7, 5)]
def t_fp7 : List (Nat × Nat × Nat) := [(27, 7, 5)]
def t_fi7 : List (Nat × Nat × Nat) := [(9, 7, 0), (15, 7, 1), (18, 7, 2), (21, 7, 3), (24, 7, 4), (27, 7, 5)]
def t_cn7 : List (Nat × Nat × Nat) := []
def t_na7 : List (Nat × Nat) := [(10, 0)]
def t_at7 : List (Nat × Nat) := []
def t_kI7 : List (Nat × Int) := []
def t_kL7 : List (Nat × Int) := []
def t_ob7 : List Nat := [3]
def t_cp7 : List Nat := [31]
theorem c_fg7 {C : qCx} {cc : ByteArray} {nL : Nat} {D : va_G} {tys : List (ClassId × FieldType)} (h : n_ctx C cc nL "BalanceCoder$Steps" D tys) : ∀ x ∈ t_fg7, q_Fget C cc D x.1 x.2.1 x.2.2 := (n_mem2 (q_Fget_of h.2.1 h.2.2.2.1 h.2.2.2.2.1 h.2.2.2.2.2.1 (Cn := RX7) (Tt := TX7) rfl (by decide) n_u7 (h.2.2.2.2.1 _ n_w47)) (n_mem2 (q_Fget_of h.2.1 h.2.2.2.1 h.2.2.2.2.1 h.2.2.2.2.2.1 (Cn := RX7) (Tt := TX7) rfl (by decide) n_u7 (h.2.2.2.2.1 _ n_w51)) (n_mem2 (q_Fget_of h.2.1 h.2.2.2.1 h.2.2.2.2.1 h.2.2.2.2.2.1 (Cn := RX7) (Tt := TX7) rfl (by decide) n_u7 (h.2.2.2.2.1 _ n_w54)) (n_mem2 (q_Fget_of h.2.1 h.2.2.2.1 h.2.2.2.2.1 h.2.2.2.2.2.1 (Cn := RX7) (Tt := TX7) rfl (by decide) n_u7 (h.2.2.2.2.1 _ n_w57)) (n_mem2 (q_Fget_of h.2.1 h.2.2.2.1 h.2.2.2.2.1 h.2.2.2.2.2.1 (Cn := RX7) (Tt := TX7) rfl (by decide) n_u7 (h.2.2.2.2.1 _ n_w60)) (n_mem2 (q_Fget_of h.2.1 h.2.2.2.1 h.2.2.2.2.1 h.2.2.2.2.2.1 (Cn := RX7) (Tt := TX7) rfl (by decide) n_u7 (h.2.2.2.2.1 _ n_w63)) n_mem0))))))
theorem c_fp7 {C : qCx} {cc : ByteArray} {nL : Nat} {D : va_G} {tys : List (ClassId × FieldType)} (h : n_ctx C cc nL "BalanceCoder$Steps" D tys) : ∀ x ∈ t_fp7, ∃ ty, q_Fput C cc D x.1 x.2.1 x.2.2 ty ∧ q_ktf n_KT x.2.1 x.2.2 ty = true := (n_mem2 (⟨_, q_Fput_of h.2.1 h.2.2.2.1 h.2.2.2.2.1 h.2.2.2.2.2.1 (Cn := RX7) (Tt := TX7) (ty := tyX7 5) rfl (by decide) n_u7 (tyX7_ok _ (by decide)) rfl (h.2.2.2.2.1 _ n_w63), by decide +kernel⟩) n_mem0)
theorem c_fi7 {C : qCx} {cc : ByteArray} {nL : Nat} {D : va_G} {tys : List (ClassId × FieldType)} (h : n_ctx C cc nL "BalanceCoder$Steps" D tys) (hin : C.2.2.2.2.2.2.2.2.1.name = "<init>") : ∀ x ∈ t_fi7, ∃ ty, q_Fput C cc D x.1 x.2.1 x.2.2 ty ∧ q_ktf n_KT x.2.1 x.2.2 ty = true := (n_mem2 (⟨_, q_FputF_of h.2.1 h.2.2.2.1 h.2.2.2.2.1 h.2.2.2.2.2.1 (Cn := RX7) (Tt := TX7) (ty := tyX7 0) rfl (by decide) n_u7 (tyX7_ok _ (by decide)) rfl hin rfl (h.2.2.2.2.1 _ n_w47), by decide +kernel⟩) (n_mem2 (⟨_, q_FputF_of h.2.1 h.2.2.2.1 h.2.2.2.2.1 h.2.2.2.2.2.1 (Cn := RX7) (Tt := TX7) (ty := tyX7 1) rfl (by decide) n_u7 (tyX7_ok _ (by decide)) rfl hin rfl (h.2.2.2.2.1 _ n_w51), by decide +kernel⟩) (n_mem2 (⟨_, q_FputF_of h.2.1 h.2.2.2.1 h.2.2.2.2.1 h.2.2.2.2.2.1 (Cn := RX7) (Tt := TX7) (ty := tyX7 2) rfl (by decide) n_u7 (tyX7_ok _ (by decide)) rfl hin rfl (h.2.2.2.2.1 _ n_w54), by decide +kernel⟩) (n_mem2 (⟨_, q_FputF_of h.2.1 h.2.2.2.1 h.2.2.2.2.1 h.2.2.2.2.2.1 (Cn := RX7) (Tt := TX7) (ty := tyX7 3) rfl (by decide) n_u7 (tyX7_ok _ (by decide)) rfl hin rfl (h.2.2.2.2.1 _ n_w57), by decide +kernel⟩) (n_mem2 (⟨_, q_FputF_of h.2.1 h.2.2.2.1 h.2.2.2.2.1 h.2.2.2.2.2.1 (Cn := RX7) (Tt := TX7) (ty := tyX7 4) rfl (by decide) n_u7 (tyX7_ok _ (by decide)) rfl hin rfl (h.2.2.2.2.1 _ n_w60), by decide +kernel⟩) (n_mem2 (⟨_, q_Fput_of h.2.1 h.2.2.2.1 h.2.2.2.2.1 h.2.2.2.2.2.1 (Cn := RX7) (Tt := TX7) (ty := tyX7 5) rfl (by decide) n_u7 (tyX7_ok _ (by decide)) rfl (h.2.2.2.2.1 _ n_w63), by decide +kernel⟩) n_mem0))))))
theorem c_cn7 {C : qCx} {cc : ByteArray} {nL : Nat} {D : va_G} {tys : List (ClassId × FieldType)} (h : n_ctx C cc nL "BalanceCoder$Steps" D tys) : ∀ x ∈ t_cn7, ∃ tyf : Nat → FieldType, q_Fnew C cc D x.1 x.2.1 x.2.2 tyf ∧ ∀ f, f < x.2.2 → q_ktf n_KT x.2.1 f (tyf f) = true := n_mem0
theorem c_n17 {C : qCx} {cc : ByteArray} {nL : Nat} {D : va_G} {tys : List (ClassId × FieldType)} (h : n_ctx C cc nL "BalanceCoder$Steps" D tys) : ∀ a t, (q_aky a, t) ∈ t_na7 → ∃ cA ty, tys[t]? = some (cA, ty) ∧ q_Fna C cc (.newarray a) cA ty := by
  intro a t hm
  cases a
  · exact absurd hm (by simp [t_na7, q_aky])
  · exact absurd hm (by simp [t_na7, q_aky])
  · exact absurd hm (by simp [t_na7, q_aky])
  · exact absurd hm (by simp [t_na7, q_aky])
  · exact absurd hm (by simp [t_na7, q_aky])
  · exact absurd hm (by simp [t_na7, q_aky])
  · have ht : t = 0 := by simpa [t_na7, q_aky] using hm
    subst ht
    obtain ⟨cA, hcA⟩ := n_ty h.1 0 rfl
    exact ⟨cA, _, hcA, q_Fna_of h.2.1 h.2.2.2.2.2.1 hcA (h.2.2.2.2.1 _ n_w81)⟩
  · exact absurd hm (by simp [t_na7, q_aky])
theorem c_n27 {C : qCx} {cc : ByteArray} {nL : Nat} {D : va_G} {tys : List (ClassId × FieldType)} (h : n_ctx C cc nL "BalanceCoder$Steps" D tys) : ∀ i t, (100 + i, t) ∈ t_na7 → ∃ cA ty, tys[t]? = some (cA, ty) ∧ q_Fna C cc (.anewarray i) cA ty := by
  intro i t hm
  simp [t_na7] at hm
  try omega
theorem c_at7 {C : qCx} {cc : ByteArray} {nL : Nat} {D : va_G} {tys : List (ClassId × FieldType)} (h : n_ctx C cc nL "BalanceCoder$Steps" D tys) : ∀ x ∈ t_at7, q_AR C.2.2.2.2.1 D tys x.1 x.2 := n_mem0
theorem c_kI7 {C : qCx} {cc : ByteArray} {nL : Nat} {D : va_G} {tys : List (ClassId × FieldType)} (h : n_ctx C cc nL "BalanceCoder$Steps" D tys) : ∀ x ∈ t_kI7, ∃ v : Int32, v.toInt = x.2 ∧ q_Kld C cc (.ldc x.1) (.int v) := n_mem0
theorem c_kL7 {C : qCx} {cc : ByteArray} {nL : Nat} {D : va_G} {tys : List (ClassId × FieldType)} (h : n_ctx C cc nL "BalanceCoder$Steps" D tys) : ∀ x ∈ t_kL7, ∃ v : Int64, v.toInt = x.2 ∧ q_Kld C cc (.ldc2_w x.1) (.long v) := n_mem0
theorem c_ob7 {C : qCx} {cc : ByteArray} {nL : Nat} {D : va_G} {tys : List (ClassId × FieldType)} (h : n_ctx C cc nL "BalanceCoder$Steps" D tys) (hR : 1 ≤ C.2.2.2.1.frames ∧ 20 ≤ C.2.2.2.1.locals) : ∀ x ∈ t_ob7, q_Kob C cc nL x := (n_mem2 (q_Kob_of h.2.1 h.2.2.1 h.2.2.2.1 (h.2.2.2.2.1 _ n_w46) (h.2.2.2.2.1 _ n_w23) (h.2.2.2.2.1 _ n_w24) hR) n_mem0)
theorem c_cp7 {C : qCx} {cc : ByteArray} {nL : Nat} {D : va_G} {tys : List (ClassId × FieldType)} (h : n_ctx C cc nL "BalanceCoder$Steps" D tys) (hR : 1 ≤ C.2.2.2.1.frames ∧ 8 + (nativeFrameWords "java/lang/System" "arraycopy" 5 + 11) ≤ C.2.2.2.1.locals) : ∀ x ∈ t_cp7, q_Kcp C cc nL x := (n_mem2 (q_Kcp_of h.2.1 h.2.2.1 h.2.2.2.1 (h.2.2.2.2.1 _ n_w590) (h.2.2.2.2.1 _ n_w592) (h.2.2.2.2.1 _ n_w591) (h.2.2.2.2.1 _ n_w16) hR) n_mem0)
def t_fg8 : List (Nat × Nat × Nat) := [(11, 8, 0), (17, 8, 1), (21, 8, 2)]
def t_fp8 : List (Nat × Nat × Nat) := [(17, 8, 1), (21, 8, 2)]
def t_fi8 : List (Nat × Nat × Nat) := [(11, 8, 0), (17, 8, 1), (21, 8, 2)]
def t_cn8 : List (Nat × Nat × Nat) := [(9, 2, 1)]
def t_na8 : List (Nat × Nat) := [(109, 4)]
def t_at8 : List (Nat × Nat) := [(4, 2)]
def t_kI8 : List (Nat × Int) := []
def t_kL8 : List (Nat × Int) := []
def t_ob8 : List Nat := [3]
def t_cp8 : List Nat := []
theorem c_fg8 {C : qCx} {cc : ByteArray} {nL : Nat} {D : va_G} {tys : List (ClassId × FieldType)} (h : n_ctx C cc nL "BalanceCoder$Table" D tys) : ∀ x ∈ t_fg8, q_Fget C cc D x.1 x.2.1 x.2.2 := (n_mem2 (q_Fget_of h.2.1 h.2.2.2.1 h.2.2.2.2.1 h.2.2.2.2.2.1 (Cn := RX8) (Tt := TX8) rfl (by decide) n_u8 (h.2.2.2.2.1 _ n_w177)) (n_mem2 (q_Fget_of h.2.1 h.2.2.2.1 h.2.2.2.2.1 h.2.2.2.2.2.1 (Cn := RX8) (Tt := TX8) rfl (by decide) n_u8 (h.2.2.2.2.1 _ n_w183)) (n_mem2 (q_Fget_of h.2.1 h.2.2.2.1 h.2.2.2.2.1 h.2.2.2.2.2.1 (Cn := RX8) (Tt := TX8) rfl (by decide) n_u8 (h.2.2.2.2.1 _ n_w188)) n_mem0)))
theorem c_fp8 {C : qCx} {cc : ByteArray} {nL : Nat} {D : va_G} {tys : List (ClassId × FieldType)} (h : n_ctx C cc nL "BalanceCoder$Table" D tys) : ∀ x ∈ t_fp8, ∃ ty, q_Fput C cc D x.1 x.2.1 x.2.2 ty ∧ q_ktf n_KT x.2.1 x.2.2 ty = true := (n_mem2 (⟨_, q_Fput_of h.2.1 h.2.2.2.1 h.2.2.2.2.1 h.2.2.2.2.2.1 (Cn := RX8) (Tt := TX8) (ty := tyX8 1) rfl (by decide) n_u8 (tyX8_ok _ (by decide)) rfl (h.2.2.2.2.1 _ n_w183), by decide +kernel⟩) (n_mem2 (⟨_, q_Fput_of h.2.1 h.2.2.2.1 h.2.2.2.2.1 h.2.2.2.2.2.1 (Cn := RX8) (Tt := TX8) (ty := tyX8 2) rfl (by decide) n_u8 (tyX8_ok _ (by decide)) rfl (h.2.2.2.2.1 _ n_w188), by decide +kernel⟩) n_mem0))
theorem c_fi8 {C : qCx} {cc : ByteArray} {nL : Nat} {D : va_G} {tys : List (ClassId × FieldType)} (h : n_ctx C cc nL "BalanceCoder$Table" D tys) (hin : C.2.2.2.2.2.2.2.2.1.name = "<init>") : ∀ x ∈ t_fi8, ∃ ty, q_Fput C cc D x.1 x.2.1 x.2.2 ty ∧ q_ktf n_KT x.2.1 x.2.2 ty = true := (n_mem2 (⟨_, q_FputF_of h.2.1 h.2.2.2.1 h.2.2.2.2.1 h.2.2.2.2.2.1 (Cn := RX8) (Tt := TX8) (ty := tyX8 0) rfl (by decide) n_u8 (tyX8_ok _ (by decide)) rfl hin rfl (h.2.2.2.2.1 _ n_w177), by decide +kernel⟩) (n_mem2 (⟨_, q_Fput_of h.2.1 h.2.2.2.1 h.2.2.2.2.1 h.2.2.2.2.2.1 (Cn := RX8) (Tt := TX8) (ty := tyX8 1) rfl (by decide) n_u8 (tyX8_ok _ (by decide)) rfl (h.2.2.2.2.1 _ n_w183), by decide +kernel⟩) (n_mem2 (⟨_, q_Fput_of h.2.1 h.2.2.2.1 h.2.2.2.2.1 h.2.2.2.2.2.1 (Cn := RX8) (Tt := TX8) (ty := tyX8 2) rfl (by decide) n_u8 (tyX8_ok _ (by decide)) rfl (h.2.2.2.2.1 _ n_w188), by decide +kernel⟩) n_mem0)))
theorem c_cn8 {C : qCx} {cc : ByteArray} {nL : Nat} {D : va_G} {tys : List (ClassId × FieldType)} (h : n_ctx C cc nL "BalanceCoder$Table" D tys) : ∀ x ∈ t_cn8, ∃ tyf : Nat → FieldType, q_Fnew C cc D x.1 x.2.1 x.2.2 tyf ∧ ∀ f, f < x.2.2 → q_ktf n_KT x.2.1 f (tyf f) = true := (n_mem2 (⟨tyX2, q_Fnew_of h.2.1 h.2.2.2.1 h.2.2.2.2.1 h.2.2.2.2.2.1 (Cn := RX2) (Tt := TX2) rfl n_u2 tyX2_ok (h.2.2.2.2.1 _ n_w164) (h.2.2.2.2.1 _ n_w166) (h.2.2.2.2.1 _ n_w8), by decide +kernel⟩) n_mem0)
theorem c_n18 {C : qCx} {cc : ByteArray} {nL : Nat} {D : va_G} {tys : List (ClassId × FieldType)} (h : n_ctx C cc nL "BalanceCoder$Table" D tys) : ∀ a t, (q_aky a, t) ∈ t_na8 → ∃ cA ty, tys[t]? = some (cA, ty) ∧ q_Fna C cc (.newarray a) cA ty := by
  intro a t hm
  cases a
  · exact absurd hm (by simp [t_na8, q_aky])
  · exact absurd hm (by simp [t_na8, q_aky])
  · exact absurd hm (by simp [t_na8, q_aky])
  · exact absurd hm (by simp [t_na8, q_aky])
  · exact absurd hm (by simp [t_na8, q_aky])
  · exact absurd hm (by simp [t_na8, q_aky])
  · exact absurd hm (by simp [t_na8, q_aky])
  · exact absurd hm (by simp [t_na8, q_aky])
theorem c_n28 {C : qCx} {cc : ByteArray} {nL : Nat} {D : va_G} {tys : List (ClassId × FieldType)} (h : n_ctx C cc nL "BalanceCoder$Table" D tys) : ∀ i t, (100 + i, t) ∈ t_na8 → ∃ cA ty, tys[t]? = some (cA, ty) ∧ q_Fna C cc (.anewarray i) cA ty := by
  intro i t hm
  have hm2 : (i = 9 ∧ t = 4) := by
    simp only [t_na8, List.mem_cons, Prod.mk.injEq, List.not_mem_nil, or_false] at hm
    omega
  rcases hm2 with ⟨rfl, rfl⟩
  · obtain ⟨cA, hcA⟩ := n_ty h.1 4 rfl
    exact ⟨cA, _, hcA, q_Fnq_of h.2.1 h.2.2.2.1 h.2.2.2.2.2.1 hcA (h.2.2.2.2.1 _ n_w164) (h.2.2.2.2.2.2 _ (List.mem_of_getElem? (i := 1) rfl))⟩
theorem c_at8 {C : qCx} {cc : ByteArray} {nL : Nat} {D : va_G} {tys : List (ClassId × FieldType)} (h : n_ctx C cc nL "BalanceCoder$Table" D tys) : ∀ x ∈ t_at8, q_AR C.2.2.2.2.1 D tys x.1 x.2 := (n_mem2 (by obtain ⟨cA, hcA⟩ := n_ty h.1 4 rfl; exact q_AR_of h.2.2.2.2.2.1 hcA (Cn := RX2) (Tt := TX2) (N := 1) rfl) n_mem0)
theorem c_kI8 {C : qCx} {cc : ByteArray} {nL : Nat} {D : va_G} {tys : List (ClassId × FieldType)} (h : n_ctx C cc nL "BalanceCoder$Table" D tys) : ∀ x ∈ t_kI8, ∃ v : Int32, v.toInt = x.2 ∧ q_Kld C cc (.ldc x.1) (.int v) := n_mem0
theorem c_kL8 {C : qCx} {cc : ByteArray} {nL : Nat} {D : va_G} {tys : List (ClassId × FieldType)} (h : n_ctx C cc nL "BalanceCoder$Table" D tys) : ∀ x ∈ t_kL8, ∃ v : Int64, v.toInt = x.2 ∧ q_Kld C cc (.ldc2_w x.1) (.long v) := n_mem0
theorem c_ob8 {C : qCx} {cc : ByteArray} {nL : Nat} {D : va_G} {tys : List (ClassId × FieldType)} (h : n_ctx C cc nL "BalanceCoder$Table" D tys) (hR : 1 ≤ C.2.2.2.1.frames ∧ 20 ≤ C.2.2.2.1.locals) : ∀ x ∈ t_ob8, q_Kob C cc nL x := (n_mem2 (q_Kob_of h.2.1 h.2.2.1 h.2.2.2.1 (h.2.2.2.2.1 _ n_w163) (h.2.2.2.2.1 _ n_w23) (h.2.2.2.2.1 _ n_w24) hR) n_mem0)
theorem c_cp8 {C : qCx} {cc : ByteArray} {nL : Nat} {D : va_G} {tys : List (ClassId × FieldType)} (h : n_ctx C cc nL "BalanceCoder$Table" D tys) : ∀ x ∈ t_cp8, q_Kcp C cc nL x := n_mem0
def t_fg9 : List (Nat × Nat × Nat) := [(11, 9, 0), (19, 9, 1), (23, 9, 2), (30, 9, 3), (34, 9, 4), (37, 9, 5)]
def t_fp9 : List (Nat × Nat × Nat) := [(23, 9, 2), (34, 9, 4), (37, 9, 5)]
def t_fi9 : List (Nat × Nat × Nat) := [(11, 9, 0), (19, 9, 1), (23, 9, 2), (30, 9, 3), (34, 9, 4), (37, 9, 5)]
def t_cn9 : List (Nat × Nat × Nat) := [(9, 6, 2), (17, 8, 3), (27, 1, 5)]
def t_na9 : List (Nat × Nat) := [(109, 3), (117, 5)]
def t_at9 : List (Nat × Nat) := [(3, 6), (5, 8)]
def t_kI9 : List (Nat × Int) := []
def t_kL9 : List (Nat × Int) := []
def t_ob9 : List Nat := [3]
def t_cp9 : List Nat := []
theorem c_fg9 {C : qCx} {cc : ByteArray} {nL : Nat} {D : va_G} {tys : List (ClassId × FieldType)} (h : n_ctx C cc nL "BalanceCoder$Whole" D tys) : ∀ x ∈ t_fg9, q_Fget C cc D x.1 x.2.1 x.2.2 := (n_mem2 (q_Fget_of h.2.1 h.2.2.2.1 h.2.2.2.2.1 h.2.2.2.2.2.1 (Cn := RX9) (Tt := TX9) rfl (by decide) n_u9 (h.2.2.2.2.1 _ n_w127)) (n_mem2 (q_Fget_of h.2.1 h.2.2.2.1 h.2.2.2.2.1 h.2.2.2.2.2.1 (Cn := RX9) (Tt := TX9) rfl (by decide) n_u9 (h.2.2.2.2.1 _ n_w129)) (n_mem2 (q_Fget_of h.2.1 h.2.2.2.1 h.2.2.2.2.1 h.2.2.2.2.2.1 (Cn := RX9) (Tt := TX9) rfl (by decide) n_u9 (h.2.2.2.2.1 _ n_w131)) (n_mem2 (q_Fget_of h.2.1 h.2.2.2.1 h.2.2.2.2.1 h.2.2.2.2.2.1 (Cn := RX9) (Tt := TX9) rfl (by decide) n_u9 (h.2.2.2.2.1 _ n_w133)) (n_mem2 (q_Fget_of h.2.1 h.2.2.2.1 h.2.2.2.2.1 h.2.2.2.2.2.1 (Cn := RX9) (Tt := TX9) rfl (by decide) n_u9 (h.2.2.2.2.1 _ n_w135)) (n_mem2 (q_Fget_of h.2.1 h.2.2.2.1 h.2.2.2.2.1 h.2.2.2.2.2.1 (Cn := RX9) (Tt := TX9) rfl (by decide) n_u9 (h.2.2.2.2.1 _ n_w137)) n_mem0))))))
theorem c_fp9 {C : qCx} {cc : ByteArray} {nL : Nat} {D : va_G} {tys : List (ClassId × FieldType)} (h : n_ctx C cc nL "BalanceCoder$Whole" D tys) : ∀ x ∈ t_fp9, ∃ ty, q_Fput C cc D x.1 x.2.1 x.2.2 ty ∧ q_ktf n_KT x.2.1 x.2.2 ty = true := (n_mem2 (⟨_, q_Fput_of h.2.1 h.2.2.2.1 h.2.2.2.2.1 h.2.2.2.2.2.1 (Cn := RX9) (Tt := TX9) (ty := tyX9 2) rfl (by decide) n_u9 (tyX9_ok _ (by decide)) rfl (h.2.2.2.2.1 _ n_w131), by decide +kernel⟩) (n_mem2 (⟨_, q_Fput_of h.2.1 h.2.2.2.1 h.2.2.2.2.1 h.2.2.2.2.2.1 (Cn := RX9) (Tt := TX9) (ty := tyX9 4) rfl (by decide) n_u9 (tyX9_ok _ (by decide)) rfl (h.2.2.2.2.1 _ n_w135), by decide +kernel⟩) (n_mem2 (⟨_, q_Fput_of h.2.1 h.2.2.2.1 h.2.2.2.2.1 h.2.2.2.2.2.1 (Cn := RX9) (Tt := TX9) (ty := tyX9 5) rfl (by decide) n_u9 (tyX9_ok _ (by decide)) rfl (h.2.2.2.2.1 _ n_w137), by decide +kernel⟩) n_mem0)))
theorem c_fi9 {C : qCx} {cc : ByteArray} {nL : Nat} {D : va_G} {tys : List (ClassId × FieldType)} (h : n_ctx C cc nL "BalanceCoder$Whole" D tys) (hin : C.2.2.2.2.2.2.2.2.1.name = "<init>") : ∀ x ∈ t_fi9, ∃ ty, q_Fput C cc D x.1 x.2.1 x.2.2 ty ∧ q_ktf n_KT x.2.1 x.2.2 ty = true := (n_mem2 (⟨_, q_FputF_of h.2.1 h.2.2.2.1 h.2.2.2.2.1 h.2.2.2.2.2.1 (Cn := RX9) (Tt := TX9) (ty := tyX9 0) rfl (by decide) n_u9 (tyX9_ok _ (by decide)) rfl hin rfl (h.2.2.2.2.1 _ n_w127), by decide +kernel⟩) (n_mem2 (⟨_, q_FputF_of h.2.1 h.2.2.2.1 h.2.2.2.2.1 h.2.2.2.2.2.1 (Cn := RX9) (Tt := TX9) (ty := tyX9 1) rfl (by decide) n_u9 (tyX9_ok _ (by decide)) rfl hin rfl (h.2.2.2.2.1 _ n_w129), by decide +kernel⟩) (n_mem2 (⟨_, q_Fput_of h.2.1 h.2.2.2.1 h.2.2.2.2.1 h.2.2.2.2.2.1 (Cn := RX9) (Tt := TX9) (ty := tyX9 2) rfl (by decide) n_u9 (tyX9_ok _ (by decide)) rfl (h.2.2.2.2.1 _ n_w131), by decide +kernel⟩) (n_mem2 (⟨_, q_FputF_of h.2.1 h.2.2.2.1 h.2.2.2.2.1 h.2.2.2.2.2.1 (Cn := RX9) (Tt := TX9) (ty := tyX9 3) rfl (by decide) n_u9 (tyX9_ok _ (by decide)) rfl hin rfl (h.2.2.2.2.1 _ n_w133), by decide +kernel⟩) (n_mem2 (⟨_, q_Fput_of h.2.1 h.2.2.2.1 h.2.2.2.2.1 h.2.2.2.2.2.1 (Cn := RX9) (Tt := TX9) (ty := tyX9 4) rfl (by decide) n_u9 (tyX9_ok _ (by decide)) rfl (h.2.2.2.2.1 _ n_w135), by decide +kernel⟩) (n_mem2 (⟨_, q_Fput_of h.2.1 h.2.2.2.1 h.2.2.2.2.1 h.2.2.2.2.2.1 (Cn := RX9) (Tt := TX9) (ty := tyX9 5) rfl (by decide) n_u9 (tyX9_ok _ (by decide)) rfl (h.2.2.2.2.1 _ n_w137), by decide +kernel⟩) n_mem0))))))
theorem c_cn9 {C : qCx} {cc : ByteArray} {nL : Nat} {D : va_G} {tys : List (ClassId × FieldType)} (h : n_ctx C cc nL "BalanceCoder$Whole" D tys) : ∀ x ∈ t_cn9, ∃ tyf : Nat → FieldType, q_Fnew C cc D x.1 x.2.1 x.2.2 tyf ∧ ∀ f, f < x.2.2 → q_ktf n_KT x.2.1 f (tyf f) = true := (n_mem2 (⟨tyX6, q_Fnew_of h.2.1 h.2.2.2.1 h.2.2.2.2.1 h.2.2.2.2.2.1 (Cn := RX6) (Tt := TX6) rfl n_u6 tyX6_ok (h.2.2.2.2.1 _ n_w31) (h.2.2.2.2.1 _ n_w107) (h.2.2.2.2.1 _ n_w5), by decide +kernel⟩) (n_mem2 (⟨tyX8, q_Fnew_of h.2.1 h.2.2.2.1 h.2.2.2.2.1 h.2.2.2.2.2.1 (Cn := RX8) (Tt := TX8) rfl n_u8 tyX8_ok (h.2.2.2.2.1 _ n_w33) (h.2.2.2.2.1 _ n_w159) (h.2.2.2.2.1 _ n_w7), by decide +kernel⟩) (n_mem2 (⟨tyX1, q_Fnew_of h.2.1 h.2.2.2.1 h.2.2.2.2.1 h.2.2.2.2.2.1 (Cn := RX1) (Tt := TX1) rfl n_u1 tyX1_ok (h.2.2.2.2.1 _ n_w35) (h.2.2.2.2.1 _ n_w36) (h.2.2.2.2.1 _ n_w3), by decide +kernel⟩) n_mem0)))
theorem c_n19 {C : qCx} {cc : ByteArray} {nL : Nat} {D : va_G} {tys : List (ClassId × FieldType)} (h : n_ctx C cc nL "BalanceCoder$Whole" D tys) : ∀ a t, (q_aky a, t) ∈ t_na9 → ∃ cA ty, tys[t]? = some (cA, ty) ∧ q_Fna C cc (.newarray a) cA ty := by
  intro a t hm
  cases a
  · exact absurd hm (by simp [t_na9, q_aky])
  · exact absurd hm (by simp [t_na9, q_aky])
  · exact absurd hm (by simp [t_na9, q_aky])
  · exact absurd hm (by simp [t_na9, q_aky])
  · exact absurd hm (by simp [t_na9, q_aky])
  · exact absurd hm (by simp [t_na9, q_aky])
  · exact absurd hm (by simp [t_na9, q_aky])
  · exact absurd hm (by simp [t_na9, q_aky])
theorem c_n29 {C : qCx} {cc : ByteArray} {nL : Nat} {D : va_G} {tys : List (ClassId × FieldType)} (h : n_ctx C cc nL "BalanceCoder$Whole" D tys) : ∀ i t, (100 + i, t) ∈ t_na9 → ∃ cA ty, tys[t]? = some (cA, ty) ∧ q_Fna C cc (.anewarray i) cA ty := by
  intro i t hm
  have hm2 : (i = 9 ∧ t = 3) ∨ (i = 17 ∧ t = 5) := by
    simp only [t_na9, List.mem_cons, Prod.mk.injEq, List.not_mem_nil, or_false] at hm
    omega
  rcases hm2 with ⟨rfl, rfl⟩ | ⟨rfl, rfl⟩
  · obtain ⟨cA, hcA⟩ := n_ty h.1 3 rfl
    exact ⟨cA, _, hcA, q_Fnq_of h.2.1 h.2.2.2.1 h.2.2.2.2.2.1 hcA (h.2.2.2.2.1 _ n_w31) (h.2.2.2.2.2.2 _ (List.mem_of_getElem? (i := 2) rfl))⟩
  · obtain ⟨cA, hcA⟩ := n_ty h.1 5 rfl
    exact ⟨cA, _, hcA, q_Fnq_of h.2.1 h.2.2.2.1 h.2.2.2.2.2.1 hcA (h.2.2.2.2.1 _ n_w33) (h.2.2.2.2.2.2 _ (List.mem_of_getElem? (i := 3) rfl))⟩
theorem c_at9 {C : qCx} {cc : ByteArray} {nL : Nat} {D : va_G} {tys : List (ClassId × FieldType)} (h : n_ctx C cc nL "BalanceCoder$Whole" D tys) : ∀ x ∈ t_at9, q_AR C.2.2.2.2.1 D tys x.1 x.2 := (n_mem2 (by obtain ⟨cA, hcA⟩ := n_ty h.1 3 rfl; exact q_AR_of h.2.2.2.2.2.1 hcA (Cn := RX6) (Tt := TX6) (N := 2) rfl) (n_mem2 (by obtain ⟨cA, hcA⟩ := n_ty h.1 5 rfl; exact q_AR_of h.2.2.2.2.2.1 hcA (Cn := RX8) (Tt := TX8) (N := 3) rfl) n_mem0))
theorem c_kI9 {C : qCx} {cc : ByteArray} {nL : Nat} {D : va_G} {tys : List (ClassId × FieldType)} (h : n_ctx C cc nL "BalanceCoder$Whole" D tys) : ∀ x ∈ t_kI9, ∃ v : Int32, v.toInt = x.2 ∧ q_Kld C cc (.ldc x.1) (.int v) := n_mem0
theorem c_kL9 {C : qCx} {cc : ByteArray} {nL : Nat} {D : va_G} {tys : List (ClassId × FieldType)} (h : n_ctx C cc nL "BalanceCoder$Whole" D tys) : ∀ x ∈ t_kL9, ∃ v : Int64, v.toInt = x.2 ∧ q_Kld C cc (.ldc2_w x.1) (.long v) := n_mem0
theorem c_ob9 {C : qCx} {cc : ByteArray} {nL : Nat} {D : va_G} {tys : List (ClassId × FieldType)} (h : n_ctx C cc nL "BalanceCoder$Whole" D tys) (hR : 1 ≤ C.2.2.2.1.frames ∧ 20 ≤ C.2.2.2.1.locals) : ∀ x ∈ t_ob9, q_Kob C cc nL x := (n_mem2 (q_Kob_of h.2.1 h.2.2.1 h.2.2.2.1 (h.2.2.2.2.1 _ n_w30) (h.2.2.2.2.1 _ n_w23) (h.2.2.2.2.1 _ n_w24) hR) n_mem0)
theorem c_cp9 {C : qCx} {cc : ByteArray} {nL : Nat} {D : va_G} {tys : List (ClassId × FieldType)} (h : n_ctx C cc nL "BalanceCoder$Whole" D tys) : ∀ x ∈ t_cp9, q_Kcp C cc nL x := n_mem0
def t_fg10 : List (Nat × Nat × Nat) := [(10, 10, 0), (16, 10, 1), (22, 10, 2), (36, 10, 4), (40, 10, 5), (44, 10, 6), (48, 10, 7), (59, 6, 1), (79, 9, 2), (155, 9, 3), (180, 1, 1), (205, 1, 2), (224, 1, 4), (230, 9, 5), (236, 9, 4), (239, 9, 0)]
def t_fp10 : List (Nat × Nat × Nat) := [(16, 10, 1), (44, 10, 6), (48, 10, 7), (59, 6, 1), (79, 9, 2)]
def t_fi10 : List (Nat × Nat × Nat) := [(10, 10, 0), (16, 10, 1), (22, 10, 2), (29, 10, 3), (36, 10, 4), (40, 10, 5), (44, 10, 6), (48, 10, 7), (59, 6, 1), (79, 9, 2)]
def t_cn10 : List (Nat × Nat × Nat) := [(7, 9, 6), (19, 0, 6), (26, 3, 4), (33, 5, 2)]
def t_na10 : List (Nat × Nat) := [(10, 0)]
def t_at10 : List (Nat × Nat) := []
def t_kI10 : List (Nat × Int) := []
def t_kL10 : List (Nat × Int) := []
def t_ob10 : List Nat := [1]
def t_cp10 : List Nat := []
theorem c_fg10 {C : qCx} {cc : ByteArray} {nL : Nat} {D : va_G} {tys : List (ClassId × FieldType)} (h : n_ctx C cc nL "BalanceCoder" D tys) : ∀ x ∈ t_fg10, q_Fget C cc D x.1 x.2.1 x.2.2 := (n_mem2 (q_Fget_of h.2.1 h.2.2.2.1 h.2.2.2.2.1 h.2.2.2.2.2.1 (Cn := RX10) (Tt := TX10) rfl (by decide) n_u10 (h.2.2.2.2.1 _ n_w273)) (n_mem2 (q_Fget_of h.2.1 h.2.2.2.1 h.2.2.2.2.1 h.2.2.2.2.2.1 (Cn := RX10) (Tt := TX10) rfl (by decide) n_u10 (h.2.2.2.2.1 _ n_w274)) (n_mem2 (q_Fget_of h.2.1 h.2.2.2.1 h.2.2.2.2.1 h.2.2.2.2.2.1 (Cn := RX10) (Tt := TX10) rfl (by decide) n_u10 (h.2.2.2.2.1 _ n_w275)) (n_mem2 (q_Fget_of h.2.1 h.2.2.2.1 h.2.2.2.2.1 h.2.2.2.2.2.1 (Cn := RX10) (Tt := TX10) rfl (by decide) n_u10 (h.2.2.2.2.1 _ n_w277)) (n_mem2 (q_Fget_of h.2.1 h.2.2.2.1 h.2.2.2.2.1 h.2.2.2.2.2.1 (Cn := RX10) (Tt := TX10) rfl (by decide) n_u10 (h.2.2.2.2.1 _ n_w278)) (n_mem2 (q_Fget_of h.2.1 h.2.2.2.1 h.2.2.2.2.1 h.2.2.2.2.2.1 (Cn := RX10) (Tt := TX10) rfl (by decide) n_u10 (h.2.2.2.2.1 _ n_w279)) (n_mem2 (q_Fget_of h.2.1 h.2.2.2.1 h.2.2.2.2.1 h.2.2.2.2.2.1 (Cn := RX10) (Tt := TX10) rfl (by decide) n_u10 (h.2.2.2.2.1 _ n_w280)) (n_mem2 (q_FgetN_of h.2.1 h.2.2.2.1 h.2.2.2.2.1 h.2.2.2.2.2.1 (Cn := RX6) (Tt := TX6) rfl (by decide) n_u6 (va_Nw.use rfl (h.2.2.2.2.2.2 _ (List.mem_of_getElem? (i := 4) rfl)))) (n_mem2 (q_FgetN_of h.2.1 h.2.2.2.1 h.2.2.2.2.1 h.2.2.2.2.2.1 (Cn := RX9) (Tt := TX9) rfl (by decide) n_u9 (va_Nw.use rfl (h.2.2.2.2.2.2 _ (List.mem_of_getElem? (i := 5) rfl)))) (n_mem2 (q_FgetN_of h.2.1 h.2.2.2.1 h.2.2.2.2.1 h.2.2.2.2.2.1 (Cn := RX9) (Tt := TX9) rfl (by decide) n_u9 (va_Nw.use rfl (h.2.2.2.2.2.2 _ (List.mem_of_getElem? (i := 6) rfl)))) (n_mem2 (q_FgetN_of h.2.1 h.2.2.2.1 h.2.2.2.2.1 h.2.2.2.2.2.1 (Cn := RX1) (Tt := TX1) rfl (by decide) n_u1 (va_Nw.use rfl (h.2.2.2.2.2.2 _ (List.mem_of_getElem? (i := 7) rfl)))) (n_mem2 (q_FgetN_of h.2.1 h.2.2.2.1 h.2.2.2.2.1 h.2.2.2.2.2.1 (Cn := RX1) (Tt := TX1) rfl (by decide) n_u1 (va_Nw.use rfl (h.2.2.2.2.2.2 _ (List.mem_of_getElem? (i := 8) rfl)))) (n_mem2 (q_FgetN_of h.2.1 h.2.2.2.1 h.2.2.2.2.1 h.2.2.2.2.2.1 (Cn := RX1) (Tt := TX1) rfl (by decide) n_u1 (va_Nw.use rfl (h.2.2.2.2.2.2 _ (List.mem_of_getElem? (i := 9) rfl)))) (n_mem2 (q_FgetN_of h.2.1 h.2.2.2.1 h.2.2.2.2.1 h.2.2.2.2.2.1 (Cn := RX9) (Tt := TX9) rfl (by decide) n_u9 (va_Nw.use rfl (h.2.2.2.2.2.2 _ (List.mem_of_getElem? (i := 10) rfl)))) (n_mem2 (q_FgetN_of h.2.1 h.2.2.2.1 h.2.2.2.2.1 h.2.2.2.2.2.1 (Cn := RX9) (Tt := TX9) rfl (by decide) n_u9 (va_Nw.use rfl (h.2.2.2.2.2.2 _ (List.mem_of_getElem? (i := 11) rfl)))) (n_mem2 (q_FgetN_of h.2.1 h.2.2.2.1 h.2.2.2.2.1 h.2.2.2.2.2.1 (Cn := RX9) (Tt := TX9) rfl (by decide) n_u9 (va_Nw.use rfl (h.2.2.2.2.2.2 _ (List.mem_of_getElem? (i := 12) rfl)))) n_mem0))))))))))))))))
theorem c_fp10 {C : qCx} {cc : ByteArray} {nL : Nat} {D : va_G} {tys : List (ClassId × FieldType)} (h : n_ctx C cc nL "BalanceCoder" D tys) : ∀ x ∈ t_fp10, ∃ ty, q_Fput C cc D x.1 x.2.1 x.2.2 ty ∧ q_ktf n_KT x.2.1 x.2.2 ty = true := (n_mem2 (⟨_, q_Fput_of h.2.1 h.2.2.2.1 h.2.2.2.2.1 h.2.2.2.2.2.1 (Cn := RX10) (Tt := TX10) (ty := tyX10 1) rfl (by decide) n_u10 (tyX10_ok _ (by decide)) rfl (h.2.2.2.2.1 _ n_w274), by decide +kernel⟩) (n_mem2 (⟨_, q_Fput_of h.2.1 h.2.2.2.1 h.2.2.2.2.1 h.2.2.2.2.2.1 (Cn := RX10) (Tt := TX10) (ty := tyX10 6) rfl (by decide) n_u10 (tyX10_ok _ (by decide)) rfl (h.2.2.2.2.1 _ n_w279), by decide +kernel⟩) (n_mem2 (⟨_, q_Fput_of h.2.1 h.2.2.2.1 h.2.2.2.2.1 h.2.2.2.2.2.1 (Cn := RX10) (Tt := TX10) (ty := tyX10 7) rfl (by decide) n_u10 (tyX10_ok _ (by decide)) rfl (h.2.2.2.2.1 _ n_w280), by decide +kernel⟩) (n_mem2 (⟨_, q_FputN_of h.2.1 h.2.2.2.1 h.2.2.2.2.1 h.2.2.2.2.2.1 (Cn := RX6) (Tt := TX6) (ty := tyX6 1) rfl (by decide) n_u6 (tyX6_ok _ (by decide)) rfl (va_Nw.use rfl (h.2.2.2.2.2.2 _ (List.mem_of_getElem? (i := 4) rfl))), by decide +kernel⟩) (n_mem2 (⟨_, q_FputN_of h.2.1 h.2.2.2.1 h.2.2.2.2.1 h.2.2.2.2.2.1 (Cn := RX9) (Tt := TX9) (ty := tyX9 2) rfl (by decide) n_u9 (tyX9_ok _ (by decide)) rfl (va_Nw.use rfl (h.2.2.2.2.2.2 _ (List.mem_of_getElem? (i := 5) rfl))), by decide +kernel⟩) n_mem0)))))
theorem c_fi10 {C : qCx} {cc : ByteArray} {nL : Nat} {D : va_G} {tys : List (ClassId × FieldType)} (h : n_ctx C cc nL "BalanceCoder" D tys) (hin : C.2.2.2.2.2.2.2.2.1.name = "<init>") : ∀ x ∈ t_fi10, ∃ ty, q_Fput C cc D x.1 x.2.1 x.2.2 ty ∧ q_ktf n_KT x.2.1 x.2.2 ty = true := (n_mem2 (⟨_, q_FputF_of h.2.1 h.2.2.2.1 h.2.2.2.2.1 h.2.2.2.2.2.1 (Cn := RX10) (Tt := TX10) (ty := tyX10 0) rfl (by decide) n_u10 (tyX10_ok _ (by decide)) rfl hin rfl (h.2.2.2.2.1 _ n_w273), by decide +kernel⟩) (n_mem2 (⟨_, q_Fput_of h.2.1 h.2.2.2.1 h.2.2.2.2.1 h.2.2.2.2.2.1 (Cn := RX10) (Tt := TX10) (ty := tyX10 1) rfl (by decide) n_u10 (tyX10_ok _ (by decide)) rfl (h.2.2.2.2.1 _ n_w274), by decide +kernel⟩) (n_mem2 (⟨_, q_FputF_of h.2.1 h.2.2.2.1 h.2.2.2.2.1 h.2.2.2.2.2.1 (Cn := RX10) (Tt := TX10) (ty := tyX10 2) rfl (by decide) n_u10 (tyX10_ok _ (by decide)) rfl hin rfl (h.2.2.2.2.1 _ n_w275), by decide +kernel⟩) (n_mem2 (⟨_, q_FputF_of h.2.1 h.2.2.2.1 h.2.2.2.2.1 h.2.2.2.2.2.1 (Cn := RX10) (Tt := TX10) (ty := tyX10 3) rfl (by decide) n_u10 (tyX10_ok _ (by decide)) rfl hin rfl (h.2.2.2.2.1 _ n_w276), by decide +kernel⟩) (n_mem2 (⟨_, q_FputF_of h.2.1 h.2.2.2.1 h.2.2.2.2.1 h.2.2.2.2.2.1 (Cn := RX10) (Tt := TX10) (ty := tyX10 4) rfl (by decide) n_u10 (tyX10_ok _ (by decide)) rfl hin rfl (h.2.2.2.2.1 _ n_w277), by decide +kernel⟩) (n_mem2 (⟨_, q_FputF_of h.2.1 h.2.2.2.1 h.2.2.2.2.1 h.2.2.2.2.2.1 (Cn := RX10) (Tt := TX10) (ty := tyX10 5) rfl (by decide) n_u10 (tyX10_ok _ (by decide)) rfl hin rfl (h.2.2.2.2.1 _ n_w278), by decide +kernel⟩) (n_mem2 (⟨_, q_Fput_of h.2.1 h.2.2.2.1 h.2.2.2.2.1 h.2.2.2.2.2.1 (Cn := RX10) (Tt := TX10) (ty := tyX10 6) rfl (by decide) n_u10 (tyX10_ok _ (by decide)) rfl (h.2.2.2.2.1 _ n_w279), by decide +kernel⟩) (n_mem2 (⟨_, q_Fput_of h.2.1 h.2.2.2.1 h.2.2.2.2.1 h.2.2.2.2.2.1 (Cn := RX10) (Tt := TX10) (ty := tyX10 7) rfl (by decide) n_u10 (tyX10_ok _ (by decide)) rfl (h.2.2.2.2.1 _ n_w280), by decide +kernel⟩) (n_mem2 (⟨_, q_FputN_of h.2.1 h.2.2.2.1 h.2.2.2.2.1 h.2.2.2.2.2.1 (Cn := RX6) (Tt := TX6) (ty := tyX6 1) rfl (by decide) n_u6 (tyX6_ok _ (by decide)) rfl (va_Nw.use rfl (h.2.2.2.2.2.2 _ (List.mem_of_getElem? (i := 4) rfl))), by decide +kernel⟩) (n_mem2 (⟨_, q_FputN_of h.2.1 h.2.2.2.1 h.2.2.2.2.1 h.2.2.2.2.2.1 (Cn := RX9) (Tt := TX9) (ty := tyX9 2) rfl (by decide) n_u9 (tyX9_ok _ (by decide)) rfl (va_Nw.use rfl (h.2.2.2.2.2.2 _ (List.mem_of_getElem? (i := 5) rfl))), by decide +kernel⟩) n_mem0))))))))))
theorem c_cn10 {C : qCx} {cc : ByteArray} {nL : Nat} {D : va_G} {tys : List (ClassId × FieldType)} (h : n_ctx C cc nL "BalanceCoder" D tys) : ∀ x ∈ t_cn10, ∃ tyf : Nat → FieldType, q_Fnew C cc D x.1 x.2.1 x.2.2 tyf ∧ ∀ f, f < x.2.2 → q_ktf n_KT x.2.1 f (tyf f) = true := (n_mem2 (⟨tyX9, q_Fnew_of h.2.1 h.2.2.2.1 h.2.2.2.2.1 h.2.2.2.2.2.1 (Cn := RX9) (Tt := TX9) rfl n_u9 tyX9_ok (h.2.2.2.2.1 _ n_w25) (h.2.2.2.2.1 _ n_w26) (h.2.2.2.2.1 _ n_w2), by decide +kernel⟩) (n_mem2 (⟨tyX0, q_Fnew_of h.2.1 h.2.2.2.1 h.2.2.2.2.1 h.2.2.2.2.2.1 (Cn := RX0) (Tt := TX0) rfl n_u0 tyX0_ok (h.2.2.2.2.1 _ n_w152) (h.2.2.2.2.1 _ n_w153) (h.2.2.2.2.1 _ n_w6), by decide +kernel⟩) (n_mem2 (⟨tyX3, q_Fnew_of h.2.1 h.2.2.2.1 h.2.2.2.2.1 h.2.2.2.2.2.1 (Cn := RX3) (Tt := TX3) rfl n_u3 tyX3_ok (h.2.2.2.2.1 _ n_w241) (h.2.2.2.2.1 _ n_w242) (h.2.2.2.2.1 _ n_w10), by decide +kernel⟩) (n_mem2 (⟨tyX5, q_Fnew_of h.2.1 h.2.2.2.1 h.2.2.2.2.1 h.2.2.2.2.2.1 (Cn := RX5) (Tt := TX5) rfl n_u5 tyX5_ok (h.2.2.2.2.1 _ n_w260) (h.2.2.2.2.1 _ n_w261) (h.2.2.2.2.1 _ n_w11), by decide +kernel⟩) n_mem0))))
theorem c_n110 {C : qCx} {cc : ByteArray} {nL : Nat} {D : va_G} {tys : List (ClassId × FieldType)} (h : n_ctx C cc nL "BalanceCoder" D tys) : ∀ a t, (q_aky a, t) ∈ t_na10 → ∃ cA ty, tys[t]? = some (cA, ty) ∧ q_Fna C cc (.newarray a) cA ty := by
  intro a t hm
  cases a
  · exact absurd hm (by simp [t_na10, q_aky])
  · exact absurd hm (by simp [t_na10, q_aky])
  · exact absurd hm (by simp [t_na10, q_aky])
  · exact absurd hm (by simp [t_na10, q_aky])
  · exact absurd hm (by simp [t_na10, q_aky])
  · exact absurd hm (by simp [t_na10, q_aky])
  · have ht : t = 0 := by simpa [t_na10, q_aky] using hm
    subst ht
    obtain ⟨cA, hcA⟩ := n_ty h.1 0 rfl
    exact ⟨cA, _, hcA, q_Fna_of h.2.1 h.2.2.2.2.2.1 hcA (h.2.2.2.2.1 _ n_w81)⟩
  · exact absurd hm (by simp [t_na10, q_aky])
theorem c_n210 {C : qCx} {cc : ByteArray} {nL : Nat} {D : va_G} {tys : List (ClassId × FieldType)} (h : n_ctx C cc nL "BalanceCoder" D tys) : ∀ i t, (100 + i, t) ∈ t_na10 → ∃ cA ty, tys[t]? = some (cA, ty) ∧ q_Fna C cc (.anewarray i) cA ty := by
  intro i t hm
  simp [t_na10] at hm
  try omega
theorem c_at10 {C : qCx} {cc : ByteArray} {nL : Nat} {D : va_G} {tys : List (ClassId × FieldType)} (h : n_ctx C cc nL "BalanceCoder" D tys) : ∀ x ∈ t_at10, q_AR C.2.2.2.2.1 D tys x.1 x.2 := n_mem0
theorem c_kI10 {C : qCx} {cc : ByteArray} {nL : Nat} {D : va_G} {tys : List (ClassId × FieldType)} (h : n_ctx C cc nL "BalanceCoder" D tys) : ∀ x ∈ t_kI10, ∃ v : Int32, v.toInt = x.2 ∧ q_Kld C cc (.ldc x.1) (.int v) := n_mem0
theorem c_kL10 {C : qCx} {cc : ByteArray} {nL : Nat} {D : va_G} {tys : List (ClassId × FieldType)} (h : n_ctx C cc nL "BalanceCoder" D tys) : ∀ x ∈ t_kL10, ∃ v : Int64, v.toInt = x.2 ∧ q_Kld C cc (.ldc2_w x.1) (.long v) := n_mem0
theorem c_ob10 {C : qCx} {cc : ByteArray} {nL : Nat} {D : va_G} {tys : List (ClassId × FieldType)} (h : n_ctx C cc nL "BalanceCoder" D tys) (hR : 1 ≤ C.2.2.2.1.frames ∧ 20 ≤ C.2.2.2.1.locals) : ∀ x ∈ t_ob10, q_Kob C cc nL x := (n_mem2 (q_Kob_of h.2.1 h.2.2.1 h.2.2.2.1 (h.2.2.2.2.1 _ n_w22) (h.2.2.2.2.1 _ n_w23) (h.2.2.2.2.1 _ n_w24) hR) n_mem0)
theorem c_cp10 {C : qCx} {cc : ByteArray} {nL : Nat} {D : va_G} {tys : List (ClassId × FieldType)} (h : n_ctx C cc nL "BalanceCoder" D tys) : ∀ x ∈ t_cp10, q_Kcp C cc nL x := n_mem0
def t_fg11 : List (Nat × Nat × Nat) := [(9, 11, 0), (15, 11, 1), (18, 11, 3), (21, 11, 4), (24, 11, 5), (28, 11, 6), (31, 11, 8), (38, 11, 2), (42, 11, 7), (45, 11, 9), (49, 11, 10), (52, 11, 11), (55, 11, 12), (58, 11, 13)]
def t_fp11 : List (Nat × Nat × Nat) := [(38, 11, 2), (42, 11, 7), (45, 11, 9), (49, 11, 10), (52, 11, 11), (55, 11, 12), (58, 11, 13)]
def t_fi11 : List (Nat × Nat × Nat) := [(9, 11, 0), (15, 11, 1), (18, 11, 3), (21, 11, 4), (24, 11, 5), (28, 11, 6), (31, 11, 8), (38, 11, 2), (42, 11, 7), (45, 11, 9), (49, 11, 10), (52, 11, 11), (55, 11, 12), (58, 11, 13)]
def t_cn11 : List (Nat × Nat × Nat) := []
def t_na11 : List (Nat × Nat) := [(4, 2), (10, 0)]
def t_at11 : List (Nat × Nat) := []
def t_kI11 : List (Nat × Int) := []
def t_kL11 : List (Nat × Int) := []
def t_ob11 : List Nat := [3]
def t_cp11 : List Nat := []
theorem c_fg11 {C : qCx} {cc : ByteArray} {nL : Nat} {D : va_G} {tys : List (ClassId × FieldType)} (h : n_ctx C cc nL "BalanceCoderModel$Book" D tys) : ∀ x ∈ t_fg11, q_Fget C cc D x.1 x.2.1 x.2.2 := (n_mem2 (q_Fget_of h.2.1 h.2.2.2.1 h.2.2.2.2.1 h.2.2.2.2.2.1 (Cn := RX11) (Tt := TX11) rfl (by decide) n_u11 (h.2.2.2.2.1 _ n_w760)) (n_mem2 (q_Fget_of h.2.1 h.2.2.2.1 h.2.2.2.2.1 h.2.2.2.2.2.1 (Cn := RX11) (Tt := TX11) rfl (by decide) n_u11 (h.2.2.2.2.1 _ n_w762)) (n_mem2 (q_Fget_of h.2.1 h.2.2.2.1 h.2.2.2.2.1 h.2.2.2.2.2.1 (Cn := RX11) (Tt := TX11) rfl (by decide) n_u11 (h.2.2.2.2.1 _ n_w766)) (n_mem2 (q_Fget_of h.2.1 h.2.2.2.1 h.2.2.2.2.1 h.2.2.2.2.2.1 (Cn := RX11) (Tt := TX11) rfl (by decide) n_u11 (h.2.2.2.2.1 _ n_w768)) (n_mem2 (q_Fget_of h.2.1 h.2.2.2.1 h.2.2.2.2.1 h.2.2.2.2.2.1 (Cn := RX11) (Tt := TX11) rfl (by decide) n_u11 (h.2.2.2.2.1 _ n_w770)) (n_mem2 (q_Fget_of h.2.1 h.2.2.2.1 h.2.2.2.2.1 h.2.2.2.2.2.1 (Cn := RX11) (Tt := TX11) rfl (by decide) n_u11 (h.2.2.2.2.1 _ n_w772)) (n_mem2 (q_Fget_of h.2.1 h.2.2.2.1 h.2.2.2.2.1 h.2.2.2.2.2.1 (Cn := RX11) (Tt := TX11) rfl (by decide) n_u11 (h.2.2.2.2.1 _ n_w776)) (n_mem2 (q_Fget_of h.2.1 h.2.2.2.1 h.2.2.2.2.1 h.2.2.2.2.2.1 (Cn := RX11) (Tt := TX11) rfl (by decide) n_u11 (h.2.2.2.2.1 _ n_w764)) (n_mem2 (q_Fget_of h.2.1 h.2.2.2.1 h.2.2.2.2.1 h.2.2.2.2.2.1 (Cn := RX11) (Tt := TX11) rfl (by decide) n_u11 (h.2.2.2.2.1 _ n_w774)) (n_mem2 (q_Fget_of h.2.1 h.2.2.2.1 h.2.2.2.2.1 h.2.2.2.2.2.1 (Cn := RX11) (Tt := TX11) rfl (by decide) n_u11 (h.2.2.2.2.1 _ n_w778)) (n_mem2 (q_Fget_of h.2.1 h.2.2.2.1 h.2.2.2.2.1 h.2.2.2.2.2.1 (Cn := RX11) (Tt := TX11) rfl (by decide) n_u11 (h.2.2.2.2.1 _ n_w780)) (n_mem2 (q_Fget_of h.2.1 h.2.2.2.1 h.2.2.2.2.1 h.2.2.2.2.2.1 (Cn := RX11) (Tt := TX11) rfl (by decide) n_u11 (h.2.2.2.2.1 _ n_w782)) (n_mem2 (q_Fget_of h.2.1 h.2.2.2.1 h.2.2.2.2.1 h.2.2.2.2.2.1 (Cn := RX11) (Tt := TX11) rfl (by decide) n_u11 (h.2.2.2.2.1 _ n_w784)) (n_mem2 (q_Fget_of h.2.1 h.2.2.2.1 h.2.2.2.2.1 h.2.2.2.2.2.1 (Cn := RX11) (Tt := TX11) rfl (by decide) n_u11 (h.2.2.2.2.1 _ n_w786)) n_mem0))))))))))))))
theorem c_fp11 {C : qCx} {cc : ByteArray} {nL : Nat} {D : va_G} {tys : List (ClassId × FieldType)} (h : n_ctx C cc nL "BalanceCoderModel$Book" D tys) : ∀ x ∈ t_fp11, ∃ ty, q_Fput C cc D x.1 x.2.1 x.2.2 ty ∧ q_ktf n_KT x.2.1 x.2.2 ty = true := (n_mem2 (⟨_, q_Fput_of h.2.1 h.2.2.2.1 h.2.2.2.2.1 h.2.2.2.2.2.1 (Cn := RX11) (Tt := TX11) (ty := tyX11 2) rfl (by decide) n_u11 (tyX11_ok _ (by decide)) rfl (h.2.2.2.2.1 _ n_w764), by decide +kernel⟩) (n_mem2 (⟨_, q_Fput_of h.2.1 h.2.2.2.1 h.2.2.2.2.1 h.2.2.2.2.2.1 (Cn := RX11) (Tt := TX11) (ty := tyX11 7) rfl (by decide) n_u11 (tyX11_ok _ (by decide)) rfl (h.2.2.2.2.1 _ n_w774), by decide +kernel⟩) (n_mem2 (⟨_, q_Fput_of h.2.1 h.2.2.2.1 h.2.2.2.2.1 h.2.2.2.2.2.1 (Cn := RX11) (Tt := TX11) (ty := tyX11 9) rfl (by decide) n_u11 (tyX11_ok _ (by decide)) rfl (h.2.2.2.2.1 _ n_w778), by decide +kernel⟩) (n_mem2 (⟨_, q_Fput_of h.2.1 h.2.2.2.1 h.2.2.2.2.1 h.2.2.2.2.2.1 (Cn := RX11) (Tt := TX11) (ty := tyX11 10) rfl (by decide) n_u11 (tyX11_ok _ (by decide)) rfl (h.2.2.2.2.1 _ n_w780), by decide +kernel⟩) (n_mem2 (⟨_, q_Fput_of h.2.1 h.2.2.2.1 h.2.2.2.2.1 h.2.2.2.2.2.1 (Cn := RX11) (Tt := TX11) (ty := tyX11 11) rfl (by decide) n_u11 (tyX11_ok _ (by decide)) rfl (h.2.2.2.2.1 _ n_w782), by decide +kernel⟩) (n_mem2 (⟨_, q_Fput_of h.2.1 h.2.2.2.1 h.2.2.2.2.1 h.2.2.2.2.2.1 (Cn := RX11) (Tt := TX11) (ty := tyX11 12) rfl (by decide) n_u11 (tyX11_ok _ (by decide)) rfl (h.2.2.2.2.1 _ n_w784), by decide +kernel⟩) (n_mem2 (⟨_, q_Fput_of h.2.1 h.2.2.2.1 h.2.2.2.2.1 h.2.2.2.2.2.1 (Cn := RX11) (Tt := TX11) (ty := tyX11 13) rfl (by decide) n_u11 (tyX11_ok _ (by decide)) rfl (h.2.2.2.2.1 _ n_w786), by decide +kernel⟩) n_mem0)))))))
theorem c_fi11 {C : qCx} {cc : ByteArray} {nL : Nat} {D : va_G} {tys : List (ClassId × FieldType)} (h : n_ctx C cc nL "BalanceCoderModel$Book" D tys) (hin : C.2.2.2.2.2.2.2.2.1.name = "<init>") : ∀ x ∈ t_fi11, ∃ ty, q_Fput C cc D x.1 x.2.1 x.2.2 ty ∧ q_ktf n_KT x.2.1 x.2.2 ty = true := (n_mem2 (⟨_, q_FputF_of h.2.1 h.2.2.2.1 h.2.2.2.2.1 h.2.2.2.2.2.1 (Cn := RX11) (Tt := TX11) (ty := tyX11 0) rfl (by decide) n_u11 (tyX11_ok _ (by decide)) rfl hin rfl (h.2.2.2.2.1 _ n_w760), by decide +kernel⟩) (n_mem2 (⟨_, q_FputF_of h.2.1 h.2.2.2.1 h.2.2.2.2.1 h.2.2.2.2.2.1 (Cn := RX11) (Tt := TX11) (ty := tyX11 1) rfl (by decide) n_u11 (tyX11_ok _ (by decide)) rfl hin rfl (h.2.2.2.2.1 _ n_w762), by decide +kernel⟩) (n_mem2 (⟨_, q_FputF_of h.2.1 h.2.2.2.1 h.2.2.2.2.1 h.2.2.2.2.2.1 (Cn := RX11) (Tt := TX11) (ty := tyX11 3) rfl (by decide) n_u11 (tyX11_ok _ (by decide)) rfl hin rfl (h.2.2.2.2.1 _ n_w766), by decide +kernel⟩) (n_mem2 (⟨_, q_FputF_of h.2.1 h.2.2.2.1 h.2.2.2.2.1 h.2.2.2.2.2.1 (Cn := RX11) (Tt := TX11) (ty := tyX11 4) rfl (by decide) n_u11 (tyX11_ok _ (by decide)) rfl hin rfl (h.2.2.2.2.1 _ n_w768), by decide +kernel⟩) (n_mem2 (⟨_, q_FputF_of h.2.1 h.2.2.2.1 h.2.2.2.2.1 h.2.2.2.2.2.1 (Cn := RX11) (Tt := TX11) (ty := tyX11 5) rfl (by decide) n_u11 (tyX11_ok _ (by decide)) rfl hin rfl (h.2.2.2.2.1 _ n_w770), by decide +kernel⟩) (n_mem2 (⟨_, q_FputF_of h.2.1 h.2.2.2.1 h.2.2.2.2.1 h.2.2.2.2.2.1 (Cn := RX11) (Tt := TX11) (ty := tyX11 6) rfl (by decide) n_u11 (tyX11_ok _ (by decide)) rfl hin rfl (h.2.2.2.2.1 _ n_w772), by decide +kernel⟩) (n_mem2 (⟨_, q_FputF_of h.2.1 h.2.2.2.1 h.2.2.2.2.1 h.2.2.2.2.2.1 (Cn := RX11) (Tt := TX11) (ty := tyX11 8) rfl (by decide) n_u11 (tyX11_ok _ (by decide)) rfl hin rfl (h.2.2.2.2.1 _ n_w776), by decide +kernel⟩) (n_mem2 (⟨_, q_Fput_of h.2.1 h.2.2.2.1 h.2.2.2.2.1 h.2.2.2.2.2.1 (Cn := RX11) (Tt := TX11) (ty := tyX11 2) rfl (by decide) n_u11 (tyX11_ok _ (by decide)) rfl (h.2.2.2.2.1 _ n_w764), by decide +kernel⟩) (n_mem2 (⟨_, q_Fput_of h.2.1 h.2.2.2.1 h.2.2.2.2.1 h.2.2.2.2.2.1 (Cn := RX11) (Tt := TX11) (ty := tyX11 7) rfl (by decide) n_u11 (tyX11_ok _ (by decide)) rfl (h.2.2.2.2.1 _ n_w774), by decide +kernel⟩) (n_mem2 (⟨_, q_Fput_of h.2.1 h.2.2.2.1 h.2.2.2.2.1 h.2.2.2.2.2.1 (Cn := RX11) (Tt := TX11) (ty := tyX11 9) rfl (by decide) n_u11 (tyX11_ok _ (by decide)) rfl (h.2.2.2.2.1 _ n_w778), by decide +kernel⟩) (n_mem2 (⟨_, q_Fput_of h.2.1 h.2.2.2.1 h.2.2.2.2.1 h.2.2.2.2.2.1 (Cn := RX11) (Tt := TX11) (ty := tyX11 10) rfl (by decide) n_u11 (tyX11_ok _ (by decide)) rfl (h.2.2.2.2.1 _ n_w780), by decide +kernel⟩) (n_mem2 (⟨_, q_Fput_of h.2.1 h.2.2.2.1 h.2.2.2.2.1 h.2.2.2.2.2.1 (Cn := RX11) (Tt := TX11) (ty := tyX11 11) rfl (by decide) n_u11 (tyX11_ok _ (by decide)) rfl (h.2.2.2.2.1 _ n_w782), by decide +kernel⟩) (n_mem2 (⟨_, q_Fput_of h.2.1 h.2.2.2.1 h.2.2.2.2.1 h.2.2.2.2.2.1 (Cn := RX11) (Tt := TX11) (ty := tyX11 12) rfl (by decide) n_u11 (tyX11_ok _ (by decide)) rfl (h.2.2.2.2.1 _ n_w784), by decide +kernel⟩) (n_mem2 (⟨_, q_Fput_of h.2.1 h.2.2.2.1 h.2.2.2.2.1 h.2.2.2.2.2.1 (Cn := RX11) (Tt := TX11) (ty := tyX11 13) rfl (by decide) n_u11 (tyX11_ok _ (by decide)) rfl (h.2.2.2.2.1 _ n_w786), by decide +kernel⟩) n_mem0))))))))))))))
theorem c_cn11 {C : qCx} {cc : ByteArray} {nL : Nat} {D : va_G} {tys : List (ClassId × FieldType)} (h : n_ctx C cc nL "BalanceCoderModel$Book" D tys) : ∀ x ∈ t_cn11, ∃ tyf : Nat → FieldType, q_Fnew C cc D x.1 x.2.1 x.2.2 tyf ∧ ∀ f, f < x.2.2 → q_ktf n_KT x.2.1 f (tyf f) = true := n_mem0
theorem c_n111 {C : qCx} {cc : ByteArray} {nL : Nat} {D : va_G} {tys : List (ClassId × FieldType)} (h : n_ctx C cc nL "BalanceCoderModel$Book" D tys) : ∀ a t, (q_aky a, t) ∈ t_na11 → ∃ cA ty, tys[t]? = some (cA, ty) ∧ q_Fna C cc (.newarray a) cA ty := by
  intro a t hm
  cases a
  · have ht : t = 2 := by simpa [t_na11, q_aky] using hm
    subst ht
    obtain ⟨cA, hcA⟩ := n_ty h.1 2 rfl
    exact ⟨cA, _, hcA, q_Fna_of h.2.1 h.2.2.2.2.2.1 hcA (h.2.2.2.2.1 _ n_w817)⟩
  · exact absurd hm (by simp [t_na11, q_aky])
  · exact absurd hm (by simp [t_na11, q_aky])
  · exact absurd hm (by simp [t_na11, q_aky])
  · exact absurd hm (by simp [t_na11, q_aky])
  · exact absurd hm (by simp [t_na11, q_aky])
  · have ht : t = 0 := by simpa [t_na11, q_aky] using hm
    subst ht
    obtain ⟨cA, hcA⟩ := n_ty h.1 0 rfl
    exact ⟨cA, _, hcA, q_Fna_of h.2.1 h.2.2.2.2.2.1 hcA (h.2.2.2.2.1 _ n_w81)⟩
  · exact absurd hm (by simp [t_na11, q_aky])
theorem c_n211 {C : qCx} {cc : ByteArray} {nL : Nat} {D : va_G} {tys : List (ClassId × FieldType)} (h : n_ctx C cc nL "BalanceCoderModel$Book" D tys) : ∀ i t, (100 + i, t) ∈ t_na11 → ∃ cA ty, tys[t]? = some (cA, ty) ∧ q_Fna C cc (.anewarray i) cA ty := by
  intro i t hm
  simp [t_na11] at hm
  try omega
theorem c_at11 {C : qCx} {cc : ByteArray} {nL : Nat} {D : va_G} {tys : List (ClassId × FieldType)} (h : n_ctx C cc nL "BalanceCoderModel$Book" D tys) : ∀ x ∈ t_at11, q_AR C.2.2.2.2.1 D tys x.1 x.2 := n_mem0
theorem c_kI11 {C : qCx} {cc : ByteArray} {nL : Nat} {D : va_G} {tys : List (ClassId × FieldType)} (h : n_ctx C cc nL "BalanceCoderModel$Book" D tys) : ∀ x ∈ t_kI11, ∃ v : Int32, v.toInt = x.2 ∧ q_Kld C cc (.ldc x.1) (.int v) := n_mem0
theorem c_kL11 {C : qCx} {cc : ByteArray} {nL : Nat} {D : va_G} {tys : List (ClassId × FieldType)} (h : n_ctx C cc nL "BalanceCoderModel$Book" D tys) : ∀ x ∈ t_kL11, ∃ v : Int64, v.toInt = x.2 ∧ q_Kld C cc (.ldc2_w x.1) (.long v) := n_mem0
theorem c_ob11 {C : qCx} {cc : ByteArray} {nL : Nat} {D : va_G} {tys : List (ClassId × FieldType)} (h : n_ctx C cc nL "BalanceCoderModel$Book" D tys) (hR : 1 ≤ C.2.2.2.1.frames ∧ 20 ≤ C.2.2.2.1.locals) : ∀ x ∈ t_ob11, q_Kob C cc nL x := (n_mem2 (q_Kob_of h.2.1 h.2.2.1 h.2.2.2.1 (h.2.2.2.2.1 _ n_w759) (h.2.2.2.2.1 _ n_w23) (h.2.2.2.2.1 _ n_w24) hR) n_mem0)
theorem c_cp11 {C : qCx} {cc : ByteArray} {nL : Nat} {D : va_G} {tys : List (ClassId × FieldType)} (h : n_ctx C cc nL "BalanceCoderModel$Book" D tys) : ∀ x ∈ t_cp11, q_Kcp C cc nL x := n_mem0
def t_fg12 : List (Nat × Nat × Nat) := [(10, 12, 0), (16, 12, 1), (19, 12, 5), (63, 12, 3), (73, 11, 2), (86, 11, 0), (89, 11, 1), (100, 11, 3), (103, 11, 4), (106, 11, 5), (110, 11, 6), (146, 11, 12), (149, 12, 9), (194, 11, 7), (197, 11, 8), (200, 11, 9), (204, 11, 10), (218, 12, 22), (265, 11, 13), (268, 12, 4), (275, 12, 2)]
def t_fp12 : List (Nat × Nat × Nat) := [(63, 12, 3), (73, 11, 2), (149, 12, 9), (194, 11, 7), (200, 11, 9), (204, 11, 10), (218, 12, 22), (268, 12, 4), (275, 12, 2)]
def t_fi12 : List (Nat × Nat × Nat) := [(10, 12, 0), (16, 12, 1), (19, 12, 5), (23, 12, 6), (26, 12, 7), (29, 12, 8), (32, 12, 11), (35, 12, 14), (38, 12, 15), (41, 12, 16), (45, 12, 17), (48, 12, 19), (51, 12, 21), (54, 12, 28), (57, 12, 29), (60, 12, 30), (63, 12, 3), (73, 11, 2), (149, 12, 9), (194, 11, 7), (200, 11, 9), (204, 11, 10), (218, 12, 22), (268, 12, 4), (275, 12, 2)]
def t_cn12 : List (Nat × Nat × Nat) := [(7, 11, 14)]
def t_na12 : List (Nat × Nat) := [(10, 0), (11, 1)]
def t_at12 : List (Nat × Nat) := []
def t_kI12 : List (Nat × Int) := []
def t_kL12 : List (Nat × Int) := [(67, 5), (80, 8), (92, 255), (94, (-1)), (96, 4), (98, 12), (257, (-400))]
def t_ob12 : List Nat := [1]
def t_cp12 : List Nat := []
theorem c_fg12 {C : qCx} {cc : ByteArray} {nL : Nat} {D : va_G} {tys : List (ClassId × FieldType)} (h : n_ctx C cc nL "BalanceCoderModel" D tys) : ∀ x ∈ t_fg12, q_Fget C cc D x.1 x.2.1 x.2.2 := (n_mem2 (q_Fget_of h.2.1 h.2.2.2.1 h.2.2.2.2.1 h.2.2.2.2.2.1 (Cn := RX12) (Tt := TX12) rfl (by decide) n_u12 (h.2.2.2.2.1 _ n_w818)) (n_mem2 (q_Fget_of h.2.1 h.2.2.2.1 h.2.2.2.2.1 h.2.2.2.2.2.1 (Cn := RX12) (Tt := TX12) rfl (by decide) n_u12 (h.2.2.2.2.1 _ n_w819)) (n_mem2 (q_Fget_of h.2.1 h.2.2.2.1 h.2.2.2.2.1 h.2.2.2.2.2.1 (Cn := RX12) (Tt := TX12) rfl (by decide) n_u12 (h.2.2.2.2.1 _ n_w823)) (n_mem2 (q_Fget_of h.2.1 h.2.2.2.1 h.2.2.2.2.1 h.2.2.2.2.2.1 (Cn := RX12) (Tt := TX12) rfl (by decide) n_u12 (h.2.2.2.2.1 _ n_w821)) (n_mem2 (q_Fget_of h.2.1 h.2.2.2.1 h.2.2.2.2.1 h.2.2.2.2.2.1 (Cn := RX11) (Tt := TX11) rfl (by decide) n_u11 (h.2.2.2.2.1 _ n_w765)) (n_mem2 (q_Fget_of h.2.1 h.2.2.2.1 h.2.2.2.2.1 h.2.2.2.2.2.1 (Cn := RX11) (Tt := TX11) rfl (by decide) n_u11 (h.2.2.2.2.1 _ n_w761)) (n_mem2 (q_Fget_of h.2.1 h.2.2.2.1 h.2.2.2.2.1 h.2.2.2.2.2.1 (Cn := RX11) (Tt := TX11) rfl (by decide) n_u11 (h.2.2.2.2.1 _ n_w763)) (n_mem2 (q_Fget_of h.2.1 h.2.2.2.1 h.2.2.2.2.1 h.2.2.2.2.2.1 (Cn := RX11) (Tt := TX11) rfl (by decide) n_u11 (h.2.2.2.2.1 _ n_w767)) (n_mem2 (q_Fget_of h.2.1 h.2.2.2.1 h.2.2.2.2.1 h.2.2.2.2.2.1 (Cn := RX11) (Tt := TX11) rfl (by decide) n_u11 (h.2.2.2.2.1 _ n_w769)) (n_mem2 (q_Fget_of h.2.1 h.2.2.2.1 h.2.2.2.2.1 h.2.2.2.2.2.1 (Cn := RX11) (Tt := TX11) rfl (by decide) n_u11 (h.2.2.2.2.1 _ n_w771)) (n_mem2 (q_Fget_of h.2.1 h.2.2.2.1 h.2.2.2.2.1 h.2.2.2.2.2.1 (Cn := RX11) (Tt := TX11) rfl (by decide) n_u11 (h.2.2.2.2.1 _ n_w773)) (n_mem2 (q_Fget_of h.2.1 h.2.2.2.1 h.2.2.2.2.1 h.2.2.2.2.2.1 (Cn := RX11) (Tt := TX11) rfl (by decide) n_u11 (h.2.2.2.2.1 _ n_w785)) (n_mem2 (q_Fget_of h.2.1 h.2.2.2.1 h.2.2.2.2.1 h.2.2.2.2.2.1 (Cn := RX12) (Tt := TX12) rfl (by decide) n_u12 (h.2.2.2.2.1 _ n_w827)) (n_mem2 (q_Fget_of h.2.1 h.2.2.2.1 h.2.2.2.2.1 h.2.2.2.2.2.1 (Cn := RX11) (Tt := TX11) rfl (by decide) n_u11 (h.2.2.2.2.1 _ n_w775)) (n_mem2 (q_Fget_of h.2.1 h.2.2.2.1 h.2.2.2.2.1 h.2.2.2.2.2.1 (Cn := RX11) (Tt := TX11) rfl (by decide) n_u11 (h.2.2.2.2.1 _ n_w777)) (n_mem2 (q_Fget_of h.2.1 h.2.2.2.1 h.2.2.2.2.1 h.2.2.2.2.2.1 (Cn := RX11) (Tt := TX11) rfl (by decide) n_u11 (h.2.2.2.2.1 _ n_w779)) (n_mem2 (q_Fget_of h.2.1 h.2.2.2.1 h.2.2.2.2.1 h.2.2.2.2.2.1 (Cn := RX11) (Tt := TX11) rfl (by decide) n_u11 (h.2.2.2.2.1 _ n_w781)) (n_mem2 (q_Fget_of h.2.1 h.2.2.2.1 h.2.2.2.2.1 h.2.2.2.2.2.1 (Cn := RX12) (Tt := TX12) rfl (by decide) n_u12 (h.2.2.2.2.1 _ n_w840)) (n_mem2 (q_Fget_of h.2.1 h.2.2.2.1 h.2.2.2.2.1 h.2.2.2.2.2.1 (Cn := RX11) (Tt := TX11) rfl (by decide) n_u11 (h.2.2.2.2.1 _ n_w787)) (n_mem2 (q_Fget_of h.2.1 h.2.2.2.1 h.2.2.2.2.1 h.2.2.2.2.2.1 (Cn := RX12) (Tt := TX12) rfl (by decide) n_u12 (h.2.2.2.2.1 _ n_w822)) (n_mem2 (q_Fget_of h.2.1 h.2.2.2.1 h.2.2.2.2.1 h.2.2.2.2.2.1 (Cn := RX12) (Tt := TX12) rfl (by decide) n_u12 (h.2.2.2.2.1 _ n_w820)) n_mem0)))))))))))))))))))))
theorem c_fp12 {C : qCx} {cc : ByteArray} {nL : Nat} {D : va_G} {tys : List (ClassId × FieldType)} (h : n_ctx C cc nL "BalanceCoderModel" D tys) : ∀ x ∈ t_fp12, ∃ ty, q_Fput C cc D x.1 x.2.1 x.2.2 ty ∧ q_ktf n_KT x.2.1 x.2.2 ty = true := (n_mem2 (⟨_, q_Fput_of h.2.1 h.2.2.2.1 h.2.2.2.2.1 h.2.2.2.2.2.1 (Cn := RX12) (Tt := TX12) (ty := tyX12 3) rfl (by decide) n_u12 (tyX12_ok _ (by decide)) rfl (h.2.2.2.2.1 _ n_w821), by decide +kernel⟩) (n_mem2 (⟨_, q_Fput_of h.2.1 h.2.2.2.1 h.2.2.2.2.1 h.2.2.2.2.2.1 (Cn := RX11) (Tt := TX11) (ty := tyX11 2) rfl (by decide) n_u11 (tyX11_ok _ (by decide)) rfl (h.2.2.2.2.1 _ n_w765), by decide +kernel⟩) (n_mem2 (⟨_, q_Fput_of h.2.1 h.2.2.2.1 h.2.2.2.2.1 h.2.2.2.2.2.1 (Cn := RX12) (Tt := TX12) (ty := tyX12 9) rfl (by decide) n_u12 (tyX12_ok _ (by decide)) rfl (h.2.2.2.2.1 _ n_w827), by decide +kernel⟩) (n_mem2 (⟨_, q_Fput_of h.2.1 h.2.2.2.1 h.2.2.2.2.1 h.2.2.2.2.2.1 (Cn := RX11) (Tt := TX11) (ty := tyX11 7) rfl (by decide) n_u11 (tyX11_ok _ (by decide)) rfl (h.2.2.2.2.1 _ n_w775), by decide +kernel⟩) (n_mem2 (⟨_, q_Fput_of h.2.1 h.2.2.2.1 h.2.2.2.2.1 h.2.2.2.2.2.1 (Cn := RX11) (Tt := TX11) (ty := tyX11 9) rfl (by decide) n_u11 (tyX11_ok _ (by decide)) rfl (h.2.2.2.2.1 _ n_w779), by decide +kernel⟩) (n_mem2 (⟨_, q_Fput_of h.2.1 h.2.2.2.1 h.2.2.2.2.1 h.2.2.2.2.2.1 (Cn := RX11) (Tt := TX11) (ty := tyX11 10) rfl (by decide) n_u11 (tyX11_ok _ (by decide)) rfl (h.2.2.2.2.1 _ n_w781), by decide +kernel⟩) (n_mem2 (⟨_, q_Fput_of h.2.1 h.2.2.2.1 h.2.2.2.2.1 h.2.2.2.2.2.1 (Cn := RX12) (Tt := TX12) (ty := tyX12 22) rfl (by decide) n_u12 (tyX12_ok _ (by decide)) rfl (h.2.2.2.2.1 _ n_w840), by decide +kernel⟩) (n_mem2 (⟨_, q_Fput_of h.2.1 h.2.2.2.1 h.2.2.2.2.1 h.2.2.2.2.2.1 (Cn := RX12) (Tt := TX12) (ty := tyX12 4) rfl (by decide) n_u12 (tyX12_ok _ (by decide)) rfl (h.2.2.2.2.1 _ n_w822), by decide +kernel⟩) (n_mem2 (⟨_, q_Fput_of h.2.1 h.2.2.2.1 h.2.2.2.2.1 h.2.2.2.2.2.1 (Cn := RX12) (Tt := TX12) (ty := tyX12 2) rfl (by decide) n_u12 (tyX12_ok _ (by decide)) rfl (h.2.2.2.2.1 _ n_w820), by decide +kernel⟩) n_mem0)))))))))
theorem c_fi12 {C : qCx} {cc : ByteArray} {nL : Nat} {D : va_G} {tys : List (ClassId × FieldType)} (h : n_ctx C cc nL "BalanceCoderModel" D tys) (hin : C.2.2.2.2.2.2.2.2.1.name = "<init>") : ∀ x ∈ t_fi12, ∃ ty, q_Fput C cc D x.1 x.2.1 x.2.2 ty ∧ q_ktf n_KT x.2.1 x.2.2 ty = true := (n_mem2 (⟨_, q_FputF_of h.2.1 h.2.2.2.1 h.2.2.2.2.1 h.2.2.2.2.2.1 (Cn := RX12) (Tt := TX12) (ty := tyX12 0) rfl (by decide) n_u12 (tyX12_ok _ (by decide)) rfl hin rfl (h.2.2.2.2.1 _ n_w818), by decide +kernel⟩) (n_mem2 (⟨_, q_FputF_of h.2.1 h.2.2.2.1 h.2.2.2.2.1 h.2.2.2.2.2.1 (Cn := RX12) (Tt := TX12) (ty := tyX12 1) rfl (by decide) n_u12 (tyX12_ok _ (by decide)) rfl hin rfl (h.2.2.2.2.1 _ n_w819), by decide +kernel⟩) (n_mem2 (⟨_, q_FputF_of h.2.1 h.2.2.2.1 h.2.2.2.2.1 h.2.2.2.2.2.1 (Cn := RX12) (Tt := TX12) (ty := tyX12 5) rfl (by decide) n_u12 (tyX12_ok _ (by decide)) rfl hin rfl (h.2.2.2.2.1 _ n_w823), by decide +kernel⟩) (n_mem2 (⟨_, q_FputF_of h.2.1 h.2.2.2.1 h.2.2.2.2.1 h.2.2.2.2.2.1 (Cn := RX12) (Tt := TX12) (ty := tyX12 6) rfl (by decide) n_u12 (tyX12_ok _ (by decide)) rfl hin rfl (h.2.2.2.2.1 _ n_w824), by decide +kernel⟩) (n_mem2 (⟨_, q_FputF_of h.2.1 h.2.2.2.1 h.2.2.2.2.1 h.2.2.2.2.2.1 (Cn := RX12) (Tt := TX12) (ty := tyX12 7) rfl (by decide) n_u12 (tyX12_ok _ (by decide)) rfl hin rfl (h.2.2.2.2.1 _ n_w825), by decide +kernel⟩) (n_mem2 (⟨_, q_FputF_of h.2.1 h.2.2.2.1 h.2.2.2.2.1 h.2.2.2.2.2.1 (Cn := RX12) (Tt := TX12) (ty := tyX12 8) rfl (by decide) n_u12 (tyX12_ok _ (by decide)) rfl hin rfl (h.2.2.2.2.1 _ n_w826), by decide +kernel⟩) (n_mem2 (⟨_, q_FputF_of h.2.1 h.2.2.2.1 h.2.2.2.2.1 h.2.2.2.2.2.1 (Cn := RX12) (Tt := TX12) (ty := tyX12 11) rfl (by decide) n_u12 (tyX12_ok _ (by decide)) rfl hin rfl (h.2.2.2.2.1 _ n_w829), by decide +kernel⟩) (n_mem2 (⟨_, q_FputF_of h.2.1 h.2.2.2.1 h.2.2.2.2.1 h.2.2.2.2.2.1 (Cn := RX12) (Tt := TX12) (ty := tyX12 14) rfl (by decide) n_u12 (tyX12_ok _ (by decide)) rfl hin rfl (h.2.2.2.2.1 _ n_w832), by decide +kernel⟩) (n_mem2 (⟨_, q_FputF_of h.2.1 h.2.2.2.1 h.2.2.2.2.1 h.2.2.2.2.2.1 (Cn := RX12) (Tt := TX12) (ty := tyX12 15) rfl (by decide) n_u12 (tyX12_ok _ (by decide)) rfl hin rfl (h.2.2.2.2.1 _ n_w833), by decide +kernel⟩) (n_mem2 (⟨_, q_FputF_of h.2.1 h.2.2.2.1 h.2.2.2.2.1 h.2.2.2.2.2.1 (Cn := RX12) (Tt := TX12) (ty := tyX12 16) rfl (by decide) n_u12 (tyX12_ok _ (by decide)) rfl hin rfl (h.2.2.2.2.1 _ n_w834), by decide +kernel⟩) (n_mem2 (⟨_, q_FputF_of h.2.1 h.2.2.2.1 h.2.2.2.2.1 h.2.2.2.2.2.1 (Cn := RX12) (Tt := TX12) (ty := tyX12 17) rfl (by decide) n_u12 (tyX12_ok _ (by decide)) rfl hin rfl (h.2.2.2.2.1 _ n_w835), by decide +kernel⟩) (n_mem2 (⟨_, q_FputF_of h.2.1 h.2.2.2.1 h.2.2.2.2.1 h.2.2.2.2.2.1 (Cn := RX12) (Tt := TX12) (ty := tyX12 19) rfl (by decide) n_u12 (tyX12_ok _ (by decide)) rfl hin rfl (h.2.2.2.2.1 _ n_w837), by decide +kernel⟩) (n_mem2 (⟨_, q_FputF_of h.2.1 h.2.2.2.1 h.2.2.2.2.1 h.2.2.2.2.2.1 (Cn := RX12) (Tt := TX12) (ty := tyX12 21) rfl (by decide) n_u12 (tyX12_ok _ (by decide)) rfl hin rfl (h.2.2.2.2.1 _ n_w839), by decide +kernel⟩) (n_mem2 (⟨_, q_FputF_of h.2.1 h.2.2.2.1 h.2.2.2.2.1 h.2.2.2.2.2.1 (Cn := RX12) (Tt := TX12) (ty := tyX12 28) rfl (by decide) n_u12 (tyX12_ok _ (by decide)) rfl hin rfl (h.2.2.2.2.1 _ n_w846), by decide +kernel⟩) (n_mem2 (⟨_, q_FputF_of h.2.1 h.2.2.2.1 h.2.2.2.2.1 h.2.2.2.2.2.1 (Cn := RX12) (Tt := TX12) (ty := tyX12 29) rfl (by decide) n_u12 (tyX12_ok _ (by decide)) rfl hin rfl (h.2.2.2.2.1 _ n_w847), by decide +kernel⟩) (n_mem2 (⟨_, q_FputF_of h.2.1 h.2.2.2.1 h.2.2.2.2.1 h.2.2.2.2.2.1 (Cn := RX12) (Tt := TX12) (ty := tyX12 30) rfl (by decide) n_u12 (tyX12_ok _ (by decide)) rfl hin rfl (h.2.2.2.2.1 _ n_w848), by decide +kernel⟩) (n_mem2 (⟨_, q_Fput_of h.2.1 h.2.2.2.1 h.2.2.2.2.1 h.2.2.2.2.2.1 (Cn := RX12) (Tt := TX12) (ty := tyX12 3) rfl (by decide) n_u12 (tyX12_ok _ (by decide)) rfl (h.2.2.2.2.1 _ n_w821), by decide +kernel⟩) (n_mem2 (⟨_, q_Fput_of h.2.1 h.2.2.2.1 h.2.2.2.2.1 h.2.2.2.2.2.1 (Cn := RX11) (Tt := TX11) (ty := tyX11 2) rfl (by decide) n_u11 (tyX11_ok _ (by decide)) rfl (h.2.2.2.2.1 _ n_w765), by decide +kernel⟩) (n_mem2 (⟨_, q_Fput_of h.2.1 h.2.2.2.1 h.2.2.2.2.1 h.2.2.2.2.2.1 (Cn := RX12) (Tt := TX12) (ty := tyX12 9) rfl (by decide) n_u12 (tyX12_ok _ (by decide)) rfl (h.2.2.2.2.1 _ n_w827), by decide +kernel⟩) (n_mem2 (⟨_, q_Fput_of h.2.1 h.2.2.2.1 h.2.2.2.2.1 h.2.2.2.2.2.1 (Cn := RX11) (Tt := TX11) (ty := tyX11 7) rfl (by decide) n_u11 (tyX11_ok _ (by decide)) rfl (h.2.2.2.2.1 _ n_w775), by decide +kernel⟩) (n_mem2 (⟨_, q_Fput_of h.2.1 h.2.2.2.1 h.2.2.2.2.1 h.2.2.2.2.2.1 (Cn := RX11) (Tt := TX11) (ty := tyX11 9) rfl (by decide) n_u11 (tyX11_ok _ (by decide)) rfl (h.2.2.2.2.1 _ n_w779), by decide +kernel⟩) (n_mem2 (⟨_, q_Fput_of h.2.1 h.2.2.2.1 h.2.2.2.2.1 h.2.2.2.2.2.1 (Cn := RX11) (Tt := TX11) (ty := tyX11 10) rfl (by decide) n_u11 (tyX11_ok _ (by decide)) rfl (h.2.2.2.2.1 _ n_w781), by decide +kernel⟩) (n_mem2 (⟨_, q_Fput_of h.2.1 h.2.2.2.1 h.2.2.2.2.1 h.2.2.2.2.2.1 (Cn := RX12) (Tt := TX12) (ty := tyX12 22) rfl (by decide) n_u12 (tyX12_ok _ (by decide)) rfl (h.2.2.2.2.1 _ n_w840), by decide +kernel⟩) (n_mem2 (⟨_, q_Fput_of h.2.1 h.2.2.2.1 h.2.2.2.2.1 h.2.2.2.2.2.1 (Cn := RX12) (Tt := TX12) (ty := tyX12 4) rfl (by decide) n_u12 (tyX12_ok _ (by decide)) rfl (h.2.2.2.2.1 _ n_w822), by decide +kernel⟩) (n_mem2 (⟨_, q_Fput_of h.2.1 h.2.2.2.1 h.2.2.2.2.1 h.2.2.2.2.2.1 (Cn := RX12) (Tt := TX12) (ty := tyX12 2) rfl (by decide) n_u12 (tyX12_ok _ (by decide)) rfl (h.2.2.2.2.1 _ n_w820), by decide +kernel⟩) n_mem0)))))))))))))))))))))))))
theorem c_cn12 {C : qCx} {cc : ByteArray} {nL : Nat} {D : va_G} {tys : List (ClassId × FieldType)} (h : n_ctx C cc nL "BalanceCoderModel" D tys) : ∀ x ∈ t_cn12, ∃ tyf : Nat → FieldType, q_Fnew C cc D x.1 x.2.1 x.2.2 tyf ∧ ∀ f, f < x.2.2 → q_ktf n_KT x.2.1 f (tyf f) = true := (n_mem2 (⟨tyX11, q_Fnew_of h.2.1 h.2.2.2.1 h.2.2.2.2.1 h.2.2.2.2.2.1 (Cn := RX11) (Tt := TX11) rfl n_u11 tyX11_ok (h.2.2.2.2.1 _ n_w754) (h.2.2.2.2.1 _ n_w755) (h.2.2.2.2.1 _ n_w13), by decide +kernel⟩) n_mem0)
theorem c_n112 {C : qCx} {cc : ByteArray} {nL : Nat} {D : va_G} {tys : List (ClassId × FieldType)} (h : n_ctx C cc nL "BalanceCoderModel" D tys) : ∀ a t, (q_aky a, t) ∈ t_na12 → ∃ cA ty, tys[t]? = some (cA, ty) ∧ q_Fna C cc (.newarray a) cA ty := by
  intro a t hm
  cases a
  · exact absurd hm (by simp [t_na12, q_aky])
  · exact absurd hm (by simp [t_na12, q_aky])
  · exact absurd hm (by simp [t_na12, q_aky])
  · exact absurd hm (by simp [t_na12, q_aky])
  · exact absurd hm (by simp [t_na12, q_aky])
  · exact absurd hm (by simp [t_na12, q_aky])
  · have ht : t = 0 := by simpa [t_na12, q_aky] using hm
    subst ht
    obtain ⟨cA, hcA⟩ := n_ty h.1 0 rfl
    exact ⟨cA, _, hcA, q_Fna_of h.2.1 h.2.2.2.2.2.1 hcA (h.2.2.2.2.1 _ n_w81)⟩
  · have ht : t = 1 := by simpa [t_na12, q_aky] using hm
    subst ht
    obtain ⟨cA, hcA⟩ := n_ty h.1 1 rfl
    exact ⟨cA, _, hcA, q_Fna_of h.2.1 h.2.2.2.2.2.1 hcA (h.2.2.2.2.1 _ n_w912)⟩
theorem c_n212 {C : qCx} {cc : ByteArray} {nL : Nat} {D : va_G} {tys : List (ClassId × FieldType)} (h : n_ctx C cc nL "BalanceCoderModel" D tys) : ∀ i t, (100 + i, t) ∈ t_na12 → ∃ cA ty, tys[t]? = some (cA, ty) ∧ q_Fna C cc (.anewarray i) cA ty := by
  intro i t hm
  simp [t_na12] at hm
  try omega
theorem c_at12 {C : qCx} {cc : ByteArray} {nL : Nat} {D : va_G} {tys : List (ClassId × FieldType)} (h : n_ctx C cc nL "BalanceCoderModel" D tys) : ∀ x ∈ t_at12, q_AR C.2.2.2.2.1 D tys x.1 x.2 := n_mem0
theorem c_kI12 {C : qCx} {cc : ByteArray} {nL : Nat} {D : va_G} {tys : List (ClassId × FieldType)} (h : n_ctx C cc nL "BalanceCoderModel" D tys) : ∀ x ∈ t_kI12, ∃ v : Int32, v.toInt = x.2 ∧ q_Kld C cc (.ldc x.1) (.int v) := n_mem0
theorem c_kL12 {C : qCx} {cc : ByteArray} {nL : Nat} {D : va_G} {tys : List (ClassId × FieldType)} (h : n_ctx C cc nL "BalanceCoderModel" D tys) : ∀ x ∈ t_kL12, ∃ v : Int64, v.toInt = x.2 ∧ q_Kld C cc (.ldc2_w x.1) (.long v) := (n_mem2 (⟨5, rfl, q_Kl2_of h.2.1 h.2.2.2.1 (h.2.2.2.2.1 _ n_w920)⟩) (n_mem2 (⟨8, rfl, q_Kl2_of h.2.1 h.2.2.2.1 (h.2.2.2.2.1 _ n_w924)⟩) (n_mem2 (⟨255, rfl, q_Kl2_of h.2.1 h.2.2.2.1 (h.2.2.2.2.1 _ n_w929)⟩) (n_mem2 (⟨(-1), rfl, q_Kl2_of h.2.1 h.2.2.2.1 (h.2.2.2.2.1 _ n_w938)⟩) (n_mem2 (⟨4, rfl, q_Kl2_of h.2.1 h.2.2.2.1 (h.2.2.2.2.1 _ n_w947)⟩) (n_mem2 (⟨12, rfl, q_Kl2_of h.2.1 h.2.2.2.1 (h.2.2.2.2.1 _ n_w948)⟩) (n_mem2 (⟨(-400), rfl, q_Kl2_of h.2.1 h.2.2.2.1 (h.2.2.2.2.1 _ n_w1096)⟩) n_mem0)))))))
theorem c_ob12 {C : qCx} {cc : ByteArray} {nL : Nat} {D : va_G} {tys : List (ClassId × FieldType)} (h : n_ctx C cc nL "BalanceCoderModel" D tys) (hR : 1 ≤ C.2.2.2.1.frames ∧ 20 ≤ C.2.2.2.1.locals) : ∀ x ∈ t_ob12, q_Kob C cc nL x := (n_mem2 (q_Kob_of h.2.1 h.2.2.1 h.2.2.2.1 (h.2.2.2.2.1 _ n_w753) (h.2.2.2.2.1 _ n_w23) (h.2.2.2.2.1 _ n_w24) hR) n_mem0)
theorem c_cp12 {C : qCx} {cc : ByteArray} {nL : Nat} {D : va_G} {tys : List (ClassId × FieldType)} (h : n_ctx C cc nL "BalanceCoderModel" D tys) : ∀ x ∈ t_cp12, q_Kcp C cc nL x := n_mem0
def t_fgA : List (Nat × Nat × Nat) := []
def t_fpA : List (Nat × Nat × Nat) := []
def t_fiA : List (Nat × Nat × Nat) := []
def t_cnA : List (Nat × Nat × Nat) := []
def t_naA : List (Nat × Nat) := []
def t_atA : List (Nat × Nat) := []
def t_kIA : List (Nat × Int) := []
def t_kLA : List (Nat × Int) := []
def t_obA : List Nat := []
def t_cpA : List Nat := []
theorem c_fgA {C : qCx} {cc : ByteArray} {nL : Nat} {D : va_G} {tys : List (ClassId × FieldType)} (h : n_ctx C cc nL "java/util/Arrays" D tys) : ∀ x ∈ t_fgA, q_Fget C cc D x.1 x.2.1 x.2.2 := n_mem0
theorem c_fpA {C : qCx} {cc : ByteArray} {nL : Nat} {D : va_G} {tys : List (ClassId × FieldType)} (h : n_ctx C cc nL "java/util/Arrays" D tys) : ∀ x ∈ t_fpA, ∃ ty, q_Fput C cc D x.1 x.2.1 x.2.2 ty ∧ q_ktf n_KT x.2.1 x.2.2 ty = true := n_mem0
theorem c_fiA {C : qCx} {cc : ByteArray} {nL : Nat} {D : va_G} {tys : List (ClassId × FieldType)} (h : n_ctx C cc nL "java/util/Arrays" D tys) (hin : C.2.2.2.2.2.2.2.2.1.name = "<init>") : ∀ x ∈ t_fiA, ∃ ty, q_Fput C cc D x.1 x.2.1 x.2.2 ty ∧ q_ktf n_KT x.2.1 x.2.2 ty = true := n_mem0
theorem c_cnA {C : qCx} {cc : ByteArray} {nL : Nat} {D : va_G} {tys : List (ClassId × FieldType)} (h : n_ctx C cc nL "java/util/Arrays" D tys) : ∀ x ∈ t_cnA, ∃ tyf : Nat → FieldType, q_Fnew C cc D x.1 x.2.1 x.2.2 tyf ∧ ∀ f, f < x.2.2 → q_ktf n_KT x.2.1 f (tyf f) = true := n_mem0
theorem c_n1A {C : qCx} {cc : ByteArray} {nL : Nat} {D : va_G} {tys : List (ClassId × FieldType)} (h : n_ctx C cc nL "java/util/Arrays" D tys) : ∀ a t, (q_aky a, t) ∈ t_naA → ∃ cA ty, tys[t]? = some (cA, ty) ∧ q_Fna C cc (.newarray a) cA ty := by
  intro a t hm
  cases a
  · exact absurd hm (by simp [t_naA, q_aky])
  · exact absurd hm (by simp [t_naA, q_aky])
  · exact absurd hm (by simp [t_naA, q_aky])
  · exact absurd hm (by simp [t_naA, q_aky])
  · exact absurd hm (by simp [t_naA, q_aky])
  · exact absurd hm (by simp [t_naA, q_aky])
  · exact absurd hm (by simp [t_naA, q_aky])
  · exact absurd hm (by simp [t_naA, q_aky])
theorem c_n2A {C : qCx} {cc : ByteArray} {nL : Nat} {D : va_G} {tys : List (ClassId × FieldType)} (h : n_ctx C cc nL "java/util/Arrays" D tys) : ∀ i t, (100 + i, t) ∈ t_naA → ∃ cA ty, tys[t]? = some (cA, ty) ∧ q_Fna C cc (.anewarray i) cA ty := by
  intro i t hm
  simp [t_naA] at hm
  try omega
theorem c_atA {C : qCx} {cc : ByteArray} {nL : Nat} {D : va_G} {tys : List (ClassId × FieldType)} (h : n_ctx C cc nL "java/util/Arrays" D tys) : ∀ x ∈ t_atA, q_AR C.2.2.2.2.1 D tys x.1 x.2 := n_mem0
theorem c_kIA {C : qCx} {cc : ByteArray} {nL : Nat} {D : va_G} {tys : List (ClassId × FieldType)} (h : n_ctx C cc nL "java/util/Arrays" D tys) : ∀ x ∈ t_kIA, ∃ v : Int32, v.toInt = x.2 ∧ q_Kld C cc (.ldc x.1) (.int v) := n_mem0
theorem c_kLA {C : qCx} {cc : ByteArray} {nL : Nat} {D : va_G} {tys : List (ClassId × FieldType)} (h : n_ctx C cc nL "java/util/Arrays" D tys) : ∀ x ∈ t_kLA, ∃ v : Int64, v.toInt = x.2 ∧ q_Kld C cc (.ldc2_w x.1) (.long v) := n_mem0
theorem c_obA {C : qCx} {cc : ByteArray} {nL : Nat} {D : va_G} {tys : List (ClassId × FieldType)} (h : n_ctx C cc nL "java/util/Arrays" D tys) (hR : 1 ≤ C.2.2.2.1.frames ∧ 20 ≤ C.2.2.2.1.locals) : ∀ x ∈ t_obA, q_Kob C cc nL x := n_mem0
theorem c_cpA {C : qCx} {cc : ByteArray} {nL : Nat} {D : va_G} {tys : List (ClassId × FieldType)} (h : n_ctx C cc nL "java/util/Arrays" D tys) : ∀ x ∈ t_cpA, q_Kcp C cc nL x := n_mem0
def t_fgL : List (Nat × Nat × Nat) := []
def t_fpL : List (Nat × Nat × Nat) := []
def t_fiL : List (Nat × Nat × Nat) := []
def t_cnL : List (Nat × Nat × Nat) := [(7, 10, 8), (10, 12, 31)]
def t_naL : List (Nat × Nat) := []
def t_atL : List (Nat × Nat) := []
def t_kIL : List (Nat × Int) := []
def t_kLL : List (Nat × Int) := [(13, 4294967295)]
def t_obL : List Nat := []
def t_cpL : List Nat := []
theorem c_fgL {C : qCx} {cc : ByteArray} {nL : Nat} {D : va_G} {tys : List (ClassId × FieldType)} (h : n_ctx C cc nL "BalanceCoderLaw" D tys) : ∀ x ∈ t_fgL, q_Fget C cc D x.1 x.2.1 x.2.2 := n_mem0
theorem c_fpL {C : qCx} {cc : ByteArray} {nL : Nat} {D : va_G} {tys : List (ClassId × FieldType)} (h : n_ctx C cc nL "BalanceCoderLaw" D tys) : ∀ x ∈ t_fpL, ∃ ty, q_Fput C cc D x.1 x.2.1 x.2.2 ty ∧ q_ktf n_KT x.2.1 x.2.2 ty = true := n_mem0
theorem c_fiL {C : qCx} {cc : ByteArray} {nL : Nat} {D : va_G} {tys : List (ClassId × FieldType)} (h : n_ctx C cc nL "BalanceCoderLaw" D tys) (hin : C.2.2.2.2.2.2.2.2.1.name = "<init>") : ∀ x ∈ t_fiL, ∃ ty, q_Fput C cc D x.1 x.2.1 x.2.2 ty ∧ q_ktf n_KT x.2.1 x.2.2 ty = true := n_mem0
theorem c_cnL {C : qCx} {cc : ByteArray} {nL : Nat} {D : va_G} {tys : List (ClassId × FieldType)} (h : n_ctx C cc nL "BalanceCoderLaw" D tys) : ∀ x ∈ t_cnL, ∃ tyf : Nat → FieldType, q_Fnew C cc D x.1 x.2.1 x.2.2 tyf ∧ ∀ f, f < x.2.2 → q_ktf n_KT x.2.1 f (tyf f) = true := (n_mem2 (⟨tyX10, q_Fnew_of h.2.1 h.2.2.2.1 h.2.2.2.2.1 h.2.2.2.2.2.1 (Cn := RX10) (Tt := TX10) rfl n_u10 tyX10_ok (h.2.2.2.2.1 _ n_w17) (h.2.2.2.2.1 _ n_w18) (h.2.2.2.2.1 _ n_w1), by decide +kernel⟩) (n_mem2 (⟨tyX12, q_Fnew_of h.2.1 h.2.2.2.1 h.2.2.2.2.1 h.2.2.2.2.2.1 (Cn := RX12) (Tt := TX12) rfl n_u12 tyX12_ok (h.2.2.2.2.1 _ n_w748) (h.2.2.2.2.1 _ n_w749) (h.2.2.2.2.1 _ n_w12), by decide +kernel⟩) n_mem0))
theorem c_n1L {C : qCx} {cc : ByteArray} {nL : Nat} {D : va_G} {tys : List (ClassId × FieldType)} (h : n_ctx C cc nL "BalanceCoderLaw" D tys) : ∀ a t, (q_aky a, t) ∈ t_naL → ∃ cA ty, tys[t]? = some (cA, ty) ∧ q_Fna C cc (.newarray a) cA ty := by
  intro a t hm
  cases a
  · exact absurd hm (by simp [t_naL, q_aky])
  · exact absurd hm (by simp [t_naL, q_aky])
  · exact absurd hm (by simp [t_naL, q_aky])
  · exact absurd hm (by simp [t_naL, q_aky])
  · exact absurd hm (by simp [t_naL, q_aky])
  · exact absurd hm (by simp [t_naL, q_aky])
  · exact absurd hm (by simp [t_naL, q_aky])
  · exact absurd hm (by simp [t_naL, q_aky])
theorem c_n2L {C : qCx} {cc : ByteArray} {nL : Nat} {D : va_G} {tys : List (ClassId × FieldType)} (h : n_ctx C cc nL "BalanceCoderLaw" D tys) : ∀ i t, (100 + i, t) ∈ t_naL → ∃ cA ty, tys[t]? = some (cA, ty) ∧ q_Fna C cc (.anewarray i) cA ty := by
  intro i t hm
  simp [t_naL] at hm
  try omega
theorem c_atL {C : qCx} {cc : ByteArray} {nL : Nat} {D : va_G} {tys : List (ClassId × FieldType)} (h : n_ctx C cc nL "BalanceCoderLaw" D tys) : ∀ x ∈ t_atL, q_AR C.2.2.2.2.1 D tys x.1 x.2 := n_mem0
theorem c_kIL {C : qCx} {cc : ByteArray} {nL : Nat} {D : va_G} {tys : List (ClassId × FieldType)} (h : n_ctx C cc nL "BalanceCoderLaw" D tys) : ∀ x ∈ t_kIL, ∃ v : Int32, v.toInt = x.2 ∧ q_Kld C cc (.ldc x.1) (.int v) := n_mem0
theorem c_kLL {C : qCx} {cc : ByteArray} {nL : Nat} {D : va_G} {tys : List (ClassId × FieldType)} (h : n_ctx C cc nL "BalanceCoderLaw" D tys) : ∀ x ∈ t_kLL, ∃ v : Int64, v.toInt = x.2 ∧ q_Kld C cc (.ldc2_w x.1) (.long v) := (n_mem2 (⟨4294967295, rfl, q_Kl2_of h.2.1 h.2.2.2.1 (h.2.2.2.2.1 _ n_w1140)⟩) n_mem0)
theorem c_obL {C : qCx} {cc : ByteArray} {nL : Nat} {D : va_G} {tys : List (ClassId × FieldType)} (h : n_ctx C cc nL "BalanceCoderLaw" D tys) (hR : 1 ≤ C.2.2.2.1.frames ∧ 20 ≤ C.2.2.2.1.locals) : ∀ x ∈ t_obL, q_Kob C cc nL x := n_mem0
theorem c_cpL {C : qCx} {cc : ByteArray} {nL : Nat} {D : va_G} {tys : List (ClassId × FieldType)} (h : n_ctx C cc nL "BalanceCoderLaw" D tys) : ∀ x ∈ t_cpL, q_Kcp C cc nL x := n_mem0
