/-! ROWS OF THE MACHINE, from the tables' words -/
section QP15
variable {C : qCx} {cc : ByteArray} {D : va_G} {cl : List vw_C} {tys : List (ClassId × FieldType)} {Ts : List Cond} {own : String}
abbrev q_s (C : qCx) : State := C.2.2.2.2.1
abbrev q_ar_ (C : qCx) : Array Value := C.2.2.2.2.2.2.1
abbrev q_ow (C : qCx) (own : String) : Prop := (q_s C).vm.findClass own = some C.2.2.2.2.2.1.cls
abbrev q_ht (C : qCx) (Ts : List Cond) : Prop := ∀ w ∈ Ts, w.before (q_ar_ C) (q_s C) = true
theorem q_Fget_of {idx ci f N : Nat} {Cn : String} {Tt : u_T} (hm : q_mc C cc) (ho : q_ow C own) (hts : q_ht C Ts) (hK : va_K D cl tys (q_s C)) (hc : cl[ci]? = some (Cn, Tt, N)) (hf : f < N) (hin : ∀ w ∈ u_ws Cn Tt N, w ∈ Ts) (hl : (Cond.fieldLink own idx (Tt f).1 (Tt f).2.1 (Tt f).2.2.1).before (q_ar_ C) (q_s C) = true) : q_Fget C cc D idx ci f := by
  intro pc H locs cells slots ls sk a cell v hd hcl hvm hcls hv k
  obtain ⟨hS, hfc, kC, hkC, hkind⟩ := hK.1 ci _ hc
  obtain ⟨cf, kf, fi, fl, hi, hsl⟩ := hS f hf
  exact W.getf hm.1 hm.2 ho hl hi (u_facts hfc hkC (u_lays hts hin hf) hi).1 hcl (by rw [hvm]; exact fun h => by cases h) (by rw [hsl]; exact hv) rfl rfl hd k
theorem q_FgetN_of {idx ci f N : Nat} {Cn host : String} {Tt : u_T} (hm : q_mc C cc) (ho : q_ow C own) (hts : q_ht C Ts) (hK : va_K D cl tys (q_s C)) (hc : cl[ci]? = some (Cn, Tt, N)) (hf : f < N) (hin : ∀ w ∈ u_ws Cn Tt N, w ∈ Ts) (hl : (Cond.fieldLinkNest own idx (Tt f).1 (Tt f).2.1 (Tt f).2.2.1 host).before (q_ar_ C) (q_s C) = true) : q_Fget C cc D idx ci f := by
  intro pc H locs cells slots ls sk a cell v hd hcl hvm hcls hv k
  obtain ⟨hS, hfc, kC, hkC, hkind⟩ := hK.1 ci _ hc
  obtain ⟨cf, kf, fi, fl, hi, hsl⟩ := hS f hf
  exact va_Wgetf hm.1 hm.2 ho hl hi (u_facts hfc hkC (u_lays hts hin hf) hi).1 hcl (by rw [hvm]; exact fun h => by cases h) (by rw [hsl]; exact hv) rfl rfl hd k
theorem q_Fput_of {idx ci f N : Nat} {Cn : String} {Tt : u_T} {ty : FieldType} (hm : q_mc C cc) (ho : q_ow C own) (hts : q_ht C Ts) (hK : va_K D cl tys (q_s C)) (hc : cl[ci]? = some (Cn, Tt, N)) (hf : f < N) (hin : ∀ w ∈ u_ws Cn Tt N, w ∈ Ts) (hty : parseFieldDescriptor (Tt f).2.2.1 = some ty) (hfin : (Tt f).2.2.2 = false) (hl : (Cond.fieldLink own idx (Tt f).1 (Tt f).2.1 (Tt f).2.2.1).before (q_ar_ C) (q_s C) = true) : q_Fput C cc D idx ci f ty := by
  intro pc H locs cells slots ls sk a cell v v0 hd hcl hvm hcls hv0 hn hfit k
  obtain ⟨hS, hfc, kC, hkC, hkind⟩ := hK.1 ci _ hc
  obtain ⟨cf, kf, fi, fl, hi, hsl⟩ := hS f hf
  have hlay := hts _ (hin _ (u_in_lay hf))
  unfold u_lay at hlay
  rw [if_neg (by rw [hfin]; decide)] at hlay
  have hst := (u_facts hfc hkC (u_lays hts hin hf) hi).1
  have h6 := u_store hfc hkC hkind hlay hi hty hn hfit
  refine W.putK hm.1 hm.2 (f := fl) ⟨ho, hl, ⟨_, _, _, hi⟩, hst⟩ (by rw [hcls]; exact h6) hcl hvm (by rw [hsl]; exact k2_hasslot hv0) rfl rfl hd fun H' e1 e2 e3 => ?_
  rw [hsl] at e1 ⊢
  exact k H' e1 e2 e3
theorem q_FputN_of {idx ci f N : Nat} {Cn host : String} {Tt : u_T} {ty : FieldType} (hm : q_mc C cc) (ho : q_ow C own) (hts : q_ht C Ts) (hK : va_K D cl tys (q_s C)) (hc : cl[ci]? = some (Cn, Tt, N)) (hf : f < N) (hin : ∀ w ∈ u_ws Cn Tt N, w ∈ Ts) (hty : parseFieldDescriptor (Tt f).2.2.1 = some ty) (hfin : (Tt f).2.2.2 = false) (hl : (Cond.fieldLinkNest own idx (Tt f).1 (Tt f).2.1 (Tt f).2.2.1 host).before (q_ar_ C) (q_s C) = true) : q_Fput C cc D idx ci f ty := by
  intro pc H locs cells slots ls sk a cell v v0 hd hcl hvm hcls hv0 hn hfit k
  obtain ⟨hS, hfc, kC, hkC, hkind⟩ := hK.1 ci _ hc
  obtain ⟨cf, kf, fi, fl, hi, hsl⟩ := hS f hf
  have hlay := hts _ (hin _ (u_in_lay hf))
  unfold u_lay at hlay
  rw [if_neg (by rw [hfin]; decide)] at hlay
  have hst := (u_facts hfc hkC (u_lays hts hin hf) hi).1
  have h6 := u_store hfc hkC hkind hlay hi hty hn hfit
  refine va_WputK hm.1 hm.2 (f := fl) ho hl hi hst (by rw [hcls]; exact h6) hcl hvm (by rw [hsl]; exact k2_hasslot hv0) rfl rfl hd fun H' e1 e2 e3 => ?_
  rw [hsl] at e1 ⊢
  exact k H' e1 e2 e3
theorem q_FputF_of {idx ci f N : Nat} {Cn : String} {Tt : u_T} {ty : FieldType} (hm : q_mc C cc) (ho : q_ow C own) (hts : q_ht C Ts) (hK : va_K D cl tys (q_s C)) (hc : cl[ci]? = some (Cn, Tt, N)) (hf : f < N) (hin : ∀ w ∈ u_ws Cn Tt N, w ∈ Ts) (hty : parseFieldDescriptor (Tt f).2.2.1 = some ty) (hfin : (Tt f).2.2.2 = true) (hin2 : C.2.2.2.2.2.2.2.2.1.name = "<init>") (hdecl : (Tt f).1 = own) (hl : (Cond.fieldLink own idx (Tt f).1 (Tt f).2.1 (Tt f).2.2.1).before (q_ar_ C) (q_s C) = true) : q_Fput C cc D idx ci f ty := by
  intro pc H locs cells slots ls sk a cell v v0 hd hcl hvm hcls hv0 hn hfit k
  obtain ⟨hS, hfc, kC, hkC, hkind⟩ := hK.1 ci _ hc
  obtain ⟨cf, kf, fi, fl, hi, hsl⟩ := hS f hf
  have hlay := hts _ (hin _ (u_in_lay hf))
  unfold u_lay at hlay
  rw [if_pos hfin] at hlay
  have hst := (u_facts hfc hkC (u_lays hts hin hf) hi).1
  have hcf : C.2.2.2.2.2.1.cls = cf := by
    obtain ⟨_, _, c', _, _, _, -, -, hf', -, -, -, hown2, -⟩ := Cond.laysFinal_spec hlay
    have e1 : c' = cf := by have := hi.symm.trans hf'; simp at this; exact this.1.symm
    rw [hdecl] at hown2
    rw [← e1]; exact Option.some.inj (ho.symm.trans hown2)
  have h6 := u_fits hfc hkC hkind (Or.inr hlay) hi hty hn hfit
  refine W.putFinK hm.1 hm.2 ho hl hi hst hcf hin2 (by rw [hcls]; exact h6) hcl hvm (by rw [hsl]; exact k2_hasslot hv0) rfl rfl hd fun H' e1 e2 e3 => ?_
  rw [hsl] at e1 ⊢
  exact k H' e1 e2 e3
theorem q_Fnew_of {idx ci N : Nat} {Cn : String} {Tt : u_T} {tyf : Nat → FieldType} (hm : q_mc C cc) (ho : q_ow C own) (hts : q_ht C Ts) (hK : va_K D cl tys (q_s C)) (hc : cl[ci]? = some (Cn, Tt, N)) (hin : ∀ w ∈ u_ws Cn Tt N, w ∈ Ts) (hty : ∀ k, k < N → parseFieldDescriptor (Tt k).2.2.1 = some (tyf k)) (hcl : (Cond.classLink own idx Cn).before (q_ar_ C) (q_s C) = true) (hi : (Cond.instantiable Cn N).before (q_ar_ C) (q_s C) = true) (hini : (Cond.initialized Cn).before (q_ar_ C) (q_s C) = true) : q_Fnew C cc D idx ci N tyf := by
  intro pc H locs cells slots ls sk hd hce hsl k
  have hKn := hK.1 ci _ hc
  refine W.newcK hm.1 hm.2 ho hcl hi hini rfl hd hce hsl hKn.2.1 rfl fun H1 kC hkC e1 z1 o1 => ?_
  obtain ⟨cell, q1, q2, q3, q4⟩ := u_born tyf hts hin hKn hkC e1 hty
  exact k H1 cell q1 z1 o1 q3 q2 q4
theorem q_Fna_of {a : ArrayType} {t : Nat} {cA : ClassId} (hm : q_mc C cc) (hK : va_K D cl tys (q_s C)) (ht : tys[t]? = some (cA, newarray.typeOf a)) (hw : (Cond.arrayClass (newarray.typeOf a)).before (q_ar_ C) (q_s C) = true) : q_Fna C cc (.newarray a) cA (newarray.typeOf a) := by
  intro pc H locs cells slots ls sk y n hd hy hn hce hsl k
  have hRA : (q_s C).vm.findClass ("[" ++ (newarray.typeOf a).toString) = some cA := by
    have h := (hK.2 t _ ht).2
    cases a <;> exact h
  have hy0 : ¬ y < 0 := fun q => by rw [Int32.lt_iff_toInt_lt] at q; have : ¬ y.toInt < (0 : Int32).toInt := by show ¬ y.toInt < 0; omega
                                    exact this q
  have hyn : y.toNatClampNeg = n := by show y.toInt.toNat = n; omega
  refine va_newaK hm.1 hm.2 hw rfl hd rfl hy0 hyn (by cases a <;> simp only [newarray.typeOf, componentBytes] <;> omega) hce hsl rfl fun H1 cA' e1 z1 o1 hAr hNm => ?_
  cases hRA.symm.trans hNm
  exact k H1 e1 z1 o1
theorem q_Fnq_of {idx t : Nat} {cA : ClassId} {Cn : String} (hm : q_mc C cc) (ho : q_ow C own) (hK : va_K D cl tys (q_s C)) (ht : tys[t]? = some (cA, .object Cn)) (hcl : (Cond.classLink own idx Cn).before (q_ar_ C) (q_s C) = true) (hov : va_AO Cn (q_s C)) : q_Fna C cc (.anewarray idx) cA (.object Cn) := by
  intro pc H locs cells slots ls sk y n hd hy hn hce hsl k
  obtain ⟨kA0, comp0, -, -, -, hRA⟩ := (hK.2 t _ ht).2
  have hy0 : ¬ y < 0 := fun q => by rw [Int32.lt_iff_toInt_lt] at q; have : ¬ y.toInt < (0 : Int32).toInt := by show ¬ y.toInt < 0; omega
                                    exact this q
  have hyn : y.toNatClampNeg = n := by show y.toInt.toNat = n; omega
  subst hyn
  refine W.anew hm.1 hm.2 ho hcl (va_AO.use hov) rfl hd rfl hy0 (by omega) hce hsl fun cA' kA comp f1 f2 f3 f4 => ?_
  cases hRA.symm.trans f1
  generalize hH1 : H.push ({ cls := cA, slots := Array.replicate y.toNatClampNeg .null, vm := .none } : Cell) = H1
  have z1 : H1.size = H.size + 1 := by rw [← hH1, Array.size_push]
  have e1 : H1[H.size]? = some (arrV cA y.toNatClampNeg (fun _ => .null)) := by rw [← hH1, Array.getElem?_push_size, ← arrV_new]
  have o1 : ∀ q : Nat, q < H.size → H1[q]? = H[q]? := fun q hq => by rw [← hH1, Array.getElem?_push, if_neg (Nat.ne_of_lt hq)]
  exact k H1 e1 z1 o1
theorem q_AR_of {t ci : Nat} {cA : ClassId} {Cn : String} {Tt : u_T} {N : Nat} (hK : va_K D cl tys (q_s C)) (ht : tys[t]? = some (cA, .object Cn)) (hc : cl[ci]? = some (Cn, Tt, N)) : q_AR (q_s C) D tys t ci := by
  obtain ⟨kA, comp, k1, k2, k3, -⟩ := (hK.2 t _ ht).2
  have hcls := (hK.1 ci _ hc).2
  have hcomp : comp = D.1 ci := Option.some.inj (k3.symm.trans hcls.1)
  subst hcomp
  obtain ⟨kC, hkC, -⟩ := id hcls.2
  exact ⟨cA, Cn, kA, D.1 ci, kC, kC, ht, k1, k2, hkC, hkC, va_assign hcls⟩
theorem q_Kld_of {i : Nat} {v : Int32} (hm : q_mc C cc) (ho : q_ow C own) (hl : (Jvm.Cond.constant own i v).before (q_ar_ C) (q_s C) = true) : q_Kld C cc (.ldc i) (.int v) :=
  fun pc H locs cells slots ls sk hd k => lv_ldc hm.1 hm.2 ho hl hd k
theorem q_Kl2_of {i : Nat} {v : Int64} (hm : q_mc C cc) (ho : q_ow C own) (hl : (Jvm.Cond.constantLong own i v).before (q_ar_ C) (q_s C) = true) : q_Kld C cc (.ldc2_w i) (.long v) :=
  fun pc H locs cells slots ls sk hd k => lv_ldc2 hm.1 hm.2 ho hl hd k
theorem q_Kob_of {idx nL : Nat} (hm : q_mc C cc) (hml : C.2.2.2.2.2.2.2.2.2.1.maxLocals = nL) (ho : q_ow C own) (h1 : (Cond.methodLink own idx objectInit).before (q_ar_ C) (q_s C) = true) (h2 : (Cond.instanceMethod objectInit).before (q_ar_ C) (q_s C) = true) (h3 : (Cond.code objectInit ⟨#[0xb1]⟩ 1 none).before (q_ar_ C) (q_s C) = true) (hR : 1 ≤ C.2.2.2.1.frames ∧ 20 ≤ C.2.2.2.1.locals) : q_Kob C cc nL idx := by
  intro pc H locs cells slots ls sk a hd hls hcat k
  refine W.objInit hm.1 hm.2 ho h1 h2 h3 rfl (by show ls.size = _; rw [hls, hml]) rfl hd hR.1 ?_ k
  show 2 * 0 + _ + 12 ≤ _
  omega
theorem q_apart_of {ci N n : Nat} {Cn : String} {Tt : u_T} {tyf : Nat → FieldType} (hts : q_ht C Ts) (hK : va_K D cl tys (q_s C)) (hc : cl[ci]? = some (Cn, Tt, N)) (hin : ∀ w ∈ u_ws Cn Tt N, w ∈ Ts) (hty : ∀ k, k < N → parseFieldDescriptor (Tt k).2.2.1 = some (tyf k)) (hnm : ∀ a, a < N → ∀ b, b < N → a ≠ b → (Tt a).2.1 ≠ (Tt b).2.1) (hn : n ≤ N) : ∀ x y, x < n → y < n → x ≠ y → D.2 ci x ≠ D.2 ci y :=
  fun x y hx hy hne => va_apart (own := "") hts hin tyf hty hnm hK hc x y (Nat.lt_of_lt_of_le hx hn) (Nat.lt_of_lt_of_le hy hn) hne
end QP15
