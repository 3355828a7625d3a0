/-! what holds at the law's entry: classes of the objects and arrays -/
theorem st_cls {s : State} {args : Array Value} (hts : ∀ w ∈ lw_g, w.before args s = true) : ∃ q : Nat → ClassId × (Nat → Nat), ∀ (k : Nat) (r : vw_C), vwCl[k]? = some r → u_Kn s r.1 r.2.1 r.2.2 (q k).1 (q k).2 := by
  have h : ∀ k : Nat, ∃ q : ClassId × (Nat → Nat), ∀ r : vw_C, vwCl[k]? = some r → u_Kn s r.1 r.2.1 r.2.2 q.1 q.2 := by
    intro k
    match k with
    | 0 => obtain ⟨a, b, h⟩ := u_known hts igX0 (hts _ wIns0); exact ⟨(a, b), fun r hr => by cases hr; exact h⟩
    | 1 => obtain ⟨a, b, h⟩ := u_known hts igX1 (hts _ wIns1); exact ⟨(a, b), fun r hr => by cases hr; exact h⟩
    | 2 => obtain ⟨a, b, h⟩ := u_known hts igX2 (hts _ wIns2); exact ⟨(a, b), fun r hr => by cases hr; exact h⟩
    | 3 => obtain ⟨a, b, h⟩ := u_known hts igX3 (hts _ wIns3); exact ⟨(a, b), fun r hr => by cases hr; exact h⟩
    | 4 => obtain ⟨a, b, h⟩ := u_known hts igX4 (hts _ wIns4); exact ⟨(a, b), fun r hr => by cases hr; exact h⟩
    | 5 => obtain ⟨a, b, h⟩ := u_known hts igX5 (hts _ wIns5); exact ⟨(a, b), fun r hr => by cases hr; exact h⟩
    | 6 => obtain ⟨a, b, h⟩ := u_known hts igX6 (hts _ wIns6); exact ⟨(a, b), fun r hr => by cases hr; exact h⟩
    | 7 => obtain ⟨a, b, h⟩ := u_known hts igX7 (hts _ wIns7); exact ⟨(a, b), fun r hr => by cases hr; exact h⟩
    | 8 => obtain ⟨a, b, h⟩ := u_known hts igX8 (hts _ wIns8); exact ⟨(a, b), fun r hr => by cases hr; exact h⟩
    | 9 => obtain ⟨a, b, h⟩ := u_known hts igX9 (hts _ wIns9); exact ⟨(a, b), fun r hr => by cases hr; exact h⟩
    | 10 => obtain ⟨a, b, h⟩ := u_known hts igX10 (hts _ wIns10); exact ⟨(a, b), fun r hr => by cases hr; exact h⟩
    | 11 => obtain ⟨a, b, h⟩ := u_known hts igX11 (hts _ wIns11); exact ⟨(a, b), fun r hr => by cases hr; exact h⟩
    | k + 12 => exact ⟨(0, fun _ => 0), fun r hr => by cases hr⟩
  exact ⟨fun k => Classical.choose (h k), fun k => Classical.choose_spec (h k)⟩
theorem st_arr {s : State} {args : Array Value} {ty : FieldType} (h : (Cond.arrayClass ty).before args s = true) (hra : ∀ (U : State) (cA : ClassId), U.vm.findClass ("[" ++ ty.toString) = some cA → va_RA U cA ty) : ∃ cA : ClassId, ArrOfT s cA ty ∧ va_RA s cA ty := by
  obtain ⟨cA, kA, comp, h1, h2, h3⟩ := Cond.arrayClass_spec h
  exact ⟨cA, fun n z => ⟨fun k h => (by cases h), kA, h2, comp, h3⟩, hra _ _ h1⟩
theorem st_ovO {s : State} {args : Array Value} {C : String} (h : (Cond.arrayOver (.object C)).before args s = true) : ∃ cA : ClassId, ArrOfT s cA (.object C) ∧ va_RA s cA (.object C) := by
  obtain ⟨comp, cA, kA, hcomp, hidx, hkA, hkindA, hnameA⟩ := Cond.arrayOver_spec h
  exact ⟨cA, fun n z => ⟨fun k h => (by cases h), kA, hkA, comp, hkindA⟩, kA, comp, hkA, hkindA, hcomp, hnameA⟩
theorem st_ovA {s : State} {args : Array Value} {t : FieldType} (h : (Cond.arrayOver (.array t)).before args s = true) : ∃ cA : ClassId, ArrOfT s cA (.array t) ∧ va_RA s cA (.array t) := by
  obtain ⟨comp, cA, kA, hcomp, hidx, hkA, hkindA, hnameA⟩ := arrayOverA_spec h
  exact ⟨cA, fun n z => ⟨fun k h => (by cases h), kA, hkA, comp, hkindA⟩, hnameA⟩
theorem st_K {s : State} {args : Array Value} (hts : ∀ w ∈ lw_tbl, w.before args s = true) : ∃ (D : va_G) (tA : Nat → ClassId), ∀ (n : Nat) (sp : Nat → Nat), va_K D vwCl (tyl (D, tA, n, sp)) s := by
  have hg : ∀ w ∈ lw_g, w.before args s = true := fun w h => hts w (List.mem_filter.mp h).1
  have hn : ∀ w ∈ lw_n, w.before args s = true := fun w h => hts w (List.mem_filter.mp h).1
  obtain ⟨q, hq⟩ := st_cls hg
  obtain ⟨a0, h0⟩ := st_arr (hg _ wArI) (fun U cA h => h)
  obtain ⟨a1, h1⟩ := st_arr (hg _ wArB) (fun U cA h => h)
  obtain ⟨a2, h2⟩ := st_arr (hg _ wArZ) (fun U cA h => h)
  obtain ⟨a3, h3⟩ := st_arr (hg _ wArL) (fun U cA h => h)
  obtain ⟨a4, h4⟩ := st_ovO (hn _ wOvobject)
  obtain ⟨a5, h5⟩ := st_ovA (hn _ wOvarray)
  refine ⟨(fun k => (q k).1, fun k => (q k).2), fun k => match k with | 0 => a0 | 1 => a1 | 2 => a2 | 3 => a3 | 4 => a4 | _ => a5, fun n sp => ⟨fun c r hr => hq c r hr, fun k x hx => ?_⟩⟩
  match k with
  | 0 => cases hx; exact h0
  | 1 => cases hx; exact h1
  | 2 => cases hx; exact h2
  | 3 => cases hx; exact h3
  | 4 => cases hx; exact h4
  | 5 => cases hx; exact h5
  | k + 6 => cases hx
theorem st_NW {s : State} {args : Array Value} (hts : ∀ w ∈ lw_tbl, w.before args s = true) : NW s := by
  intro w hw
  have h1 := hts w (List.mem_filter.mp hw).1
  have h2 := (List.mem_filter.mp hw).2
  cases w <;> first | exact va_Nw.of rfl h1 | (cases h2; done) | (rename_i ty; cases ty <;> first | exact va_AO.of h1 | exact over_moved (Vm.Alike.refl _) h1 | (cases h2; done))
