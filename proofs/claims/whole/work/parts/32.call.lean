/-! A method's contract out of its walk -/
theorem jargs0_mem (E : jE) : ∀ (as : List jV) (k i : Nat) (v : jV), (jargs0 as)[i]? = some (some v) → (k + i, cv E v) ∈ lv_args k (as.map (cv E))
  | [], _, _, _, h => by simp [jargs0] at h
  | .inl x :: vs, k, i, v, h => by
    cases i with
    | zero =>
      simp [jargs0] at h
      subst h
      exact List.mem_cons_self
    | succ i =>
      have h1 : (jargs0 vs)[i]? = some (some v) := by simpa [jargs0] using h
      have h2 := jargs0_mem E vs (k + 1) i v h1
      rw [show k + (i + 1) = k + 1 + i by omega]
      exact List.mem_cons_of_mem _ h2
  | .inr (.inl x) :: vs, k, i, v, h => by
    cases i with
    | zero =>
      simp [jargs0] at h
      subst h
      exact List.mem_cons_self
    | succ i =>
      cases i with
      | zero => simp [jargs0] at h
      | succ i =>
        have h1 : (jargs0 vs)[i]? = some (some v) := by simpa [jargs0] using h
        have h2 := jargs0_mem E vs (k + 2) i v h1
        rw [show k + (i + 1 + 1) = k + 2 + i by omega]
        exact List.mem_cons_of_mem _ h2
  | .inr (.inr x) :: vs, k, i, v, h => by
    have hc : (cv E (.inr (.inr x))).category ≠ 2 := by
      cases x with
      | inl x => simp only [cv]; cases jrf E.1 x <;> (intro q; cases q)
      | inr x => cases x <;> (intro q; cases q)
    cases i with
    | zero =>
      simp [jargs0] at h
      subst h
      exact List.mem_cons_self
    | succ i =>
      have h1 : (jargs0 vs)[i]? = some (some v) := by simpa [jargs0] using h
      have h2 := jargs0_mem E vs (k + 1) i v h1
      rw [show k + (i + 1) = k + 1 + i by omega]
      simp only [List.map_cons, lv_args, if_neg hc]
      exact List.mem_cons_of_mem _ h2
theorem jargs0_len (E : jE) : ∀ (as : List jV), (lg_sl (as.map (cv E))).length = (jargs0 as).length
  | [] => rfl
  | .inl x :: vs => by
    show ([Slot.val (.int (Int32.ofInt x))] ++ lg_sl (vs.map (cv E))).length = _
    rw [List.length_append, jargs0_len E vs]
    simp [jargs0]
    omega
  | .inr (.inl x) :: vs => by
    show ([Slot.val (.long (Int64.ofInt x)), .second] ++ lg_sl (vs.map (cv E))).length = _
    rw [List.length_append, jargs0_len E vs]
    simp [jargs0]
    omega
  | .inr (.inr x) :: vs => by
    have hc : (cv E (.inr (.inr x))).category ≠ 2 := by
      cases x with
      | inl x => simp only [cv]; cases jrf E.1 x <;> (intro q; cases q)
      | inr x => cases x <;> (intro q; cases q)
    show ((if (cv E (.inr (.inr x))).category = 2 then [Slot.val (cv E (.inr (.inr x))), .second] else [Slot.val (cv E (.inr (.inr x)))]) ++ lg_sl (vs.map (cv E))).length = _
    rw [List.length_append, jargs0_len E vs, if_neg hc]
    simp [jargs0]
    omega
theorem jargs_ok {n : Nat} {as : List jV} (h : ∀ v ∈ as, jok v) (i : Nat) (v : jV) (hi : (jargs n as)[i]? = some (some v)) : jok v := by
  have key : ∀ (as : List jV), (∀ v ∈ as, jok v) → ∀ (i : Nat) (v : jV), (jargs0 as)[i]? = some (some v) → jok v := by
    intro as
    induction as with
    | nil => intro _ i v h; simp [jargs0] at h
    | cons a as ih =>
      intro h i v hi
      have ha := h a List.mem_cons_self
      have ht := ih (fun v hv => h v (List.mem_cons_of_mem _ hv))
      cases a with
      | inl x =>
        cases i with
        | zero => simp [jargs0] at hi; subst hi; exact ha
        | succ i => exact ht i v (by simpa [jargs0] using hi)
      | inr a => cases a with
        | inl x =>
          cases i with
          | zero => simp [jargs0] at hi; subst hi; exact ha
          | succ i => cases i with
            | zero => simp [jargs0] at hi
            | succ i => exact ht i v (by simpa [jargs0] using hi)
        | inr x =>
          cases i with
          | zero => simp [jargs0] at hi; subst hi; exact ha
          | succ i => exact ht i v (by simpa [jargs0] using hi)
  unfold jargs at hi
  by_cases hl : i < (jargs0 as).length
  · rw [List.getElem?_append_left hl] at hi
    exact key as h i v hi
  · rw [List.getElem?_append_right (by omega)] at hi
    by_cases h2 : i - (jargs0 as).length < n - (jargs0 as).length
    · rw [List.getElem?_replicate, if_pos h2] at hi
      cases hi
    · rw [List.getElem?_replicate, if_neg h2] at hi
      cases hi
theorem jargs_lv {E : jE} {n : Nat} {as : List jV} (q : Nat × Value) (hq : q ∈ jlv E (jargs n as)) : q ∈ lv_args 0 (as.map (cv E)) := by
  obtain ⟨i, v, hi, rfl⟩ := jlv_mem.mp hq
  unfold jargs at hi
  by_cases hl : i < (jargs0 as).length
  · rw [List.getElem?_append_left hl] at hi
    have := jargs0_mem E as 0 i v hi
    rwa [Nat.zero_add] at this
  · rw [List.getElem?_append_right (by omega)] at hi
    by_cases h2 : i - (jargs0 as).length < n - (jargs0 as).length
    · rw [List.getElem?_replicate, if_pos h2] at hi
      cases hi
    · rw [List.getElem?_replicate, if_neg h2] at hi
      cases hi
def jentry (m : jM) (as : List jV) : Bool := plainName m.1.cls && decide (m.1.cls ≠ "WordPlacesLaw") && decide ((jargs0 as).length ≤ m.2.2.1)
theorem CallG_of {l : Launch} {d mc ms : Nat} {m : jM} {as : List jV} {G : jG} {σ : jH} {Post : Int → jG → jH → Prop} (he : plainName m.1.cls = true) (hlaw : m.1.cls ≠ "WordPlacesLaw") (hlen : (jargs0 as).length ≤ m.2.2.1) (hrt : jrk m = 1 → m.2.2.2 = some .int ∨ m.2.2.2 = some .boolean)
    (h : Ev (l, (fun _ => 0), 0) d mc ms m Post 0 (jargs m.2.2.1 as) [] G σ 0 0) : CallG l d mc ms m as G σ Post := by
  intro has E
  refine Met.ofW (cc := m.2.1) (maxL := m.2.2.1) (ret := m.2.2.2) he rfl ?_
  intro p e s mi args below meth c s₁ B hml hv
  obtain ⟨rfl, hat⟩ := hv
  obtain ⟨hst, hsz, hgw, hwf, hP⟩ := hat
  have hx := B.exec
  have hb := B.bytes
  have hr := B.returns
  have hts0 := atoms_spec (ws := jws m) B.pre
  have hts : ∀ w ∈ jTB, w.before (as.map (cv E)).toArray s = true := fun w hw => hts0 w (List.mem_cons_of_mem _ hw)
  have hown : s.vm.findClass m.1.cls = some mi.cls := findClass_of_methodNamed B.named
  have hlocks := B.notSynchronized
  have hl := lv_entry (as.map (cv E)) (n := m.2.2.1) (by rw [jargs0_len]; exact hlen)
  rw [lg_entry_eq]
  generalize (lg_sl (as.map (cv E)) ++ List.replicate (m.2.2.1 - (lg_sl (as.map (cv E))).length) Slot.unset).toArray = lc at hl ⊢
  have hnm : meth.name = m.1.name := (name_of_methodNamed B.named B.method).1
  have hjl : (jargs m.2.2.1 as).length = m.2.2.1 := by
    unfold jargs
    rw [List.length_append, List.length_replicate]
    omega
  refine h p e _ s mi _ below meth c E _ s.heap [] lc ⟨⟨hx, hb, hml, hown, hts, rfl, hst, by omega, fun q => absurd q hlaw, fun q => hnm.trans q, ?_⟩, jargs_ok has, fun v hv => absurd hv List.not_mem_nil, hjl, ⟨hsz, hgw, hwf, hP⟩, va_S.rf, lv_has_mono hl jargs_lv, Nat.zero_le _, Nat.zero_le _⟩
  intro pc lc H locs x G' σ' cs ss hcs hss hpost hok hbo hw hS hd
  refine W.widen hcs hss ?_
  have hQ : ∀ t : State, t.heap = H → s.WarmedH t.vm → (∃ (x : Int) (G' : jG) (σ' : jH), Outcome.returned ((jrv (jrk m) x).map (cv E)).head? = .returned ((jrv (jrk m) x).map (cv E)).head? ∧ True) := fun _ _ _ => ⟨x, G', σ', rfl, trivial⟩
  have hend : ∀ t : State, t.heap = H → s.WarmedH t.vm → ((∃ (x9 : Int) (G' : jG) (σ' : jH), Outcome.returned ((jrv (jrk m) x).map (cv E)).head? = .returned ((jrv (jrk m) x9).map (cv E)).head? ∧ (∀ v ∈ jrv (jrk m) x9, jok v) ∧ Post x9 G' σ' ∧ jat E G' σ' t) ∧ va_F (jA E) s t) := fun t ht hW =>
    ⟨⟨x, G', σ', rfl, hok, hpost, by rw [← ht] at hS; exact jstat_on hst hW hS, by rw [ht]; exact hw.1, hw.2.1, hw.2.2.1, by rw [ht]; exact hw.2.2.2⟩, hS.F ht⟩
  have hk : jrk m = 0 ∨ jrk m = 1 ∨ jrk m = 2 ∨ jrk m = 3 := by
    unfold jrk
    split <;> simp
  rcases hk with hk | hk | hk | hk
  · have hn : m.2.2.2 = none := by
      unfold jrk at hk
      split at hk
      · assumption
      · cases hk
      · cases hk
      · cases hk
      · cases hk
    rw [hk] at hend ⊢
    rw [hn] at hr
    exact W.vret hx hb hr hend hS.2.2 (by rw [hd]; unfold jrins; rw [hk]; rfl)
  · rw [hk] at hend ⊢
    rcases hrt hk with hn | hn
    · rw [hn] at hr
      exact W.iret hx hb hr hend hS.2.2 (by rw [hd]; unfold jrins; rw [hk]; rfl)
    · rw [hn] at hr
      refine W.zret hx hb hr ?_ hend hS.2.2 (by rw [hd]; unfold jrins; rw [hk]; rfl)
      rcases hbo hn with rfl | rfl <;> rfl
  · have hn : m.2.2.2 = some .long := by
      unfold jrk at hk
      split at hk
      · cases hk
      · assumption
      · cases hk
      · cases hk
      · cases hk
    rw [hk] at hend ⊢
    rw [hn] at hr
    exact W.lret hx hb hr hend hS.2.2 (by rw [hd]; unfold jrins; rw [hk]; rfl)
  · have hn : ∃ rt, m.2.2.2 = some rt ∧ ((∃ n, rt = .object n) ∨ ∃ t, rt = .array t) := by
      unfold jrk at hk
      split at hk
      · cases hk
      · cases hk
      · rename_i n hn; exact ⟨_, hn, Or.inl ⟨n, rfl⟩⟩
      · rename_i n hn; exact ⟨_, hn, Or.inr ⟨n, rfl⟩⟩
      · cases hk
    obtain ⟨rt, hn, hrt⟩ := hn
    rw [hk] at hend ⊢
    rw [hn] at hr
    refine W.aret hx hb hr hrt ?_ hend hS.2.2 (by rw [hd]; unfold jrins; rw [hk]; rfl)
    show va_rf (jrf E.1 x) = .null ∨ ∃ a, va_rf (jrf E.1 x) = .ref a
    cases jrf E.1 x with
    | none => exact Or.inl rfl
    | some q => exact Or.inr ⟨q, rfl⟩
theorem CallN_of {l : Launch} {d : Nat} {m : jM} {as : List jV} {G : jG} {σ : jH} {Post : Int → jH → Prop} (he : plainName m.1.cls = true) (hlaw : m.1.cls ≠ "WordPlacesLaw") (hlen : (jargs0 as).length ≤ m.2.2.1) (hrt : jrk m = 1 → m.2.2.2 = some .int ∨ m.2.2.2 = some .boolean)
    (h : Ev (l, (fun _ => 0), 0) d 0 0 m (fun x G' σ' => G' = G ∧ Post x σ') 0 (jargs m.2.2.1 as) [] G σ 0 0) : CallN l d m as G σ Post := CallG_of he hlaw hlen hrt h
