/-! constructors: worlds that grow -/
def GN (D : va_G) (tys : List (ClassId × FieldType)) (ws : va_W) (A0 : Nat → Prop) (U : State) : Prop := GW D tys ws A0 U ∧ va_AO "TrickHouse$Article" U ∧ va_AO "TrickHouse$Sheet" U ∧ ∀ q : Nat, U.heap.size ≤ q → A0 q
theorem GN_blind {D : va_G} {tys : List (ClassId × FieldType)} {ws : va_W} {A0 : Nat → Prop} {av : List Value} : FrameBlind (va_Pc av (GN D tys ws A0)) := by
  intro a U g mk q
  obtain ⟨q0, qG, qa, qb, qA⟩ := q
  obtain ⟨-, hG⟩ := GW_blind (D := D) (tys := tys) (ws := ws) (A0 := A0) (av := av) a U g mk ⟨q0, qG⟩
  exact ⟨q0, hG, va_AO.moved (u := U) (U := U.calling g mk a) (Vm.Alike.refl U.vm) qa, va_AO.moved (u := U) (U := U.calling g mk a) (Vm.Alike.refl U.vm) qb, qA⟩
def QRn : Array Value → State → Outcome → State → Prop := fun _ st oc t => oc = .returned none ∧ t.heap = st.heap
section CTOR
variable {p : Program} {l : Launch} {e : Env} {R : Room} {s : State} {m : MethodId} {args : Array Value} {below : List Frame} {meth : Method} {c : Code} {H : Heap} {locs : List Loc} {cells slots : Nat} {Q : State → Prop}
variable {cc : ByteArray} {pc : Nat} {ls : Array Slot} {rest st0 : List Value} {D : va_G} {A0 : Nat → Prop} {cy : Nat → ClassId} {ws0 L Y : va_W} {H0 : Heap}
variable {y : MethodName} {bytes : ByteArray} {maxL nL n index mc ms : Nat} {ws : List Cond} {rm : Room} {Ts : List Cond} {own C host : String} {b : Addr} {As : List Value}
theorem IW_swap (hI : IW D ((L ++ Y) ++ ws0) A0 H0 H locs) : IW D ((L ++ ws0) ++ Y) A0 H0 H locs := ⟨hI.1.swap, hI.2.1.swap, hI.2.2⟩
theorem IW_swap2 (hI : IW D (L ++ Y) A0 H0 H locs) : IW D (Y ++ L) A0 H0 H locs := IW_swap (L := []) hI
theorem GN_of {av : List Value} (hI : IW D ws0 A0 H0 H locs) (hK : va_K D vwCl (tyC cy) s) (hN : NW s) (ho1 : va_AO "TrickHouse$Article" s) (ho2 : va_AO "TrickHouse$Sheet" s) (hA : ∀ q, H0.size ≤ q → A0 q) : ∀ U : State, U.heap = H → s.WarmedH U.vm → va_Pc av (GN D (tyC cy) ws0 A0) av.toArray U := fun U hU hW =>
  ⟨rfl, ((GW_of (av := av) hI hK hN) U hU hW).2, ho1.moved hW.alike, ho2.moved hW.alike, fun q hq => hA q (Nat.le_trans hI.2.2.1 (by rw [← hU]; exact hq))⟩
theorem run_n {G : State → Prop} {a : Array Value} (hr : va_Run p l e R s m args below meth c H locs cells slots mc ms (F0 m pc ls st0) rest (QW none G A0 a) A0) (hS : va_S A0 H0 H locs)
    (kk : ∀ (t : State) (H1 : Heap) (locs1 : List Loc), t.heap = H1 → G t → va_S A0 H0 H1 locs1 → W p l e R s m args below meth c H1 locs1 (cells + mc) (slots + ms) Q (F0 m (pc + 3) ls rest)) : W p l e R s m args below meth c H locs cells slots Q (F0 m pc ls st0) := by
  intro T hT X
  obtain ⟨v, st₀, t, T', L, h0, X', hL, e1, e2, ⟨hv, hG, hF⟩, st⟩ := hr T hT X
  cases hv
  obtain ⟨hz, hk⟩ := hF
  rw [h0] at hz hk
  obtain ⟨t2, a1, b1⟩ := kk t T'.heap (locs ++ L) e1.symm hG ⟨Nat.le_trans hS.1 (by rw [e1]; exact hz), fun q h1 h2 => by rw [e1, hk q (Nat.lt_of_lt_of_le h1 hS.1) h2]; exact hS.2.1 q h1 h2, fun q hq => by
    rcases List.mem_append.mp hq with h | h
    · exact hS.2.2 q h
    · exact hL q h⟩ T' rfl X'
  exact ⟨t2, st t2 a1, b1⟩
theorem rn_i {G : State → Prop} (S : CallFix p m c cc nL s args Ts own) (hM : Met l y ws rm (va_Pc (.ref b :: As) (GN D (tyC cy) ws0 A0)) (QW none G A0) mc ms A0) (cw : CallB R s args own index y bytes maxL none ws rm mc ms n ∧ y.name = "<init>" ∧ (Cond.instanceMethod y).before args s = true) (hI : IW D ws0 A0 H0 H locs) (hK : va_K D vwCl (tyC cy) s) (hN : NW s) (ho1 : va_AO "TrickHouse$Article" s) (ho2 : va_AO "TrickHouse$Sheet" s) (hA : ∀ q, H0.size ≤ q → A0 q)
    (hn : As.length = n) (hsize : ls.size = nL) (hstack : st0 = As.reverse ++ .ref b :: rest) (hW : (rest.map fun v => v.category).sum ≤ 8) (hdg : decode cc pc = .ok (.invokespecial index, 3)) (hf : cells + mc ≤ R.cells ∧ slots + ms ≤ R.slots)
    (kk : ∀ (t : State) (H1 : Heap) (locs1 : List Loc), t.heap = H1 → G t → va_S A0 H0 H1 locs1 → W p l e R s m args below meth c H1 locs1 (cells + mc) (slots + ms) Q (F0 m (pc + 3) ls rest)) : W p l e R s m args below meth c H locs cells slots Q (F0 m pc ls st0) :=
  run_n (va_runI S hM cw ⟨GN_blind, GN_of (av := .ref b :: As) hI hK hN ho1 ho2 hA⟩ rfl hn hsize hstack (lv_room hW) hdg hf) hI.2.2 kk
theorem rn_x0 (S : CallFix p m c cc nL s args Ts own) (hM : Met l y ws rm (va_Pc [.ref b] NW) QRn 0 0 (fun _ => False)) (cw : va_CN R s args own index y host bytes maxL none ws rm 0 0 0 ∧ y.name = "<init>" ∧ (Cond.instanceMethod y).before args s = true) (hN : NW s)
    (hsize : ls.size = nL) (hstack : st0 = .ref b :: rest) (hW : (rest.map fun v => v.category).sum ≤ 8) (hdg : decode cc pc = .ok (.invokespecial index, 3)) (hf : cells ≤ R.cells ∧ slots ≤ R.slots)
    (kk : W p l e R s m args below meth c H locs cells slots Q (F0 m (pc + 3) ls rest)) : W p l e R s m args below meth c H locs cells slots Q (F0 m pc ls st0) := by
  have hr := va_runIN (l := l) (e := e) (below := below) (meth := meth) (H := H) (locs := locs) (cells := cells) (slots := slots) (As := []) (rest := rest) (g := F0 m pc ls st0) S hM cw ⟨NW_blind, NW_of hN⟩ rfl rfl hsize hstack (lv_room hW) hdg hf
  intro T hT X
  obtain ⟨v, st₀, t, T', L, h0, X', hL, e1, e2, ⟨hv, hh⟩, st⟩ := hr T hT X
  cases hv
  have hL0 : L = [] := by
    cases L with
    | nil => rfl
    | cons q L => exact absurd (hL q List.mem_cons_self) (fun h => h)
  subst hL0
  rw [List.append_nil] at X'
  obtain ⟨t2, a1, b1⟩ := kk T' (by rw [e1, hh, h0]) X'
  exact ⟨t2, st t2 a1, b1⟩
theorem th_newI (hx : p.tables.exec = Jvm.exec) (hb : c.code = cc) (harr : (Cond.arrayClass .int).before args s = true) (hK : va_K D vwCl (tyC cy) s) (hI : IW D (L ++ Y) A0 H0 H locs) (hA : ∀ q, H0.size ≤ q → A0 q) {n : Int32} {N : Nat} (hn : ¬ n < 0) (hN : n.toNatClampNeg = N) (hbytes : N * 4 ≤ 536870912) (hcells : cells + 1 ≤ R.cells) (hslots : slots + N ≤ R.slots) (hdg : decode cc pc = .ok (.newarray .int, 2))
    (kk : ∀ (q : Nat) (H1 : Heap), IW D ((L ++ [(q, .inl (cy 0, N, .inl (fun _ => 0)))]) ++ Y) A0 H0 H1 locs → W p l e R s m args below meth c H1 locs (cells + 1) (slots + N) Q (F0 m (pc + 2) ls (.ref q :: rest))) : W p l e R s m args below meth c H locs cells slots Q (F0 m pc ls (.int n :: rest)) := by
  refine va_newa (atype := .int) (ty := .int) (a0 := (N, .inl (fun _ => 0))) hx hb harr rfl hK hI.1 hI.2.1 hI.2.2 hA (fun cA => rfl) hn hN hbytes hcells hslots hdg (fun q cA H1 hK1 hP hD hS => ?_)
  have e1 : cA = cy 0 := by
    have g1 := (hK.2 0 _ rfl).2
    have g2 := (hK1.2 3 _ rfl).2
    exact Option.some.inj (Eq.trans (Eq.symm g2) g1)
  subst e1
  exact kk q H1 (IW_swap ⟨hP, hD, hS⟩)
theorem th_newq (hx : p.tables.exec = Jvm.exec) (hb : c.code = cc) (hown : s.vm.findClass own = some m.cls) (i : Nat) (hi : (tyC cy)[i]? = some (cy i, .object C)) (hclink : (Cond.classLink own index C).before args s = true) (hover : va_AO C s) (hK : va_K D vwCl (tyC cy) s) (hI : IW D (L ++ Y) A0 H0 H locs) (hA : ∀ q, H0.size ≤ q → A0 q) {n : Int32} {N : Nat} (hn : ¬ n < 0) (hN : n.toNatClampNeg = N) (hbytes : N * 4 ≤ 536870912) (hcells : cells + 1 ≤ R.cells) (hslots : slots + N ≤ R.slots) (hdg : decode cc pc = .ok (.anewarray index, 3))
    (kk : ∀ (q : Nat) (H1 : Heap), IW D ((L ++ [(q, .inl (cy i, N, .inr (.inr (.inr (.inr (fun _ => none))))))]) ++ Y) A0 H0 H1 locs → W p l e R s m args below meth c H1 locs (cells + 1) (slots + N) Q (F0 m (pc + 3) ls (.ref q :: rest))) : W p l e R s m args below meth c H locs cells slots Q (F0 m pc ls (.int n :: rest)) := by
  refine va_newq hx hb hown hclink hover hK hI.1 hI.2.1 hI.2.2 hA hn hN hbytes hcells hslots hdg (fun q cA H1 hK1 hP hD hS => ?_)
  have e1 : cA = cy i := by
    obtain ⟨_, _, _, _, _, g1⟩ := (hK.2 i _ hi).2
    obtain ⟨_, _, _, _, _, g2⟩ := (hK1.2 3 _ rfl).2
    exact Option.some.inj (Eq.trans (Eq.symm g2) g1)
  subst e1
  exact kk q H1 (IW_swap ⟨hP, hD, hS⟩)
theorem th_new {T : u_T} {N ci : Nat} (hx : p.tables.exec = Jvm.exec) (hb : c.code = cc) (hts : ∀ w ∈ Ts, w.before args s = true) (hin : ∀ w ∈ u_ws C T N, w ∈ Ts) (ty : Nat → FieldType) (hty : ∀ k, k < N → parseFieldDescriptor (T k).2.2.1 = some (ty k)) (hown : s.vm.findClass own = some m.cls) (hcl : (Cond.classLink own index C).before args s = true) (hinst : (Cond.instantiable C N).before args s = true) (hini : (Cond.initialized C).before args s = true)
    (hK : va_K D vwCl (tyC cy) s) (hI : IW D (L ++ Y) A0 H0 H locs) (hA : ∀ q, H0.size ≤ q → A0 q) (hc : vwCl[ci]? = some (C, T, N)) {fs : List Value} (hfs : ∀ j, j < N → defaultValue (ty j) = vp_V fs j) (hcells : cells + 1 ≤ R.cells) (hslots : slots + N ≤ R.slots) (hdg : decode cc pc = .ok (.new index, 3))
    (kk : ∀ (q : Nat) (H1 : Heap), IW D ((L ++ [(q, .inr (ci, fs))]) ++ Y) A0 H0 H1 locs → W p l e R s m args below meth c H1 locs (cells + 1) (slots + N) Q (F0 m (pc + 3) ls (.ref q :: rest))) : W p l e R s m args below meth c H locs cells slots Q (F0 m pc ls rest) :=
  va_new hx hb hts hin ty hty hown hcl hinst hini hK hI.1 hI.2.1 hI.2.2 hA hc hfs hcells hslots hdg (fun q H1 hP hD hS => kk q H1 (IW_swap ⟨hP, hD, hS⟩))
theorem th_putF {ref : String} {T : u_T} {N ci : Nat} {a : Nat} {ws1 : va_W} (hx : p.tables.exec = Jvm.exec) (hb : c.code = cc) (hts : ∀ w ∈ Ts, w.before args s = true) (hin : ∀ w ∈ u_ws C T N, w ∈ Ts) (ty0 : Nat → FieldType) (hty : ∀ k, k < N → parseFieldDescriptor (T k).2.2.1 = some (ty0 k)) (hnm : ∀ a, a < N → ∀ b, b < N → a ≠ b → (T a).2.1 ≠ (T b).2.1) (hown : s.vm.findClass own = some m.cls) (hK : va_K D vwCl (tyC cy) s) (hI : IW D ws0 A0 H0 H locs) (q0 : Nat) {fs : List Value} (he : ws0[q0]? = some (a, .inr (ci, fs))) (hc : vwCl[ci]? = some (C, T, N)) (k : Nat) (hk : k < N) (hlink : (Cond.fieldLink own index ref (T k).2.1 (T k).2.2.1).before args s = true) (hsame : (T k).1 = ref) (hfin : (T k).2.2.2 = true) (hin2 : meth.name = "<init>") (hdecl : (T k).1 = own) {ty : FieldType} {x : Nat} (hd : parseFieldDescriptor (T k).2.2.1 = some ty) (hn : narrow ty (.ref x) = .ref x) (hfit : fits ty (.ref x) = true) (hl : k < fs.length) (hset : ws0.set q0 (a, .inr (ci, fs.set k (.ref x))) = ws1)
    (hdg : decode cc pc = .ok (.putfield index, 3)) (kk : ∀ (H1 : Heap) (locs1 : List Loc), IW D ws1 A0 H0 H1 locs1 → W p l e R s m args below meth c H1 locs1 cells slots Q (F0 m (pc + 3) ls rest)) : W p l e R s m args below meth c H locs cells slots Q (F0 m pc ls (.ref x :: .ref a :: rest)) := by
  subst hsame
  subst hset
  exact va_putF (v := .ref x) hx hb hts hin ty0 hty hnm hown hK hI.1 hI.2.1 hI.2.2 q0 he hc k hk hlink (fun _ h9 => h9) hfin hin2 hdecl hd hn hfit hl hdg (fun H1 locs1 h1 h2 h3 => kk H1 locs1 ⟨h1, h2, h3⟩)
theorem th_ast {a : Nat} {ws1 : va_W} (hx : p.tables.exec = Jvm.exec) (hb : c.code = cc) (hK : va_K D vwCl (tyC cy) s) (hI : IW D ws0 A0 H0 H locs) (q0 t0 qk ci : Nat) {cA : ClassId} {r : vw_C} {n v : Nat} {vs : List Value} {f : Nat → Option Nat} (ha : ws0[q0]? = some (a, .inl (cA, n, .inr (.inr (.inr (.inr f)))))) (ht : (tyC cy)[t0]? = some (cA, .object r.1)) (hv : ws0[qk]? = some (v, .inr (ci, vs))) (hc : vwCl[ci]? = some r) {i : Int32} (hin : inR i n = true) (hset : ws0.set q0 (a, .inl (cA, n, .inr (.inr (.inr (.inr (va_up f i.toNatClampNeg (some v))))))) = ws1) (hdg : decode cc pc = .ok (.aastore, 1))
    (kk : ∀ (H1 : Heap) (locs1 : List Loc), IW D ws1 A0 H0 H1 locs1 → W p l e R s m args below meth c H1 locs1 cells slots Q (F0 m (pc + 1) ls rest)) : W p l e R s m args below meth c H locs cells slots Q (F0 m pc ls (.ref v :: .int i :: .ref a :: rest)) := by
  subst hset
  exact va_astq hx hb hK hI.1 hI.2.1 hI.2.2 q0 t0 qk ci ha ht hv hc (inR_vp hin) hdg (fun H1 locs1 h1 h2 h3 => kk H1 locs1 ⟨h1, h2, h3⟩)
end CTOR
