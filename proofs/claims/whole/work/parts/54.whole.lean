def lw_P (b : Addr) (xs : List Int32) (args : Array Value) (s : State) : Prop := args = #[.ref b] ∧ s.IntsAt b xs ∧ xs.length ≤ 3072 ∧ (Jvm.Cond.and given_1 narrow_1).before args s = true
def lw_Q (_ : Array Value) (s : State) (o : Outcome) (t : State) : Prop := o = .returned (some (.int 1)) ∧ Framed s o t [] 600000 7302250
def lw_Z (below : List Frame) (a : Array Value) (s : State) : State → Prop := fun t => ∃ o, t.status = .running ∧ Ended t below o ∧ lw_Q a s o t
/-- the law's own end, with 1 on the stack, nothing written that was there before, its room as the claim has it -/
theorem lw_ret {p : Program} {l : Launch} {e : Env} {s : State} {m : MethodId} {below : List Frame} {meth : Method} {c : Code} {b : Nat} (hx : p.tables.exec = Jvm.exec) (hb : c.code = code) (hr : meth.sig.returnType = ret) (hlocks : meth.locks = false) {pc : Nat} {H : Heap} {ls : Array Slot} (hdg : decode code pc = .ok (.ireturn, 1)) : W p l e room_1 s m #[Value.ref b] below meth c H [] 600000 7302250 (lw_Z below #[Value.ref b] s) (F0 m pc ls [.int 1]) := by
  intro T hT X
  obtain ⟨fs, hret, hrun, hended, hW, hframe⟩ := X.leave (v := some (.int 1)) (hlocks := hlocks) (fun h => by rw [hr] at h; cases h)
  have hmeth' : T.vm.method? m = some meth := X.method'
  refine ⟨T.setFrames fs, ?_, .returned (some (.int 1)), hrun, hended, rfl, ⟨_, rfl⟩, hW, hframe⟩
  jvm_step X.here [X.here.top, hx, hb, hdg, hmeth', hr, ret, narrow_b1]
  (try refine ⟨rfl, ?_⟩); (try refine ⟨rfl, ?_⟩)
  first | (intro acts; rw [hret _ acts rfl rfl rfl]) | rw [hret _ _ rfl rfl rfl]
  exact Steps.refl _
/-- what holds at the law's entry: the machine, the code, the tables' words (any of lw_tbl by 'hts w (by decide +kernel)'), the script of L ints xs at the cell b, what the Statement gives of the start (any of its parts by flat_of_before) -/
def lw_At (p : Program) (s : State) (m : MethodId) (meth : Method) (c : Code) (b L : Nat) (xs : Nat → Int32) : Prop :=
  p.tables.exec = Jvm.exec ∧ c.code = code ∧ meth.sig.returnType = ret ∧ c.maxLocals = 4 ∧ s.vm.findClass R_law = some m.cls ∧ (∀ w ∈ lw_tbl, w.before #[Value.ref b] s = true) ∧ va_X b L xs s s.heap ∧ b < s.heap.size ∧ meth.locks = false ∧ (Jvm.Cond.and given_1 narrow_1).before #[Value.ref b] s = true

theorem wL_k1 : Cond.classLink R_law 7 RX11 ∈ WT := wt_mem 128 (by decide +kernel) rfl
theorem wL_k2 : Cond.classLink R_law 10 RX12 ∈ WT := wt_mem 1327 (by decide +kernel) rfl
theorem wL_i1 : Cond.instantiable RX11 10 ∈ WT := wt_mem 129 (by decide +kernel) rfl
theorem wL_i2 : Cond.instantiable RX12 75 ∈ WT := wt_mem 1328 (by decide +kernel) rfl
theorem wL_n1 : Cond.initialized RX11 ∈ WT := wt_mem 106 (by decide +kernel) rfl
theorem wL_n2 : Cond.initialized RX12 ∈ WT := wt_mem 122 (by decide +kernel) rfl
theorem wL_m1 : Cond.methodLink R_law 9 yX11_init ∈ WT := wt_mem 130 (by decide +kernel) rfl
theorem wL_m2 : Cond.methodLink R_law 12 yX12_init ∈ WT := wt_mem 1329 (by decide +kernel) rfl
theorem wL_s1 : Cond.instanceMethod yX11_init ∈ WT := wt_mem 131 (by decide +kernel) rfl
theorem wL_s2 : Cond.instanceMethod yX12_init ∈ WT := wt_mem 1330 (by decide +kernel) rfl
theorem wL_d1 : ∀ j, j < 10 → defaultValue (tyX11 j) = vp_V [.null, .null, .null, .null, .null, .null, .null, .int 0, .null, .int 0] j := by decide +kernel
theorem wL_d2 : ∀ j, j < 75 → defaultValue (tyX12 j) = vp_V [.null, .int 0, .int 0, .int 0, .int 0, .int 0, .int 0, .int 0, .int 0, .long 0, .null, .null, .null, .null, .null, .null, .null, .null, .null, .null, .null, .int 0, .int 0, .int 0, .int 0, .int 0, .int 0, .null, .null, .null, .null, .null, .null, .null, .null, .null, .null, .null, .null, .null, .null, .null, .null, .null, .null, .null, .null, .int 0, .int 0, .int 0, .int 0, .int 0, .int 0, .int 0, .int 0, .null, .null, .null, .null, .null, .int 0, .int 0, .null, .int 0, .null, .null, .null, .null, .null, .int 0, .int 0, .null, .null, .null, .null] j := by decide +kernel
theorem okX11_init : mOK yX11_init cX11_init 1 none 0 := ⟨wt_mem 106 (by decide +kernel) rfl, wt_mem 132 (by decide +kernel) rfl, by decide +kernel, by decide +kernel, by decide +kernel⟩
theorem okX12_init : mOK yX12_init cX12_init 1 none 0 := ⟨wt_mem 122 (by decide +kernel) rfl, wt_mem 1331 (by decide +kernel) rfl, by decide +kernel, by decide +kernel, by decide +kernel⟩
theorem mkM_eq (G : Gt) (q : Nat) (u : List Nat) : mkX12_init G q u = wM (adN G 48 q u) mM0 := rfl
set_option maxHeartbeats 4000000 in
/-- the law from its entry, over a relation of memories that each call keeps -/
theorem whole_of {Rel : Mem → Mem → Prop} (hO : Obs Rel) (hR0 : Rel mC1 mM0) {p : Program} {e : Env} {s : State} {m : MethodId} {below : List Frame} {meth : Method} {c : Code} (l : Launch) {b L : Nat} {xs : Nat → Int32} (hL : L ≤ 3072) (C0 : lw_At p s m meth c b L xs) : W p l e room_1 s m #[Value.ref b] below meth c s.heap [] 0 0 (lw_Z below #[Value.ref b] s) (entryFrame m ([Value.ref b] : List Value).toArray 4) := by
  obtain ⟨hx, hb, hr, hml, hown, htb, hX, hbl, hlocks, hgv⟩ := id C0
  have hts : ∀ w ∈ WT, w.before #[Value.ref b] s = true := fun w hw => htb w (List.mem_filter.mp hw).1
  obtain ⟨G, hK, hN⟩ := law_setup htb hgv
  generalize hAe : (fun q : Nat => s.heap.size ≤ q) = A at hN
  have hA : ∀ q : Nat, s.heap.size ≤ q → A q := fun q h => by rw [← hAe]; exact h
  have hAr : ∀ q : Nat, A q → s.heap.size ≤ q := fun q h => by rw [← hAe] at h; exact h
  have hS : va_S A s.heap s.heap [] := va_S.rf
  have hP : va_P G.1 jcl [] s.heap := fun k q h => by simp at h
  have hD : va_D A [] := ⟨fun i j p q h => by simp at h, fun k q h => by simp at h⟩
  have hl := lv_entry ([.ref b]) (n := 4) (Nat.le_of_ble_eq_true rfl)
  rw [lg_entry_eq]
  generalize (lg_sl ([.ref b]) ++ List.replicate (4 - (lg_sl ([.ref b])).length) Slot.unset).toArray = ls at hl ⊢
  have hl : lO ls [some (.ref b), none, none, none] := hl
  refine va_new (ci := 11) (fs := [.null, .null, .null, .null, .null, .null, .null, .int 0, .null, .int 0]) (C := RX11) (T := TX11) (N := 10) hx hb hts inC11 tyX11 tyX11_ok hown (hts _ wL_k1) (hts _ wL_i1) (hts _ wL_n1) hK hP hD hS hA rfl wL_d1 (by decide) (by decide) dL_0.1 (fun q0 H hP hD hS => ?_)
  refine lv_dup hx hb dL_3.1 rfl ?_
  have hq0 : A q0 := hD.2 0 _ rfl
  have hF := va_free (wc := [(q0, .inr (11, [.null, .null, .null, .null, .null, .null, .null, .int 0, .null, .int 0]))]) hD hS hA [0] rfl
  refine va_callv (va_runI (As := []) (rest := [.ref q0]) ⟨hx, hb, hml, hown, hts⟩ (cnX11_init l G q0 H.size) ⟨callB_of (Ts := WT) 0 hts (good_wt (fun w hw => by rcases List.mem_cons.mp hw with rfl | hw; exact okX11_init.2.1; exact hw)) rfl rfl rfl (hts _ okX11_init.1) (hts _ wL_m1) okX11_init.2.2 (by decide), rfl, hts _ wL_s1⟩ ⟨fun a U g mk q => ⟨q.1, q.2.1, q.2.2.1, va_K.moved (u := U) (U := U.calling g mk a) (Vm.Alike.refl U.vm) q.2.2.2.1, NY.calling g mk a q.2.2.2.2⟩, fun U hU hW => ⟨rfl, by rw [hU], by rw [hU]; exact hP, va_K.moved hW.alike hK, NY.warm hS hF hU hW hN⟩⟩ rfl rfl hl.1 rfl (lv_room (Nat.le_of_ble_eq_true rfl)) dL_4.1 (by decide)) hS (fun q _ h => hF q h) hF (fun u t H1 locs ht hvm hw hB hz1 hk1 hS => ?_)
  obtain ⟨hP1, hD1⟩ := hB
  rw [ht] at hP1
  have hD1 : va_D A (wC (adN G 74 q0 u) mC1) := va_D.weaken hD1 (fun k q _ h => hF q.1 h)
  have hP1 : va_P G.1 jcl (wC (adN G 74 q0 u) mC1) H1 := hP1
  refine lv_astore_n (lv' := (1, .ref q0) :: (aL 0 [some (.ref b), none, none, none]).filter (fun q => !(q.1 == 1) && !(q.1 + 1 == 1 && q.2.category == 2))) hx hb dL_7.1 rfl hl (Nat.le_of_ble_eq_true rfl) rfl (fun ls hl => ?_)
  have hl : lO ls [some (.ref b), some (.ref q0), none, none] := lO_set (ls := [some (.ref b), none, none, none]) (i := 1) (v := .ref q0) rfl rfl hl
  refine va_new (ci := 12) (fs := [.null, .int 0, .int 0, .int 0, .int 0, .int 0, .int 0, .int 0, .int 0, .long 0, .null, .null, .null, .null, .null, .null, .null, .null, .null, .null, .null, .int 0, .int 0, .int 0, .int 0, .int 0, .int 0, .null, .null, .null, .null, .null, .null, .null, .null, .null, .null, .null, .null, .null, .null, .null, .null, .null, .null, .null, .null, .int 0, .int 0, .int 0, .int 0, .int 0, .int 0, .int 0, .int 0, .null, .null, .null, .null, .null, .int 0, .int 0, .null, .int 0, .null, .null, .null, .null, .null, .int 0, .int 0, .null, .null, .null, .null]) (C := RX12) (T := TX12) (N := 75) hx hb hts inM tyX12 tyX12_ok hown (hts _ wL_k2) (hts _ wL_i2) (hts _ wL_n2) hK hP1 hD1 hS hA rfl wL_d2 (by decide) (by decide) dL_8.1 (fun q1 H2 hP2 hD2 hS => ?_)
  refine lv_dup hx hb dL_11.1 rfl ?_
  have h74 : (wC (adN G 74 q0 u) mC1 ++ [(q1, .inr (12, [.null, .int 0, .int 0, .int 0, .int 0, .int 0, .int 0, .int 0, .int 0, .long 0, .null, .null, .null, .null, .null, .null, .null, .null, .null, .null, .null, .int 0, .int 0, .int 0, .int 0, .int 0, .int 0, .null, .null, .null, .null, .null, .null, .null, .null, .null, .null, .null, .null, .null, .null, .null, .null, .null, .null, .null, .null, .int 0, .int 0, .int 0, .int 0, .int 0, .int 0, .int 0, .int 0, .null, .null, .null, .null, .null, .int 0, .int 0, .null, .int 0, .null, .null, .null, .null, .null, .int 0, .int 0, .null, .null, .null, .null]))])[74]? = some (q1, .inr (12, [.null, .int 0, .int 0, .int 0, .int 0, .int 0, .int 0, .int 0, .int 0, .long 0, .null, .null, .null, .null, .null, .null, .null, .null, .null, .null, .null, .int 0, .int 0, .int 0, .int 0, .int 0, .int 0, .null, .null, .null, .null, .null, .null, .null, .null, .null, .null, .null, .null, .null, .null, .null, .null, .null, .null, .null, .null, .int 0, .int 0, .int 0, .int 0, .int 0, .int 0, .int 0, .int 0, .null, .null, .null, .null, .null, .int 0, .int 0, .null, .int 0, .null, .null, .null, .null, .null, .int 0, .int 0, .null, .null, .null, .null])) := rfl
  have hF2 := va_free (wc := [(q1, .inr (12, [.null, .int 0, .int 0, .int 0, .int 0, .int 0, .int 0, .int 0, .int 0, .long 0, .null, .null, .null, .null, .null, .null, .null, .null, .null, .null, .null, .int 0, .int 0, .int 0, .int 0, .int 0, .int 0, .null, .null, .null, .null, .null, .null, .null, .null, .null, .null, .null, .null, .null, .null, .null, .null, .null, .null, .null, .null, .int 0, .int 0, .int 0, .int 0, .int 0, .int 0, .int 0, .int 0, .null, .null, .null, .null, .null, .int 0, .int 0, .null, .int 0, .null, .null, .null, .null, .null, .int 0, .int 0, .null, .null, .null, .null]))]) hD2 hS hA [74] rfl
  have hPq : va_P G.1 jcl [(q1, .inr (12, [.null, .int 0, .int 0, .int 0, .int 0, .int 0, .int 0, .int 0, .int 0, .long 0, .null, .null, .null, .null, .null, .null, .null, .null, .null, .null, .null, .int 0, .int 0, .int 0, .int 0, .int 0, .int 0, .null, .null, .null, .null, .null, .null, .null, .null, .null, .null, .null, .null, .null, .null, .null, .null, .null, .null, .null, .null, .int 0, .int 0, .int 0, .int 0, .int 0, .int 0, .int 0, .int 0, .null, .null, .null, .null, .null, .int 0, .int 0, .null, .int 0, .null, .null, .null, .null, .null, .int 0, .int 0, .null, .null, .null, .null]))] H2 := hP2.sub [74] rfl
  refine va_callv (va_runI (As := []) (rest := [.ref q1]) ⟨hx, hb, hml, hown, hts⟩ (cnX12_init l G q1 H2.size) ⟨callB_of (Ts := WT) 0 hts (good_wt (fun w hw => by rcases List.mem_cons.mp hw with rfl | hw; exact okX12_init.2.1; exact hw)) rfl rfl rfl (hts _ okX12_init.1) (hts _ wL_m2) okX12_init.2.2 (by decide), rfl, hts _ wL_s2⟩ ⟨fun a U g mk q => ⟨q.1, q.2.1, q.2.2.1, va_K.moved (u := U) (U := U.calling g mk a) (Vm.Alike.refl U.vm) q.2.2.2.1, NY.calling g mk a q.2.2.2.2⟩, fun U hU hW => ⟨rfl, by rw [hU], by rw [hU]; exact hPq, va_K.moved hW.alike hK, NY.warm hS hF2 hU hW hN⟩⟩ rfl rfl hl.1 rfl (lv_room (Nat.le_of_ble_eq_true rfl)) dL_12.1 (by decide)) hS (fun q _ h => hF2 q h) hF2 (fun u2 t H3 locs ht hvm hw2 hB hz3 hk3 hS => ?_)
  obtain ⟨hP3, hD3⟩ := hB
  rw [ht] at hP3
  obtain ⟨hPa, hDa⟩ := va_join (wr := wC (adN G 74 q0 u) mC1) (w1 := mkX12_init G q1 u2) hP2 hD2 [74] (List.range 74) rfl rfl (by decide +kernel) (by decide +kernel) hk3 hF2 hP3 hD3
  rw [mkM_eq] at hPa hDa
  refine lv_astore_n (lv' := (2, .ref q1) :: (aL 0 [some (.ref b), some (.ref q0), none, none]).filter (fun q => !(q.1 == 2) && !(q.1 + 1 == 2 && q.2.category == 2))) hx hb dL_15.1 rfl hl (Nat.le_of_ble_eq_true rfl) rfl (fun ls hl => ?_)
  have hl : lO ls [some (.ref b), some (.ref q0), some (.ref q1), none] := lO_set (ls := [some (.ref b), some (.ref q0), none, none]) (i := 2) (v := .ref q1) rfl rfl hl
  refine lv_iconst (v := nI 0) hx hb dL_16.1 rfl ?_
  refine lv_istore_n (lv' := (3, .int (nI 0)) :: (aL 0 [some (.ref b), some (.ref q0), some (.ref q1), none]).filter (fun q => !(q.1 == 3) && !(q.1 + 1 == 3 && q.2.category == 2))) hx hb dL_17.1 rfl hl (Nat.le_of_ble_eq_true rfl) rfl (fun ls hl => ?_)
  have hl : lO ls [some (.ref b), some (.ref q0), some (.ref q1), some (.int (nI 0))] := lO_set (ls := [some (.ref b), some (.ref q0), some (.ref q1), none]) (i := 3) (v := .int (nI 0)) rfl rfl hl
  generalize hGc : adN G 74 q0 u = Gc at hPa hDa
  generalize hGm : adN G 48 q1 u2 = Gm at hPa hDa
  have eq0 : q0 = Gc.2.2 0 := by rw [← hGc]; rfl
  have eq1 : q1 = Gm.2.2 0 := by rw [← hGm]; rfl
  have hGc1 : Gc.1 = G.1 ∧ tyG Gc = tyG G := by rw [← hGc]; exact ⟨rfl, rfl⟩
  have hGm1 : Gm.1 = G.1 ∧ tyG Gm = tyG G := by rw [← hGm]; exact ⟨rfl, rfl⟩
  have hPc : va_P Gc.1 jcl (wC Gc mC1) H3 := by rw [hGc1.1]; exact fun k q hk => hPa k q (by rw [List.getElem?_append_left (List.getElem?_eq_some_iff.mp hk).1]; exact hk)
  have hPm : va_P Gm.1 jcl (wM Gm mM0) H3 := by
    rw [hGm1.1]
    exact fun k q hk => hPa (74 + k) q (by rw [List.getElem?_append_right (show (wC Gc mC1).length ≤ 74 + k from Nat.le_add_right 74 k), show 74 + k - (wC Gc mC1).length = k from Nat.add_sub_cancel_left 74 k]; exact hk)
  have hDc : va_D A (wC Gc mC1) := ⟨fun i j p q hi hj => hDa.1 i j p q (by rw [List.getElem?_append_left (List.getElem?_eq_some_iff.mp hi).1]; exact hi) (by rw [List.getElem?_append_left (List.getElem?_eq_some_iff.mp hj).1]; exact hj), fun k q hk => hDa.2 k q (by rw [List.getElem?_append_left (List.getElem?_eq_some_iff.mp hk).1]; exact hk)⟩
  have hmid : ∀ (k : Nat) (q : Nat × va_E), (wM Gm mM0)[k]? = some q → (wC Gc mC1 ++ wM Gm mM0)[74 + k]? = some q := fun k q hk => by rw [List.getElem?_append_right (show (wC Gc mC1).length ≤ 74 + k from Nat.le_add_right 74 k), show 74 + k - (wC Gc mC1).length = k from Nat.add_sub_cancel_left 74 k]; exact hk
  have hDm : va_D A (wM Gm mM0) := ⟨fun i j p q hi hj e => by have := hDa.1 (74 + i) (74 + j) p q (hmid i p hi) (hmid j q hj) e; omega, fun k q hk => hDa.2 (74 + k) q (hmid k q hk)⟩
  have ok : OkL (p, l, e, room_1, s, m, #[Value.ref b], below, meth, c) Gc Gm b L xs := by
    refine ⟨hx, hb, hml, hown, hts, by rw [hGc1.1, hGc1.2]; exact hK, by rw [hGm1.1, hGm1.2]; exact hK, ?_, ?_, hX, hbl, rfl, fun mm => ?_, fun mm => ?_, ?_⟩
    · refine NX_of (G := G) (by rw [← hGc]; exact ⟨rfl, rfl, rfl, rfl⟩) ⟨hN.1, hN.2.1, hN.2.2.1, hN.2.2.2.1.narrow (inA_of (wC_adr Gc mC1) hDc), hN.2.2.2.2.narrow (inA_of (wC_adr Gc mC1) hDc)⟩
    · refine NX_of (G := G) (by rw [← hGm]; exact ⟨rfl, rfl, rfl, rfl⟩) ⟨hN.1, hN.2.1, hN.2.2.1, hN.2.2.2.1.narrow (inA_of (wM_adr Gm mM0) hDm), hN.2.2.2.2.narrow (inA_of (wM_adr Gm mM0) hDm)⟩
    · exact va_D_map (wC_map Gc mC1 mm) (va_D.weaken hDc (fun _ q _ h => hAr q.1 h))
    · exact va_D_map (wM_map Gm mM0 mm) (va_D.weaken hDm (fun _ q _ h => hAr q.1 h))
    · intro i hi j hj e
      have hci : ∃ p, (wC Gc mC1)[i]? = some p ∧ p.1 = Gc.2.2 i := by
        have h1 : ((wC Gc mC1).map (fun q => q.1))[i]? = some (Gc.2.2 i) := by rw [wC_adr, List.getElem?_map, List.getElem?_range hi]; rfl
        rw [List.getElem?_map] at h1
        cases hp : (wC Gc mC1)[i]? with
        | none => rw [hp] at h1; cases h1
        | some p => rw [hp] at h1; exact ⟨p, rfl, Option.some.inj h1⟩
      have hmj : ∃ p, (wM Gm mM0)[j]? = some p ∧ p.1 = Gm.2.2 j := by
        have h1 : ((wM Gm mM0).map (fun q => q.1))[j]? = some (Gm.2.2 j) := by rw [wM_adr, List.getElem?_map, List.getElem?_range hj]; rfl
        rw [List.getElem?_map] at h1
        cases hp : (wM Gm mM0)[j]? with
        | none => rw [hp] at h1; cases h1
        | some p => rw [hp] at h1; exact ⟨p, rfl, Option.some.inj h1⟩
      obtain ⟨p1, g1, g2⟩ := hci
      obtain ⟨p2, g3, g4⟩ := hmj
      have := hDa.1 i (74 + j) p1 p2 (by rw [List.getElem?_append_left (List.getElem?_eq_some_iff.mp g1).1]; exact g1) (hmid j p2 g3) (by rw [g2, g4]; exact e)
      omega
  have hS' : va_S (fun q => s.heap.size ≤ q) s.heap H3 locs := by rw [hAe]; exact hS
  have hend : ∀ mC mM ls, JL (p, l, e, room_1, s, m, #[Value.ref b], below, meth, c) Gc Gm (lw_Z below #[Value.ref b] s) mC mM 1377 ls [] := by
    intro mC mM ls H locs Ls hP hM hS hl
    refine lv_iconst (v := 1) hx hb dL_1377.1 (by decide) ?_
    refine va_forget (fun q hq => hS.2.2 q hq) ?_
    refine W.widen (k := 600000) (n := 7302250) (by decide) (by decide) ?_
    exact lw_ret hx hb hr hlocks dL_1378.1
  have main := law_loop (Rel := Rel) hO ok hL hend 513 0 mC1 mM0 (by omega) (by omega) hR0
  rw [← eq0, ← eq1] at main
  exact main H3 locs ls hPc hPm hS' hl
