/-! calls, put together; rows of bytes; static rows; the methods of String constants -/
section COMBO
variable {p : Program} {l : Launch} {e : Env} {kf : Nat} {F : FT} {s : State} {m : MethodId} {args : Array Value} {below : List Frame} {meth : Method} {c : Code} {H : Heap} {locs : List Loc} {cells slots : Nat} {Q : State → Prop} {cc : ByteArray} {n : Nat} {own : String} {E : EV} {ad : Nat → Nat} {N : Nat} {S : ZS} {pc : Nat} {ls : Array Slot} {rest st : List Value} {ρ : Type} {r : ρ} {d a : Nat}
theorem r2_cVI (C : Cx p s m args meth c cc n own E) (hA : CA F E s) (hls : ls.size = n) (hG : GL E s F H locs ad N S cells slots) (ha : RA E ad N d a) {y : MethodName} {c' : ByteArray} {n' : Nat} {rt : Option FieldType} {k np idx pos nn : Nat} {T : u_T} {tt : Nat → FieldType} (As rest : List Value) {av : (Nat → Nat) → List Value} {kz : Option (Int32 × ZS)} (hM : ∀ u, kz = some u → MIL E l y c' n' rt k av S u) (hav : av ad = .ref a :: As) (hm : MLV own idx y c' n' rt np) (hKP : KP pos y.cls T nn tt) (hlen : As.length = np) (hR : k + 1 ≤ kf ∧ 8 + (n' + 11) + 60 * k ≤ 60 * kf) (hrest : (rest.map fun v => v.category).sum ≤ 8) (hst : st = As.reverse ++ .ref a :: rest) (hd : decode cc pc = .ok (.invokevirtual idx, 3)) {fn : Int32 → ZS → Option ρ} {pr : ρ → ZS} (hU : F.uc = (pr r).c ∧ F.uw = (pr r).w) (h : rcv S d pos (b2 pr kz fn) = some r)
    (kk : ∀ (x : Int32) (S1 : ZS) (H1 : Heap) (locs1 : List Loc) (ad1 : Nat → Nat) (cells1 slots1 : Nat), GL E s F H1 locs1 ad1 S1.n S1 cells1 slots1 → GX ad N ad1 S1.n → fn x S1 = some r → W p l e (F.R kf) s m args below meth c H1 locs1 cells1 slots1 Q (F0 m (pc + 3) ls (.int x :: rest))) : W p l e (F.R kf) s m args below meth c H locs cells slots Q (F0 m pc ls st) := by
  obtain ⟨ho, h⟩ := ite_inv h
  obtain ⟨u, hu, h⟩ := bind_inv h
  obtain ⟨⟨d1, d2⟩, h⟩ := chk_inv h
  have hcu : F.uc ≤ u.2.c ∧ F.uw ≤ u.2.w := ⟨by rw [hU.1]; exact d1, by rw [hU.2]; exact d2⟩
  exact af2_I hA hG hcu (run2_V C hA hls hG ha hcu (hM u hu) hav hm hKP ho hlen hR hrest hst hd) (fun H1 locs1 ad1 cells1 slots1 g1 g2 => kk u.1 u.2 H1 locs1 ad1 cells1 slots1 g1 g2 h)
theorem r2_cVR (C : Cx p s m args meth c cc n own E) (hA : CA F E s) (hls : ls.size = n) (hG : GL E s F H locs ad N S cells slots) (ha : RA E ad N d a) {y : MethodName} {c' : ByteArray} {n' : Nat} {rt : Option FieldType} {k np idx pos nn : Nat} {T : u_T} {tt : Nat → FieldType} (As rest : List Value) {av : (Nat → Nat) → List Value} {kz : Option (Nat × ZS)} (hM : ∀ u, kz = some u → MRL E l y c' n' rt k av S u) (hav : av ad = .ref a :: As) (hm : MLV own idx y c' n' rt np) (hKP : KP pos y.cls T nn tt) (hlen : As.length = np) (hR : k + 1 ≤ kf ∧ 8 + (n' + 11) + 60 * k ≤ 60 * kf) (hrest : (rest.map fun v => v.category).sum ≤ 8) (hst : st = As.reverse ++ .ref a :: rest) (hd : decode cc pc = .ok (.invokevirtual idx, 3)) {fn : Nat → ZS → Option ρ} {pr : ρ → ZS} (hU : F.uc = (pr r).c ∧ F.uw = (pr r).w) (h : rcv S d pos (b2 pr kz fn) = some r)
    (kk : ∀ (b x : Nat) (S1 : ZS) (H1 : Heap) (locs1 : List Loc) (ad1 : Nat → Nat) (cells1 slots1 : Nat), GL E s F H1 locs1 ad1 S1.n S1 cells1 slots1 → GX ad N ad1 S1.n → RA E ad1 S1.n x b → fn x S1 = some r → W p l e (F.R kf) s m args below meth c H1 locs1 cells1 slots1 Q (F0 m (pc + 3) ls (.ref b :: rest))) : W p l e (F.R kf) s m args below meth c H locs cells slots Q (F0 m pc ls st) := by
  obtain ⟨ho, h⟩ := ite_inv h
  obtain ⟨u, hu, h⟩ := bind_inv h
  obtain ⟨⟨d1, d2⟩, h⟩ := chk_inv h
  have hcu : F.uc ≤ u.2.c ∧ F.uw ≤ u.2.w := ⟨by rw [hU.1]; exact d1, by rw [hU.2]; exact d2⟩
  exact af2_R hA hG hcu (run2_V C hA hls hG ha hcu (hM u hu) hav hm hKP ho hlen hR hrest hst hd) (fun b H1 locs1 ad1 cells1 slots1 g1 g2 g3 => kk b u.1 u.2 H1 locs1 ad1 cells1 slots1 g1 g2 g3 h)
theorem r2_cVV (C : Cx p s m args meth c cc n own E) (hA : CA F E s) (hls : ls.size = n) (hG : GL E s F H locs ad N S cells slots) (ha : RA E ad N d a) {y : MethodName} {c' : ByteArray} {n' : Nat} {rt : Option FieldType} {k np idx pos nn : Nat} {T : u_T} {tt : Nat → FieldType} (As rest : List Value) {av : (Nat → Nat) → List Value} {kz : Option ZS} (hM : ∀ u, kz = some u → MVL E l y c' n' rt k av S u) (hav : av ad = .ref a :: As) (hm : MLV own idx y c' n' rt np) (hKP : KP pos y.cls T nn tt) (hlen : As.length = np) (hR : k + 1 ≤ kf ∧ 8 + (n' + 11) + 60 * k ≤ 60 * kf) (hrest : (rest.map fun v => v.category).sum ≤ 8) (hst : st = As.reverse ++ .ref a :: rest) (hd : decode cc pc = .ok (.invokevirtual idx, 3)) {fn : ZS → Option ρ} {pr : ρ → ZS} (hU : F.uc = (pr r).c ∧ F.uw = (pr r).w) (h : rcv S d pos (b1 pr kz fn) = some r)
    (kk : ∀ (S1 : ZS) (H1 : Heap) (locs1 : List Loc) (ad1 : Nat → Nat) (cells1 slots1 : Nat), GL E s F H1 locs1 ad1 S1.n S1 cells1 slots1 → GX ad N ad1 S1.n → fn S1 = some r → W p l e (F.R kf) s m args below meth c H1 locs1 cells1 slots1 Q (F0 m (pc + 3) ls rest)) : W p l e (F.R kf) s m args below meth c H locs cells slots Q (F0 m pc ls st) := by
  obtain ⟨ho, h⟩ := ite_inv h
  obtain ⟨u, hu, h⟩ := bind_inv h
  obtain ⟨⟨d1, d2⟩, h⟩ := chk_inv h
  have hcu : F.uc ≤ u.c ∧ F.uw ≤ u.w := ⟨by rw [hU.1]; exact d1, by rw [hU.2]; exact d2⟩
  exact af2_V hA hG hcu (run2_V C hA hls hG ha hcu (hM u hu) hav hm hKP ho hlen hR hrest hst hd) (fun H1 locs1 ad1 cells1 slots1 g1 g2 => kk u H1 locs1 ad1 cells1 slots1 g1 g2 h)
theorem r2_cUI (C : Cx p s m args meth c cc n own E) (hA : CA F E s) (hls : ls.size = n) (hG : GL E s F H locs ad N S cells slots) (ha : RA E ad N d a) {x y : MethodName} {c' : ByteArray} {n' : Nat} {rt : Option FieldType} {k np idx : Nat} (As rest : List Value) {av : (Nat → Nat) → List Value} {kz : Option (Int32 × ZS)} (hM : ∀ u, kz = some u → MIL E l y c' n' rt k av S u) (hav : av ad = .ref a :: As) (hm : MLU own idx x y c' n' rt np) (hlen : As.length = np) (hR : k + 1 ≤ kf ∧ 8 + (n' + 11) + 60 * k ≤ 60 * kf) (hrest : (rest.map fun v => v.category).sum ≤ 8) (hst : st = As.reverse ++ .ref a :: rest) (hd : decode cc pc = .ok (.invokevirtual idx, 3)) {fn : Int32 → ZS → Option ρ} {pr : ρ → ZS} (hU : F.uc = (pr r).c ∧ F.uw = (pr r).w) (h : rcv S d 1 (b2 pr kz fn) = some r)
    (kk : ∀ (x : Int32) (S1 : ZS) (H1 : Heap) (locs1 : List Loc) (ad1 : Nat → Nat) (cells1 slots1 : Nat), GL E s F H1 locs1 ad1 S1.n S1 cells1 slots1 → GX ad N ad1 S1.n → fn x S1 = some r → W p l e (F.R kf) s m args below meth c H1 locs1 cells1 slots1 Q (F0 m (pc + 3) ls (.int x :: rest))) : W p l e (F.R kf) s m args below meth c H locs cells slots Q (F0 m pc ls st) := by
  obtain ⟨ho, h⟩ := ite_inv h
  obtain ⟨u, hu, h⟩ := bind_inv h
  obtain ⟨⟨d1, d2⟩, h⟩ := chk_inv h
  have hcu : F.uc ≤ u.2.c ∧ F.uw ≤ u.2.w := ⟨by rw [hU.1]; exact d1, by rw [hU.2]; exact d2⟩
  exact af2_I hA hG hcu (run2_U C hA hls hG ha hcu (hM u hu) hav hm ho hlen hR hrest hst hd) (fun H1 locs1 ad1 cells1 slots1 g1 g2 => kk u.1 u.2 H1 locs1 ad1 cells1 slots1 g1 g2 h)
theorem r2_cUR (C : Cx p s m args meth c cc n own E) (hA : CA F E s) (hls : ls.size = n) (hG : GL E s F H locs ad N S cells slots) (ha : RA E ad N d a) {x y : MethodName} {c' : ByteArray} {n' : Nat} {rt : Option FieldType} {k np idx : Nat} (As rest : List Value) {av : (Nat → Nat) → List Value} {kz : Option (Nat × ZS)} (hM : ∀ u, kz = some u → MRL E l y c' n' rt k av S u) (hav : av ad = .ref a :: As) (hm : MLU own idx x y c' n' rt np) (hlen : As.length = np) (hR : k + 1 ≤ kf ∧ 8 + (n' + 11) + 60 * k ≤ 60 * kf) (hrest : (rest.map fun v => v.category).sum ≤ 8) (hst : st = As.reverse ++ .ref a :: rest) (hd : decode cc pc = .ok (.invokevirtual idx, 3)) {fn : Nat → ZS → Option ρ} {pr : ρ → ZS} (hU : F.uc = (pr r).c ∧ F.uw = (pr r).w) (h : rcv S d 1 (b2 pr kz fn) = some r)
    (kk : ∀ (b x : Nat) (S1 : ZS) (H1 : Heap) (locs1 : List Loc) (ad1 : Nat → Nat) (cells1 slots1 : Nat), GL E s F H1 locs1 ad1 S1.n S1 cells1 slots1 → GX ad N ad1 S1.n → RA E ad1 S1.n x b → fn x S1 = some r → W p l e (F.R kf) s m args below meth c H1 locs1 cells1 slots1 Q (F0 m (pc + 3) ls (.ref b :: rest))) : W p l e (F.R kf) s m args below meth c H locs cells slots Q (F0 m pc ls st) := by
  obtain ⟨ho, h⟩ := ite_inv h
  obtain ⟨u, hu, h⟩ := bind_inv h
  obtain ⟨⟨d1, d2⟩, h⟩ := chk_inv h
  have hcu : F.uc ≤ u.2.c ∧ F.uw ≤ u.2.w := ⟨by rw [hU.1]; exact d1, by rw [hU.2]; exact d2⟩
  exact af2_R hA hG hcu (run2_U C hA hls hG ha hcu (hM u hu) hav hm ho hlen hR hrest hst hd) (fun b H1 locs1 ad1 cells1 slots1 g1 g2 g3 => kk b u.1 u.2 H1 locs1 ad1 cells1 slots1 g1 g2 g3 h)
theorem r2_cUV (C : Cx p s m args meth c cc n own E) (hA : CA F E s) (hls : ls.size = n) (hG : GL E s F H locs ad N S cells slots) (ha : RA E ad N d a) {x y : MethodName} {c' : ByteArray} {n' : Nat} {rt : Option FieldType} {k np idx : Nat} (As rest : List Value) {av : (Nat → Nat) → List Value} {kz : Option ZS} (hM : ∀ u, kz = some u → MVL E l y c' n' rt k av S u) (hav : av ad = .ref a :: As) (hm : MLU own idx x y c' n' rt np) (hlen : As.length = np) (hR : k + 1 ≤ kf ∧ 8 + (n' + 11) + 60 * k ≤ 60 * kf) (hrest : (rest.map fun v => v.category).sum ≤ 8) (hst : st = As.reverse ++ .ref a :: rest) (hd : decode cc pc = .ok (.invokevirtual idx, 3)) {fn : ZS → Option ρ} {pr : ρ → ZS} (hU : F.uc = (pr r).c ∧ F.uw = (pr r).w) (h : rcv S d 1 (b1 pr kz fn) = some r)
    (kk : ∀ (S1 : ZS) (H1 : Heap) (locs1 : List Loc) (ad1 : Nat → Nat) (cells1 slots1 : Nat), GL E s F H1 locs1 ad1 S1.n S1 cells1 slots1 → GX ad N ad1 S1.n → fn S1 = some r → W p l e (F.R kf) s m args below meth c H1 locs1 cells1 slots1 Q (F0 m (pc + 3) ls rest)) : W p l e (F.R kf) s m args below meth c H locs cells slots Q (F0 m pc ls st) := by
  obtain ⟨ho, h⟩ := ite_inv h
  obtain ⟨u, hu, h⟩ := bind_inv h
  obtain ⟨⟨d1, d2⟩, h⟩ := chk_inv h
  have hcu : F.uc ≤ u.c ∧ F.uw ≤ u.w := ⟨by rw [hU.1]; exact d1, by rw [hU.2]; exact d2⟩
  exact af2_V hA hG hcu (run2_U C hA hls hG ha hcu (hM u hu) hav hm ho hlen hR hrest hst hd) (fun H1 locs1 ad1 cells1 slots1 g1 g2 => kk u H1 locs1 ad1 cells1 slots1 g1 g2 h)
theorem r2_cPI (C : Cx p s m args meth c cc n RJ4 E) (hA : CA F E s) (hls : ls.size = n) (hG : GL E s F H locs ad N S cells slots) (ha : RA E ad N d a) {y : MethodName} {c' : ByteArray} {n' : Nat} {rt : Option FieldType} {k np idx : Nat} (As rest : List Value) {av : (Nat → Nat) → List Value} {kz : Option (Int32 × ZS)} (hM : ∀ u, kz = some u → MIL E l y c' n' rt k av S u) (hav : av ad = .ref a :: As) (hm : MLP idx y c' n' rt np) (hlen : As.length = np) (hR : k + 1 ≤ kf ∧ 8 + (n' + 11) + 60 * k ≤ 60 * kf) (hrest : (rest.map fun v => v.category).sum ≤ 8) (hst : st = As.reverse ++ .ref a :: rest) (hd : decode cc pc = .ok (.invokespecial idx, 3)) {fn : Int32 → ZS → Option ρ} {pr : ρ → ZS} (hU : F.uc = (pr r).c ∧ F.uw = (pr r).w) (h : rcv S d 1 (b2 pr kz fn) = some r)
    (kk : ∀ (x : Int32) (S1 : ZS) (H1 : Heap) (locs1 : List Loc) (ad1 : Nat → Nat) (cells1 slots1 : Nat), GL E s F H1 locs1 ad1 S1.n S1 cells1 slots1 → GX ad N ad1 S1.n → fn x S1 = some r → W p l e (F.R kf) s m args below meth c H1 locs1 cells1 slots1 Q (F0 m (pc + 3) ls (.int x :: rest))) : W p l e (F.R kf) s m args below meth c H locs cells slots Q (F0 m pc ls st) := by
  obtain ⟨ho, h⟩ := ite_inv h
  obtain ⟨u, hu, h⟩ := bind_inv h
  obtain ⟨⟨d1, d2⟩, h⟩ := chk_inv h
  have hcu : F.uc ≤ u.2.c ∧ F.uw ≤ u.2.w := ⟨by rw [hU.1]; exact d1, by rw [hU.2]; exact d2⟩
  exact af2_I hA hG hcu (run2_P C hA hls hG ha hcu (hM u hu) hav hm ho hlen hR hrest hst hd) (fun H1 locs1 ad1 cells1 slots1 g1 g2 => kk u.1 u.2 H1 locs1 ad1 cells1 slots1 g1 g2 h)
theorem r2_cPR (C : Cx p s m args meth c cc n RJ4 E) (hA : CA F E s) (hls : ls.size = n) (hG : GL E s F H locs ad N S cells slots) (ha : RA E ad N d a) {y : MethodName} {c' : ByteArray} {n' : Nat} {rt : Option FieldType} {k np idx : Nat} (As rest : List Value) {av : (Nat → Nat) → List Value} {kz : Option (Nat × ZS)} (hM : ∀ u, kz = some u → MRL E l y c' n' rt k av S u) (hav : av ad = .ref a :: As) (hm : MLP idx y c' n' rt np) (hlen : As.length = np) (hR : k + 1 ≤ kf ∧ 8 + (n' + 11) + 60 * k ≤ 60 * kf) (hrest : (rest.map fun v => v.category).sum ≤ 8) (hst : st = As.reverse ++ .ref a :: rest) (hd : decode cc pc = .ok (.invokespecial idx, 3)) {fn : Nat → ZS → Option ρ} {pr : ρ → ZS} (hU : F.uc = (pr r).c ∧ F.uw = (pr r).w) (h : rcv S d 1 (b2 pr kz fn) = some r)
    (kk : ∀ (b x : Nat) (S1 : ZS) (H1 : Heap) (locs1 : List Loc) (ad1 : Nat → Nat) (cells1 slots1 : Nat), GL E s F H1 locs1 ad1 S1.n S1 cells1 slots1 → GX ad N ad1 S1.n → RA E ad1 S1.n x b → fn x S1 = some r → W p l e (F.R kf) s m args below meth c H1 locs1 cells1 slots1 Q (F0 m (pc + 3) ls (.ref b :: rest))) : W p l e (F.R kf) s m args below meth c H locs cells slots Q (F0 m pc ls st) := by
  obtain ⟨ho, h⟩ := ite_inv h
  obtain ⟨u, hu, h⟩ := bind_inv h
  obtain ⟨⟨d1, d2⟩, h⟩ := chk_inv h
  have hcu : F.uc ≤ u.2.c ∧ F.uw ≤ u.2.w := ⟨by rw [hU.1]; exact d1, by rw [hU.2]; exact d2⟩
  exact af2_R hA hG hcu (run2_P C hA hls hG ha hcu (hM u hu) hav hm ho hlen hR hrest hst hd) (fun b H1 locs1 ad1 cells1 slots1 g1 g2 g3 => kk b u.1 u.2 H1 locs1 ad1 cells1 slots1 g1 g2 g3 h)
theorem r2_cPV (C : Cx p s m args meth c cc n RJ4 E) (hA : CA F E s) (hls : ls.size = n) (hG : GL E s F H locs ad N S cells slots) (ha : RA E ad N d a) {y : MethodName} {c' : ByteArray} {n' : Nat} {rt : Option FieldType} {k np idx : Nat} (As rest : List Value) {av : (Nat → Nat) → List Value} {kz : Option ZS} (hM : ∀ u, kz = some u → MVL E l y c' n' rt k av S u) (hav : av ad = .ref a :: As) (hm : MLP idx y c' n' rt np) (hlen : As.length = np) (hR : k + 1 ≤ kf ∧ 8 + (n' + 11) + 60 * k ≤ 60 * kf) (hrest : (rest.map fun v => v.category).sum ≤ 8) (hst : st = As.reverse ++ .ref a :: rest) (hd : decode cc pc = .ok (.invokespecial idx, 3)) {fn : ZS → Option ρ} {pr : ρ → ZS} (hU : F.uc = (pr r).c ∧ F.uw = (pr r).w) (h : rcv S d 1 (b1 pr kz fn) = some r)
    (kk : ∀ (S1 : ZS) (H1 : Heap) (locs1 : List Loc) (ad1 : Nat → Nat) (cells1 slots1 : Nat), GL E s F H1 locs1 ad1 S1.n S1 cells1 slots1 → GX ad N ad1 S1.n → fn S1 = some r → W p l e (F.R kf) s m args below meth c H1 locs1 cells1 slots1 Q (F0 m (pc + 3) ls rest)) : W p l e (F.R kf) s m args below meth c H locs cells slots Q (F0 m pc ls st) := by
  obtain ⟨ho, h⟩ := ite_inv h
  obtain ⟨u, hu, h⟩ := bind_inv h
  obtain ⟨⟨d1, d2⟩, h⟩ := chk_inv h
  have hcu : F.uc ≤ u.c ∧ F.uw ≤ u.w := ⟨by rw [hU.1]; exact d1, by rw [hU.2]; exact d2⟩
  exact af2_V hA hG hcu (run2_P C hA hls hG ha hcu (hM u hu) hav hm ho hlen hR hrest hst hd) (fun H1 locs1 ad1 cells1 slots1 g1 g2 => kk u H1 locs1 ad1 cells1 slots1 g1 g2 h)
theorem r2_cSI (C : Cx p s m args meth c cc n own E) (hA : CA F E s) (hls : ls.size = n) (hG : GL E s F H locs ad N S cells slots) {y : MethodName} {c' : ByteArray} {n' : Nat} {rt : Option FieldType} {k np idx : Nat} (As rest : List Value) {av : (Nat → Nat) → List Value} {kz : Option (Int32 × ZS)} (hM : ∀ u, kz = some u → MIL E l y c' n' rt k av S u) (hav : av ad = As) (hm : MLS own idx y c' n' rt np) (hlen : As.length = np) (hR : k + 1 ≤ kf ∧ 8 + (n' + 11) + 60 * k ≤ 60 * kf) (hrest : (rest.map fun v => v.category).sum ≤ 8) (hst : st = As.reverse ++ rest) (hd : decode cc pc = .ok (.invokestatic idx, 3)) {fn : Int32 → ZS → Option ρ} {pr : ρ → ZS} (hU : F.uc = (pr r).c ∧ F.uw = (pr r).w) (h : b2 pr kz fn = some r)
    (kk : ∀ (x : Int32) (S1 : ZS) (H1 : Heap) (locs1 : List Loc) (ad1 : Nat → Nat) (cells1 slots1 : Nat), GL E s F H1 locs1 ad1 S1.n S1 cells1 slots1 → GX ad N ad1 S1.n → fn x S1 = some r → W p l e (F.R kf) s m args below meth c H1 locs1 cells1 slots1 Q (F0 m (pc + 3) ls (.int x :: rest))) : W p l e (F.R kf) s m args below meth c H locs cells slots Q (F0 m pc ls st) := by
  obtain ⟨u, hu, h⟩ := bind_inv h
  obtain ⟨⟨d1, d2⟩, h⟩ := chk_inv h
  have hcu : F.uc ≤ u.2.c ∧ F.uw ≤ u.2.w := ⟨by rw [hU.1]; exact d1, by rw [hU.2]; exact d2⟩
  exact af2_I hA hG hcu (run2_S C hA hls hG hcu (hM u hu) hav hm hlen hR hrest hst hd) (fun H1 locs1 ad1 cells1 slots1 g1 g2 => kk u.1 u.2 H1 locs1 ad1 cells1 slots1 g1 g2 h)
theorem r2_cSR (C : Cx p s m args meth c cc n own E) (hA : CA F E s) (hls : ls.size = n) (hG : GL E s F H locs ad N S cells slots) {y : MethodName} {c' : ByteArray} {n' : Nat} {rt : Option FieldType} {k np idx : Nat} (As rest : List Value) {av : (Nat → Nat) → List Value} {kz : Option (Nat × ZS)} (hM : ∀ u, kz = some u → MRL E l y c' n' rt k av S u) (hav : av ad = As) (hm : MLS own idx y c' n' rt np) (hlen : As.length = np) (hR : k + 1 ≤ kf ∧ 8 + (n' + 11) + 60 * k ≤ 60 * kf) (hrest : (rest.map fun v => v.category).sum ≤ 8) (hst : st = As.reverse ++ rest) (hd : decode cc pc = .ok (.invokestatic idx, 3)) {fn : Nat → ZS → Option ρ} {pr : ρ → ZS} (hU : F.uc = (pr r).c ∧ F.uw = (pr r).w) (h : b2 pr kz fn = some r)
    (kk : ∀ (b x : Nat) (S1 : ZS) (H1 : Heap) (locs1 : List Loc) (ad1 : Nat → Nat) (cells1 slots1 : Nat), GL E s F H1 locs1 ad1 S1.n S1 cells1 slots1 → GX ad N ad1 S1.n → RA E ad1 S1.n x b → fn x S1 = some r → W p l e (F.R kf) s m args below meth c H1 locs1 cells1 slots1 Q (F0 m (pc + 3) ls (.ref b :: rest))) : W p l e (F.R kf) s m args below meth c H locs cells slots Q (F0 m pc ls st) := by
  obtain ⟨u, hu, h⟩ := bind_inv h
  obtain ⟨⟨d1, d2⟩, h⟩ := chk_inv h
  have hcu : F.uc ≤ u.2.c ∧ F.uw ≤ u.2.w := ⟨by rw [hU.1]; exact d1, by rw [hU.2]; exact d2⟩
  exact af2_R hA hG hcu (run2_S C hA hls hG hcu (hM u hu) hav hm hlen hR hrest hst hd) (fun b H1 locs1 ad1 cells1 slots1 g1 g2 g3 => kk b u.1 u.2 H1 locs1 ad1 cells1 slots1 g1 g2 g3 h)
theorem r2_cSV (C : Cx p s m args meth c cc n own E) (hA : CA F E s) (hls : ls.size = n) (hG : GL E s F H locs ad N S cells slots) {y : MethodName} {c' : ByteArray} {n' : Nat} {rt : Option FieldType} {k np idx : Nat} (As rest : List Value) {av : (Nat → Nat) → List Value} {kz : Option ZS} (hM : ∀ u, kz = some u → MVL E l y c' n' rt k av S u) (hav : av ad = As) (hm : MLS own idx y c' n' rt np) (hlen : As.length = np) (hR : k + 1 ≤ kf ∧ 8 + (n' + 11) + 60 * k ≤ 60 * kf) (hrest : (rest.map fun v => v.category).sum ≤ 8) (hst : st = As.reverse ++ rest) (hd : decode cc pc = .ok (.invokestatic idx, 3)) {fn : ZS → Option ρ} {pr : ρ → ZS} (hU : F.uc = (pr r).c ∧ F.uw = (pr r).w) (h : b1 pr kz fn = some r)
    (kk : ∀ (S1 : ZS) (H1 : Heap) (locs1 : List Loc) (ad1 : Nat → Nat) (cells1 slots1 : Nat), GL E s F H1 locs1 ad1 S1.n S1 cells1 slots1 → GX ad N ad1 S1.n → fn S1 = some r → W p l e (F.R kf) s m args below meth c H1 locs1 cells1 slots1 Q (F0 m (pc + 3) ls rest)) : W p l e (F.R kf) s m args below meth c H locs cells slots Q (F0 m pc ls st) := by
  obtain ⟨u, hu, h⟩ := bind_inv h
  obtain ⟨⟨d1, d2⟩, h⟩ := chk_inv h
  have hcu : F.uc ≤ u.c ∧ F.uw ≤ u.w := ⟨by rw [hU.1]; exact d1, by rw [hU.2]; exact d2⟩
  exact af2_V hA hG hcu (run2_S C hA hls hG hcu (hM u hu) hav hm hlen hR hrest hst hd) (fun H1 locs1 ad1 cells1 slots1 g1 g2 => kk u H1 locs1 ad1 cells1 slots1 g1 g2 h)
theorem r2_cIV (C : Cx p s m args meth c cc n own E) (hA : CA F E s) (hls : ls.size = n) (hG : GL E s F H locs ad N S cells slots) {y : MethodName} {c' : ByteArray} {n' : Nat} {k np idx : Nat} (As rest : List Value) {av : (Nat → Nat) → List Value} {kz : Option ZS} (hM : ∀ u, kz = some u → MVL E l y c' n' none k av S u) (hav : av ad = .ref a :: As) (hm : MLI own idx y c' n' np) (hlen : As.length = np) (hR : k + 1 ≤ kf ∧ 8 + (n' + 11) + 60 * k ≤ 60 * kf) (hrest : (rest.map fun v => v.category).sum ≤ 8) (hst : st = As.reverse ++ .ref a :: rest) (hd : decode cc pc = .ok (.invokespecial idx, 3)) {fn : ZS → Option ρ} {pr : ρ → ZS} (hU : F.uc = (pr r).c ∧ F.uw = (pr r).w) (h : b1 pr kz fn = some r)
    (kk : ∀ (S1 : ZS) (H1 : Heap) (locs1 : List Loc) (ad1 : Nat → Nat) (cells1 slots1 : Nat), GL E s F H1 locs1 ad1 S1.n S1 cells1 slots1 → GX ad N ad1 S1.n → fn S1 = some r → W p l e (F.R kf) s m args below meth c H1 locs1 cells1 slots1 Q (F0 m (pc + 3) ls rest)) : W p l e (F.R kf) s m args below meth c H locs cells slots Q (F0 m pc ls st) := by
  obtain ⟨u, hu, h⟩ := bind_inv h
  obtain ⟨⟨d1, d2⟩, h⟩ := chk_inv h
  have hcu : F.uc ≤ u.c ∧ F.uw ≤ u.w := ⟨by rw [hU.1]; exact d1, by rw [hU.2]; exact d2⟩
  exact af2_V hA hG hcu (run2_I C hA hls hG hcu (hM u hu) hav hm hlen hR hrest hst hd) (fun H1 locs1 ad1 cells1 slots1 g1 g2 => kk u H1 locs1 ad1 cells1 slots1 g1 g2 h)
/-! bytes -/
def fitB (v : Int32) : Bool := fits .byte (.int v)
def fitR (f : Nat → Int32) (sp n : Nat) : Bool := (List.range n).all (fun i => fitB (f (sp + i)))
theorem fitR_at {f : Nat → Int32} {sp n : Nat} (h : fitR f sp n = true) : ∀ i, i < n → fits .byte (.int (f (sp + i))) = true := fun i hi => List.all_eq_true.mp h i (List.mem_range.mpr hi)
/-- bytes copied: from a row x of bytes, from sp on, to a row y, from dp on, q of them -/
def cpB {ρ : Type} (S : ZS) (x : Nat) (sp : Int32) (y : Nat) (dp q : Int32) (f : ZS → Option ρ) : Option ρ := if (okA S x 200000 = true ∧ okA S y 200000 = true) ∧ (¬ sp < 0 ∧ ¬ dp < 0 ∧ ¬ q < 0) ∧ (sp.toNatClampNeg + q.toNatClampNeg ≤ S.K (x / 2) - 200000 ∧ dp.toNatClampNeg + q.toNatClampNeg ≤ S.K (y / 2) - 200000) ∧ fitR (S.i (x / 2)) sp.toNatClampNeg q.toNatClampNeg = true then f (S.wa (y / 2) (va_cpy (S.i (x / 2)) (S.i (y / 2)) sp.toNatClampNeg dp.toNatClampNeg q.toNatClampNeg)) else none
def sF (k : Nat) : Nat → Int32 := fun j => (sB k).getD j 0
def cpS {ρ : Type} (S : ZS) (k : Nat) (sp : Int32) (y : Nat) (dp q : Int32) (f : ZS → Option ρ) : Option ρ := if (k < NS ∧ okA S y 200000 = true) ∧ (¬ sp < 0 ∧ ¬ dp < 0 ∧ ¬ q < 0) ∧ (sp.toNatClampNeg + q.toNatClampNeg ≤ sL k ∧ dp.toNatClampNeg + q.toNatClampNeg ≤ S.K (y / 2) - 200000) ∧ fitR (sF k) sp.toNatClampNeg q.toNatClampNeg = true then f (S.wa (y / 2) (va_cpy (sF k) (S.i (y / 2)) sp.toNatClampNeg dp.toNatClampNeg q.toNatClampNeg)) else none
theorem wa_ne {S : ZS} {o : Nat} {f : Nat → Int32} {i : Nat} (h : i ≠ o) : (S.wa o f).i i = S.i i := if_neg h
theorem wa_eq {S : ZS} {o : Nat} {f : Nat → Int32} : (S.wa o f).i o = f := if_pos rfl
theorem r2_cpB (C : Cx p s m args meth c cc n own E) (hls : ls.size = n) (hG : GL E s F H locs ad N S cells slots) {i x y b : Nat} (hm : LCpy own i) (hax : RA E ad N x b) (hay : RA E ad N y a) {sp dp q : Int32} (hR : 1 ≤ (F.R kf).frames ∧ (rest.map fun v => v.category).sum + (nativeFrameWords "java/lang/System" "arraycopy" 5 + 11) ≤ (F.R kf).locals) (hd : decode cc pc = .ok (.invokestatic i, 3)) {fn : ZS → Option ρ} (h : cpB S x sp y dp q fn = some r)
    (kk : ∀ (H1 : Heap) (locs1 : List Loc) (S1 : ZS), GL E s F H1 locs1 ad N S1 cells slots → fn S1 = some r → W p l e (F.R kf) s m args below meth c H1 locs1 cells slots Q (F0 m (pc + 3) ls rest)) : W p l e (F.R kf) s m args below meth c H locs cells slots Q (F0 m pc ls (.int q :: .int dp :: .ref a :: .int sp :: .ref b :: rest)) := by
  obtain ⟨hx, hb, hml, hown, hts, hK, -⟩ := C
  obtain ⟨⟨⟨o1, o2⟩, ⟨n1, n2, n3⟩, ⟨l1, l2⟩, hf⟩, h⟩ := ite_inv h
  obtain ⟨x1, x2, mx, x3, x4⟩ := okA_inv o1
  obtain ⟨y1, y2, my, y3, y4⟩ := okA_inv o2
  rw [x3, Nat.add_sub_cancel_left] at l1
  rw [y3, Nat.add_sub_cancel_left] at l2
  have hex : (wd E ad S)[NC + x / 2]? = some (b, .inl (E.tB, mx, .inl (S.i (x / 2)))) := by rw [GL_at hG hax x1 x2, dcel_b x3 x4]
  have hey : (wd E ad S)[NC + y / 2]? = some (a, .inl (E.tB, my, .inl (S.i (y / 2)))) := by rw [GL_at hG hay y1 y2, dcel_b y3 y4]
  refine va_copyi hx hb (hml.trans hls.symm) hown (hts _ hm.1) (hts _ hm.2.1) (hts _ hm.2.2.1) (hts _ hm.2.2.2) hK hG.1 hG.2.1 hG.2.2.1 _ _ 1 1 hex hey rfl rfl rfl n1 n2 n3 l1 l2 (fitR_at hf) hR.1 hR.2 hd (fun H1 locs1 a1 a2 a3 => ?_)
  rw [hay.odd y1] at a1 a2
  refine kk H1 locs1 _ (GL_set (S1 := S.wa (y / 2) (va_cpy (S.i (x / 2)) (S.i (y / 2)) sp.toNatClampNeg dp.toNatClampNeg q.toNatClampNeg)) hG rfl rfl ⟨rfl, rfl⟩ hG.2.2.2.2.1.wa y2 ?_ (fun i hi => dcel_cong rfl (wa_ne hi) rfl) a1 a2 a3) h
  rw [dcel_b (show (S.wa (y / 2) _).K (y / 2) = 200000 + my from y3) y4, wa_eq]
theorem r2_cpS (C : Cx p s m args meth c cc n own E) (hA : CA F E s) (hls : ls.size = n) (hG : GL E s F H locs ad N S cells slots) {i k y : Nat} (hm : LCpy own i) (hay : RA E ad N y a) {sp dp q : Int32} (hR : 1 ≤ (F.R kf).frames ∧ (rest.map fun v => v.category).sum + (nativeFrameWords "java/lang/System" "arraycopy" 5 + 11) ≤ (F.R kf).locals) (hd : decode cc pc = .ok (.invokestatic i, 3)) {fn : ZS → Option ρ} (h : cpS S k sp y dp q fn = some r)
    (kk : ∀ (H1 : Heap) (locs1 : List Loc) (S1 : ZS), GL E s F H1 locs1 ad N S1 cells slots → fn S1 = some r → W p l e (F.R kf) s m args below meth c H1 locs1 cells slots Q (F0 m (pc + 3) ls rest)) : W p l e (F.R kf) s m args below meth c H locs cells slots Q (F0 m pc ls (.int q :: .int dp :: .ref a :: .int sp :: .ref (E.aV k) :: rest)) := by
  obtain ⟨⟨⟨hk, o2⟩, ⟨n1, n2, n3⟩, ⟨l1, l2⟩, hf⟩, h⟩ := ite_inv h
  have hT := ((C.so hk).2.2.2.narrow hA.2).kept hG.2.2.1.2.1
  obtain ⟨hx, hb, hml, hown, hts, hK, -⟩ := C
  obtain ⟨y1, y2, my, y3, y4⟩ := okA_inv o2
  rw [y3, Nat.add_sub_cancel_left] at l2
  have e9 := hay.odd y1
  subst e9
  have hey : (wd E ad S)[NC + y / 2]? = some (ad (y / 2), .inl (E.tB, my, .inl (S.i (y / 2)))) := by rw [GL_at hG hay y1 y2, dcel_b y3 y4]
  obtain ⟨scr, s1, s2, s3, s4, -, s5, -⟩ := hT
  have s5 : ∀ j, j < sL k → scr.slots[j]? = some (.int (sF k j)) := s5
  have nn : ∀ z : Int32, ¬ z < 0 → z.toInt = (z.toNatClampNeg : Int) := fun z hz => by
    have h0 := Int32.le_iff_toInt_le.mp (Int32.not_lt.mp hz)
    have h1 : (0 : Int32).toInt = 0 := by decide
    show z.toInt = ((z.toInt.toNat : Nat) : Int)
    omega
  have hc1 : H[ad (y / 2)]? = some (vp_cell E.tB (my, .inl (S.i (y / 2)))) := hG.1 _ _ hey
  have e1 : copied scr (vp_cell E.tB (my, .inl (S.i (y / 2)))) sp dp q = vp_cell E.tB (my, .inl (va_cpy (sF k) (S.i (y / 2)) sp.toNatClampNeg dp.toNatClampNeg q.toNatClampNeg)) := va_copiedX (fun z => .int z) scr E.tB (sF k) (S.i (y / 2)) s5 l1
  have hl9 : ad (y / 2) < H.size := (Array.getElem?_eq_some_iff.mp hc1).1
  have key : ∀ L : List Loc, (∀ z ∈ L, z.base = ad (y / 2)) → W p l e (F.R kf) s m args below meth c (H.setIfInBounds (ad (y / 2)) (vp_cell E.tB (my, .inl (va_cpy (sF k) (S.i (y / 2)) sp.toNatClampNeg dp.toNatClampNeg q.toNatClampNeg)))) (locs ++ L) cells slots Q (F0 m (pc + 3) ls rest) := by
    intro L hL
    have oq : ∀ z : Nat, z ≠ ad (y / 2) → (H.setIfInBounds (ad (y / 2)) (vp_cell E.tB (my, .inl (va_cpy (sF k) (S.i (y / 2)) sp.toNatClampNeg dp.toNatClampNeg q.toNatClampNeg))))[z]? = H[z]? := fun z hz => by simp [Array.getElem?_setIfInBounds, Ne.symm hz]
    have a1 := hG.1.set (e := .inl (E.tB, my, .inl (va_cpy (sF k) (S.i (y / 2)) sp.toNatClampNeg dp.toNatClampNeg q.toNatClampNeg))) hG.2.1 hey (show (H.setIfInBounds (ad (y / 2)) _)[ad (y / 2)]? = some _ by simp [Array.getElem?_setIfInBounds, hl9]) oq
    have a2 := hG.2.1.set (e := .inl (E.tB, my, .inl (va_cpy (sF k) (S.i (y / 2)) sp.toNatClampNeg dp.toNatClampNeg q.toNatClampNeg))) hey
    refine kk _ _ _ (GL_set (S1 := S.wa (y / 2) (va_cpy (sF k) (S.i (y / 2)) sp.toNatClampNeg dp.toNatClampNeg q.toNatClampNeg)) hG rfl rfl ⟨rfl, rfl⟩ hG.2.2.2.2.1.wa y2 ?_ (fun i hi => dcel_cong rfl (wa_ne hi) rfl) a1 a2 ?_) h
    · rw [dcel_b (show (S.wa (y / 2) _).K (y / 2) = 200000 + my from y3) y4, wa_eq]
    · refine ⟨by simp; exact hG.2.2.1.1, fun z g1 g2 => ?_, fun z hz => ?_⟩
      · rw [oq z (fun e => g2 (by rw [e]; exact hG.2.1.2 _ _ hey))]
        exact hG.2.2.1.2.1 z g1 g2
      · rcases List.mem_append.mp hz with h | h
        · exact hG.2.2.1.2.2 z h
        · rw [hL z h]
          exact hG.2.1.2 _ _ hey
  intro T hT X
  obtain ⟨hs6, k0, hk0, cm0, hkk0⟩ := s2
  obtain ⟨-, k1, hk1, cm1, hkk1⟩ := (hK.2 1 _ rfl).1 my (fun j => .int (S.i (y / 2) j))
  obtain ⟨vm', X', step⟩ := X.arraycopy hx hown (hts _ hm.1) (hts _ hm.2.1) (hts _ hm.2.2.1) (hts _ hm.2.2.2) (src := E.aV k) (dst := ad (y / 2)) (cs := scr) (cd := vp_cell E.tB (my, .inl (S.i (y / 2)))) (srcPos := sp) (destPos := dp) (n := q) (by rw [hT]; exact s1) (by rw [hT]; exact hc1)
    hs6 (fun _ h => by cases h) s3 (fun h => by cases h) hk0 hk1 hkk0 hkk1 rfl n1 n2 n3
    (by rw [nn sp n1, nn q n3]; omega)
    (by rw [nn dp n2, nn q n3]; show ¬ _ > ((arrV E.tB my (fun j => .int (S.i (y / 2) j))).slots.size : Int); rw [arrV_size]; omega)
    (fun vm₁ _ i hi => by
      have e : scr.slots.getD (sp.toNatClampNeg + i) .null = .int (sF k (sp.toNatClampNeg + i)) := by
        rw [Array.getD_eq_getD_getElem?, s5 _ (by omega)]
        rfl
      refine ⟨?_, ?_⟩
      · rw [e]
        exact fitR_at hf i hi
      · rw [e]
        exact trivial)
    (g := F0 m pc ls (.int q :: .int dp :: .ref (ad (y / 2)) :: .int sp :: .ref (E.aV k) :: rest)) rfl (by show ls.size = _; rw [hml, hls]) (rest := rest) rfl (by rw [hb]; exact hd) hR.1 (by have := hR.2; show 2 * 0 + _ + _ ≤ _; omega)
  rw [e1] at X' step
  have hheap : ((T.setVm vm').setCell (ad (y / 2)) (vp_cell E.tB (my, .inl (va_cpy (sF k) (S.i (y / 2)) sp.toNatClampNeg dp.toNatClampNeg q.toNatClampNeg)))).heap = H.setIfInBounds (ad (y / 2)) (vp_cell E.tB (my, .inl (va_cpy (sF k) (S.i (y / 2)) sp.toNatClampNeg dp.toNatClampNeg q.toNatClampNeg))) := by rw [← hT]; rfl
  obtain ⟨t, a1, b1⟩ := key _ (fun z hz => by obtain ⟨w, -, hw⟩ := List.mem_map.mp hz; rw [← hw]) _ hheap X'
  exact ⟨t, step t a1, b1⟩
/-! a row of bytes, made again -/
def clB {ρ : Type} (pr : ρ → ZS) (S : ZS) (x : Nat) (f : Nat → ZS → Option ρ) : Option ρ := if okA S x 200000 = true ∧ (1 ≤ S.c ∧ S.K (x / 2) - 200000 ≤ S.w) ∧ fitR (S.i (x / 2)) 0 (S.K (x / 2) - 200000) = true then chk pr (S.new (S.K (x / 2)) (S.K (x / 2) - 200000) (S.i (x / 2))) (f (2 * S.n + 1) (S.new (S.K (x / 2)) (S.K (x / 2) - 200000) (S.i (x / 2)))) else none
theorem r2_clone (C : Cx p s m args meth c cc n own E) (hA : CA F E s) (hls : ls.size = n) (hG : GL E s F H locs ad N S cells slots) (ha : RA E ad N d a) {i : Nat} (h1 : Cond.methodLink own i ⟨"[B", "clone", "()Ljava/lang/Object;"⟩ ∈ TB) (h2 : Cond.sameMethod "[B" "java/lang/Object" "clone" "()Ljava/lang/Object;" ∈ TB) (h3 : Cond.native ⟨"java/lang/Object", "clone", "()Ljava/lang/Object;"⟩ ∈ TB) (h4 : Cond.instanceMethod ⟨"java/lang/Object", "clone", "()Ljava/lang/Object;"⟩ ∈ TB) (h5 : Cond.selects "[B" ⟨"[B", "clone", "()Ljava/lang/Object;"⟩ ⟨"java/lang/Object", "clone", "()Ljava/lang/Object;"⟩ ∈ TB) (h6 : Cond.castable "[B" "java/lang/Cloneable" ∈ NB)
    (hR : 1 ≤ (F.R kf).frames ∧ (rest.map fun v => v.category).sum + 14 ≤ (F.R kf).locals) (hd : decode cc pc = .ok (.invokevirtual i, 3)) {fn : Nat → ZS → Option ρ} {pr : ρ → ZS} (hU : F.uc = (pr r).c ∧ F.uw = (pr r).w) (h : clB pr S d fn = some r)
    (kk : ∀ (q x : Nat) (H1 : Heap) (ad1 : Nat → Nat) (S1 : ZS) (cells1 slots1 : Nat), GL E s F H1 locs ad1 S1.n S1 cells1 slots1 → GX ad N ad1 S1.n → RA E ad1 S1.n x q → fn x S1 = some r → W p l e (F.R kf) s m args below meth c H1 locs cells1 slots1 Q (F0 m (pc + 3) ls (.ref q :: rest))) : W p l e (F.R kf) s m args below meth c H locs cells slots Q (F0 m pc ls (.ref a :: rest)) := by
  obtain ⟨⟨o1, ⟨c1, c2⟩, hf⟩, h⟩ := ite_inv h
  obtain ⟨⟨d1, d2⟩, h⟩ := chk_inv h
  obtain ⟨x1, x2, mx, x3, x4⟩ := okA_inv o1
  have e9 : S.K (d / 2) - 200000 = mx := by rw [x3, Nat.add_sub_cancel_left]
  rw [e9] at c2 hf d1 d2 h
  have d1 : (pr r).c ≤ S.c - 1 := d1
  have d2 : (pr r).w ≤ S.w - mx := d2
  have hex : (wd E ad S)[NC + d / 2]? = some (a, .inl (E.tB, mx, .inl (S.i (d / 2)))) := by rw [GL_at hG ha x1 x2, dcel_b x3 x4]
  obtain ⟨hx, hb, hml, hown, hts, hK, hN, -⟩ := C
  have hnm : s.vm.findClass "[B" = some E.tB := (hK.2 1 _ rfl).2
  refine va_clone hx hb (hml.trans hls.symm) hown (hts _ h1) (hts _ h2) (hts _ h3) (hts _ h4) (hts _ h5) (hN _ h6) hK hG.1 hG.2.1 hG.2.2.1 hA.1 _ 1 hex rfl hnm (fun i v hv => ?_) hR.1 hR.2 (by show _ ≤ F.c - F.uc; have := hG.2.2.2.2.2.1; omega) (by show slots + mx ≤ F.w - F.uw; have := hG.2.2.2.2.2.2.1; omega) hd (fun q H1 a1 a2 a3 a4 => ?_)
  · have hi : i < mx := by
      have := (Array.getElem?_eq_some_iff.mp hv).1
      rwa [show (vp_cell E.tB (mx, .inl (S.i (d / 2)))).slots.size = mx from arrV_size _ _ _] at this
    have hv' : (arrV E.tB mx (fun j => .int (S.i (d / 2) j))).slots[i]? = some v := hv
    rw [arrV_read _ _ hi] at hv'
    cases hv'
    have := fitR_at hf i hi
    rwa [Nat.zero_add] at this
  · obtain ⟨g1, g2, g3⟩ := GL_new (kind := S.K (d / 2)) (sl := mx) (f := S.i (d / 2)) hG c1 c2 ⟨by omega, by omega⟩ (by rw [dcel_b (new_K.trans x3) x4, new_i]) a2 a3 a4
    exact kk q _ H1 _ _ _ _ g1 g2 g3 h
def ckA {ρ : Type} (S : ZS) (d base : Nat) (x : Option ρ) : Option ρ := if okA S d base = true then x else none
theorem r2_castB (C : Cx p s m args meth c cc n own E) (hG : GL E s F H locs ad N S cells slots) (ha : RA E ad N d a) {i : Nat} (h1 : Cond.classLink own i "[B" ∈ TB) (hd : decode cc pc = .ok (.checkcast i, 3)) {x0 : Option ρ} (h : ckA S d 200000 x0 = some r) (kk : x0 = some r → W p l e (F.R kf) s m args below meth c H locs cells slots Q (F0 m (pc + 3) ls (.ref a :: rest))) : W p l e (F.R kf) s m args below meth c H locs cells slots Q (F0 m pc ls (.ref a :: rest)) := by
  obtain ⟨o1, h⟩ := ite_inv h
  obtain ⟨x1, x2, mx, x3, x4⟩ := okA_inv o1
  have hex : (wd E ad S)[NC + d / 2]? = some (a, .inl (E.tB, mx, .inl (S.i (d / 2)))) := by rw [GL_at hG ha x1 x2, dcel_b x3 x4]
  exact va_castA C.1 C.2.1 C.2.2.2.1 (C.2.2.2.2.1 _ h1) hG.1 _ hex (C.2.2.2.2.2.1.2 1 _ rfl).2 hd (kk h)
def rmI {ρ : Type} (x y : Int32) (f : Int32 → Option ρ) : Option ρ := if ¬ y = 0 then f (x - x / y * y) else none
theorem r2_rem (C : Cx p s m args meth c cc n own E) {R : Room} {x y : Int32} (hd : decode cc pc = .ok (.irem, 1)) {fn : Int32 → Option ρ} (h : rmI x y fn = some r) (kk : ∀ z : Int32, fn z = some r → W p l e R s m args below meth c H locs cells slots Q (F0 m (pc + 1) ls (.int z :: rest))) : W p l e R s m args below meth c H locs cells slots Q (F0 m pc ls (.int y :: .int x :: rest)) := by
  obtain ⟨h0, h⟩ := ite_inv h
  exact lv_irem C.1 C.2.1 hd h0 (kk _ h)
/-! static rows, the script, String constants -/
theorem r2_gCS (C : Cx p s m args meth c cc n own E) (hA : CA F E s) (hG : GL E s F H locs ad N S cells slots) {idx : Nat} (hl : Cond.fieldLink own idx "java/lang/String" "COMPACT_STRINGS" "Z" ∈ TB) (hd : decode cc pc = .ok (.getstatic idx, 3)) (kk : W p l e (F.R kf) s m args below meth c H locs cells slots Q (F0 m (pc + 3) ls (.int 1 :: rest))) : W p l e (F.R kf) s m args below meth c H locs cells slots Q (F0 m pc ls rest) :=
  va_gets C.1 C.2.1 (C.oo.1.narrow hA.2) hG.2.2.1 C.2.2.2.1 (C.2.2.2.2.1 _ hl) (fun _ h9 => h9) hd kk
theorem r2_gST (C : Cx p s m args meth c cc n own E) (hA : CA F E s) (hG : GL E s F H locs ad N S cells slots) (j : Nat) (hj : j < 3) {idx : Nat} (hl : Cond.fieldLink own idx (stG j).1 (stG j).2.1 "[Ljava/lang/String;" ∈ TB ∨ ∃ host, Cond.fieldLinkNest own idx (stG j).1 (stG j).2.1 "[Ljava/lang/String;" host ∈ NB) (hd : decode cc pc = .ok (.getstatic idx, 3)) (kk : W p l e (F.R kf) s m args below meth c H locs cells slots Q (F0 m (pc + 3) ls (.ref (E.tW j) :: rest))) : W p l e (F.R kf) s m args below meth c H locs cells slots Q (F0 m pc ls rest) := by
  rcases hl with hl | ⟨host, hl⟩
  · exact va_gets C.1 C.2.1 ((C.oo.2.2.2.2.1 j hj).1.narrow hA.2) hG.2.2.1 C.2.2.2.1 (C.2.2.2.2.1 _ hl) (fun _ h9 => h9) hd kk
  · exact va_getsN C.1 C.2.1 ((C.oo.2.2.2.2.1 j hj).1.narrow hA.2) hG.2.2.1 C.2.2.2.1 (va_Nw.use rfl (C.2.2.2.2.2.2.1 _ hl)) (fun _ h9 => h9) hd kk
/-- a word of a static row: the number of the String -/
def stN {ρ : Type} (j : Nat) (i : Int32) (f : Nat → Option ρ) : Option ρ := if ¬ (i < 0 ∨ (stG j).2.2.1 ≤ i.toNatClampNeg) then f ((stG j).2.2.2 + i.toNatClampNeg) else none
theorem r2_aST (C : Cx p s m args meth c cc n own E) (hA : CA F E s) (hG : GL E s F H locs ad N S cells slots) {j : Nat} (hj : j < 3) {i : Int32} (hd : decode cc pc = .ok (.aaload, 1)) {fn : Nat → Option ρ} (h : stN j i fn = some r) (kk : ∀ x : Nat, fn x = some r → W p l e (F.R kf) s m args below meth c H locs cells slots Q (F0 m (pc + 1) ls (.ref (E.aK x) :: rest))) : W p l e (F.R kf) s m args below meth c H locs cells slots Q (F0 m pc ls (.int i :: .ref (E.tW j) :: rest)) := by
  obtain ⟨hin, h⟩ := ite_inv h
  exact vb_tq C.1 C.2.1 ((C.oo.2.2.2.2.1 j hj).2.narrow hA.2) hG.2.2.1 hin rfl hd (kk _ h)
theorem r2_gDO (C : Cx p s m args meth c cc n own E) (hA : CA F E s) (hG : GL E s F H locs ad N S cells slots) {idx : Nat} (hl : Cond.fieldLink own idx "java/lang/Integer" "DigitOnes" "[B" ∈ TB) (hd : decode cc pc = .ok (.getstatic idx, 3)) (kk : W p l e (F.R kf) s m args below meth c H locs cells slots Q (F0 m (pc + 3) ls (.ref (E.tW 3) :: rest))) : W p l e (F.R kf) s m args below meth c H locs cells slots Q (F0 m pc ls rest) :=
  va_gets C.1 C.2.1 (C.oo.2.2.2.2.2.1.1.1.narrow hA.2) hG.2.2.1 C.2.2.2.1 (C.2.2.2.2.1 _ hl) (fun _ h9 => h9) hd kk
theorem r2_gDT (C : Cx p s m args meth c cc n own E) (hA : CA F E s) (hG : GL E s F H locs ad N S cells slots) {idx : Nat} (hl : Cond.fieldLink own idx "java/lang/Integer" "DigitTens" "[B" ∈ TB) (hd : decode cc pc = .ok (.getstatic idx, 3)) (kk : W p l e (F.R kf) s m args below meth c H locs cells slots Q (F0 m (pc + 3) ls (.ref (E.tW 4) :: rest))) : W p l e (F.R kf) s m args below meth c H locs cells slots Q (F0 m pc ls rest) :=
  va_gets C.1 C.2.1 (C.oo.2.2.2.2.2.1.2.1.narrow hA.2) hG.2.2.1 C.2.2.2.1 (C.2.2.2.2.1 _ hl) (fun _ h9 => h9) hd kk
def dgO {ρ : Type} (i : Int32) (f : Int32 → Option ρ) : Option ρ := if ¬ (i < 0 ∨ 100 ≤ i.toNatClampNeg) then f (nI (48 + i.toNatClampNeg % 10)) else none
def dgT {ρ : Type} (i : Int32) (f : Int32 → Option ρ) : Option ρ := if ¬ (i < 0 ∨ 100 ≤ i.toNatClampNeg) then f (nI (48 + i.toNatClampNeg / 10)) else none
theorem r2_dgO (C : Cx p s m args meth c cc n own E) (hA : CA F E s) (hG : GL E s F H locs ad N S cells slots) {i : Int32} (hd : decode cc pc = .ok (.baload, 1)) {fn : Int32 → Option ρ} (h : dgO i fn = some r) (kk : ∀ x : Int32, fn x = some r → W p l e (F.R kf) s m args below meth c H locs cells slots Q (F0 m (pc + 1) ls (.int x :: rest))) : W p l e (F.R kf) s m args below meth c H locs cells slots Q (F0 m pc ls (.int i :: .ref (E.tW 3) :: rest)) := by
  obtain ⟨hin, h⟩ := ite_inv h
  exact va_tb C.1 C.2.1 (C.oo.2.2.2.2.2.1.1.2.narrow hA.2) hG.2.2.1 hin rfl hd (kk _ h)
theorem r2_dgT (C : Cx p s m args meth c cc n own E) (hA : CA F E s) (hG : GL E s F H locs ad N S cells slots) {i : Int32} (hd : decode cc pc = .ok (.baload, 1)) {fn : Int32 → Option ρ} (h : dgT i fn = some r) (kk : ∀ x : Int32, fn x = some r → W p l e (F.R kf) s m args below meth c H locs cells slots Q (F0 m (pc + 1) ls (.int x :: rest))) : W p l e (F.R kf) s m args below meth c H locs cells slots Q (F0 m pc ls (.int i :: .ref (E.tW 4) :: rest)) := by
  obtain ⟨hin, h⟩ := ite_inv h
  exact va_tb C.1 C.2.1 (C.oo.2.2.2.2.2.1.2.2.narrow hA.2) hG.2.2.1 hin rfl hd (kk _ h)
theorem r2_sval (C : Cx p s m args meth c cc n own E) (hA : CA F E s) (hG : GL E s F H locs ad N S cells slots) {i idx : Nat} (hl : Cond.fieldLink own idx "java/lang/String" "value" "[B" ∈ TB) (hd : decode cc pc = .ok (.getfield idx, 3)) {x : Option ρ} (h : ckS i x = some r) (kk : x = some r → W p l e (F.R kf) s m args below meth c H locs cells slots Q (F0 m (pc + 3) ls (.ref (E.aV i) :: rest))) : W p l e (F.R kf) s m args below meth c H locs cells slots Q (F0 m pc ls (.ref (E.aK i) :: rest)) := by
  obtain ⟨hi, h⟩ := ckS_inv h
  exact vk_getf C.1 C.2.1 ((C.so hi).2.2.1.narrow hA.2) hG.2.2.1 C.2.2.2.1 (C.2.2.2.2.1 _ hl) (fun _ h9 => h9) hd (kk h)
theorem r2_slen (C : Cx p s m args meth c cc n own E) (hA : CA F E s) (hG : GL E s F H locs ad N S cells slots) {i : Nat} (hd : decode cc pc = .ok (.arraylength, 1)) {x : Option ρ} (h : ckS i x = some r) (kk : x = some r → W p l e (F.R kf) s m args below meth c H locs cells slots Q (F0 m (pc + 1) ls (.int (nI (sL i)) :: rest))) : W p l e (F.R kf) s m args below meth c H locs cells slots Q (F0 m pc ls (.ref (E.aV i) :: rest)) := by
  obtain ⟨hi, h⟩ := ckS_inv h
  exact va_tlen C.1 C.2.1 ((C.so hi).2.2.2.narrow hA.2) hG.2.2.1 rfl hd (kk h)
def xld {ρ : Type} (L : Nat) (xs : Nat → Int32) (i : Int32) (f : Int32 → Option ρ) : Option ρ := if ¬ (i < 0 ∨ L ≤ i.toNatClampNeg) then f (xs i.toNatClampNeg) else none
theorem r2_xld (C : Cx p s m args meth c cc n own E) (hA : CA F E s) (hG : GL E s F H locs ad N S cells slots) {i : Int32} (hd : decode cc pc = .ok (.iaload, 1)) {fn : Int32 → Option ρ} (h : xld E.sL E.sx i fn = some r) (kk : ∀ x : Int32, fn x = some r → W p l e (F.R kf) s m args below meth c H locs cells slots Q (F0 m (pc + 1) ls (.int x :: rest))) : W p l e (F.R kf) s m args below meth c H locs cells slots Q (F0 m pc ls (.int i :: .ref E.sb :: rest)) := by
  obtain ⟨hin, h⟩ := ite_inv h
  have hz : E.sz ≤ s.heap.size := C.2.2.2.2.2.2.2.2.1
  exact va_sld C.1 C.2.1 C.ox.1 (Nat.lt_of_lt_of_le C.ox.2 hz) (fun q => Nat.not_le.mpr C.ox.2 (hA.2 _ q)) hG.2.2.1 hin hd (kk _ h)
theorem r2_xlen (C : Cx p s m args meth c cc n own E) (hA : CA F E s) (hG : GL E s F H locs ad N S cells slots) (hd : decode cc pc = .ok (.arraylength, 1)) (kk : W p l e (F.R kf) s m args below meth c H locs cells slots Q (F0 m (pc + 1) ls (.int (nI E.sL) :: rest))) : W p l e (F.R kf) s m args below meth c H locs cells slots Q (F0 m pc ls (.ref E.sb :: rest)) := by
  have hz : E.sz ≤ s.heap.size := C.2.2.2.2.2.2.2.2.1
  exact va_slen C.1 C.2.1 C.ox.1 (Nat.lt_of_lt_of_le C.ox.2 hz) (fun q => Nat.not_le.mpr C.ox.2 (hA.2 _ q)) hG.2.2.1 hd kk
theorem r2_ldcw (C : Cx p s m args meth c cc n own E) {R : Room} {idx : Nat} (i : Nat) (hi : i < NS) (ho : (sG i).1 = own ∧ (sG i).2.1 = idx) (hd : decode cc pc = .ok (.ldc_w idx, 3)) (kk : W p l e R s m args below meth c H locs cells slots Q (F0 m (pc + 3) ls (.ref (E.aK i) :: rest))) : W p l e R s m args below meth c H locs cells slots Q (F0 m pc ls rest) := by
  obtain ⟨rfl, rfl⟩ := ho
  have hZ := (C.oo.2.2.2.2.2.2 i hi).2
  intro T hT X
  obtain ⟨t, a1, b1⟩ := kk T hT X
  refine ⟨t, ?_, b1⟩
  obtain ⟨k, cf, i9, a', hk, hcf, hcp, -, hr, hev'⟩ := Cond.stringRef_spec C.2.2.2.1 hZ.1
  cases hZ.2.symm.trans hev'
  obtain ⟨k', hk', he⟩ := X.warmed.alike.2.2 _ _ hk
  have hr' : k'.resolved[(sG i).2.1]? = some (some (.string (E.aK i))) := by
    rcases X.warmed.entry hk hk' (sG i).2.1 with h | ⟨h, -⟩
    · rw [h]; exact hr
    · rw [hr] at h; cases h
  have hexec := C.1
  have hdg : decode c.code pc = .ok (.ldc_w (sG i).2.1, 3) := by rw [C.2.1]; exact hd
  jvm_step X.here [hexec, hdg, ldc_w.wp_string (e := e) (s := T) (f := F0 m pc ls rest) X.here.top hk' (by rw [he]; exact hcf) hcp hr']
  exact a1
/-- a method of a String constant that writes nothing -/
theorem r2_csI (C : Cx p s m args meth c cc n own E) (hA : CA F E s) (hls : ls.size = n) (hG : GL E s F H locs ad N S cells slots) {y : MethodName} {c' : ByteArray} {n' : Nat} {rt : Option FieldType} {k np i idx : Nat} (As rest : List Value) {kz : Option Int32} (hM : ∀ u, kz = some u → MI E l y c' n' rt k 0 0 (.ref (E.aK i) :: As) S.g (u, S.g)) (hm : MLV own idx y c' n' rt np) (h6 : Cond.methodLink own idx y ∈ TB) (hy : y.cls = "java/lang/String") (hlen : As.length = np) (hR : k + 1 ≤ kf ∧ 8 + (n' + 11) + 60 * k ≤ 60 * kf) (hrest : (rest.map fun v => v.category).sum ≤ 8) (hst : st = As.reverse ++ .ref (E.aK i) :: rest) (hd : decode cc pc = .ok (.invokevirtual idx, 3)) {fn : Int32 → Option ρ} (h : ckS i (kz.bind fn) = some r)
    (kk : ∀ (x : Int32) (H1 : Heap) (locs1 : List Loc), GL E s F H1 locs1 ad N S cells slots → fn x = some r → W p l e (F.R kf) s m args below meth c H1 locs1 cells slots Q (F0 m (pc + 3) ls (.int x :: rest))) : W p l e (F.R kf) s m args below meth c H locs cells slots Q (F0 m pc ls st) := by
  obtain ⟨hi, h⟩ := ckS_inv h
  obtain ⟨u, hu, h⟩ := bind_inv h
  have hpre := preCl C hA hG (.ref (E.aK i) :: As)
  have hrecv : ∃ cell : Cell, H[E.aK i]? = some cell ∧ cell.vm.isStatics = false ∧ s.vm.findClass y.cls = some cell.cls := by
    obtain ⟨cell, h1, h2, h3, -⟩ := ((C.so hi).1.narrow hA.2).kept hG.2.2.1.2.1
    exact ⟨cell, h1, h2, by rw [hy]; exact h3⟩
  obtain ⟨hx, hb, hml, hown, hts, hK, hN, -⟩ := id C
  obtain ⟨h1, h2, h3, h4, h5, -⟩ := hm
  have hf : cells + 0 ≤ F.c - F.uc ∧ slots + 0 ≤ F.w - F.uw := by
    have e1 := hG.2.2.2.2.2.1
    have e2 := hG.2.2.2.2.2.2.1
    obtain ⟨q1, q2⟩ := hG.2.2.2.2.2.2.2.2
    constructor <;> omega
  have hr : va_Run p l e (F.R kf) s m args below meth c H locs cells slots 0 0 (F0 m pc ls st) rest (QI E H.size u S.g (Value.ref (E.aK i) :: As).toArray) (AA E H.size) := va_runV (C := y.cls) (Ts := TB) ⟨hx, hb, hml, hown, hts⟩ (hM u hu H.size) ⟨callB_of np hts (gwz h1) rfl rfl rfl (hts _ h2) (hts _ h6) h5 hR, hts _ h3, hts _ h4⟩ ⟨PC_blind, hrecv, hpre⟩ rfl hlen hls hst (lv_room hrest) hd hf
  refine va_calli hr hG.2.2.1 (fun q _ h => AA_inL hA hG q h) (AA_inL hA hG) (fun r9 u9 t H1 locs1 ht hvm hw hB hz hk hS => ?_)
  have hw : r9 = u := hw
  subst hw
  exact kk _ H1 locs1 (GL_cls (g1 := S.g) (c1 := 0) (w1 := 0) hG ⟨Nat.zero_le _, Nat.zero_le _⟩ hG.2.2.2.2.2.2.2.2 (by rw [← ht]; exact hB) hk hS) h
/-- a static method of numbers alone, as the class's side knows it -/
theorem r2_csV (C : Cx p s m args meth c cc n own E) (hA : CA F E s) (hls : ls.size = n) (hG : GL E s F H locs ad N S cells slots) {y : MethodName} {c' : ByteArray} {n' : Nat} {rt : Option FieldType} {k np idx : Nat} (As rest : List Value) {kz : Option Unit} (hM : ∀ u, kz = some u → MV E l y c' n' rt k 0 0 As S.g S.g) (hm : MLS own idx y c' n' rt np) (h6 : Cond.methodLink own idx y ∈ TB) (hlen : As.length = np) (hR : k + 1 ≤ kf ∧ 8 + (n' + 11) + 60 * k ≤ 60 * kf) (hrest : (rest.map fun v => v.category).sum ≤ 8) (hst : st = As.reverse ++ rest) (hd : decode cc pc = .ok (.invokestatic idx, 3)) {fn : Unit → Option ρ} (h : kz.bind fn = some r)
    (kk : ∀ (x : Unit) (H1 : Heap) (locs1 : List Loc), GL E s F H1 locs1 ad N S cells slots → fn x = some r → W p l e (F.R kf) s m args below meth c H1 locs1 cells slots Q (F0 m (pc + 3) ls rest)) : W p l e (F.R kf) s m args below meth c H locs cells slots Q (F0 m pc ls st) := by
  obtain ⟨u, hu, h⟩ := bind_inv h
  have hpre := preCl C hA hG As
  obtain ⟨hx, hb, hml, hown, hts, hK, hN, -⟩ := id C
  obtain ⟨h1, h2, h3, h5, -⟩ := hm
  have hf : cells + 0 ≤ F.c - F.uc ∧ slots + 0 ≤ F.w - F.uw := by
    have e1 := hG.2.2.2.2.2.1
    have e2 := hG.2.2.2.2.2.2.1
    obtain ⟨q1, q2⟩ := hG.2.2.2.2.2.2.2.2
    constructor <;> omega
  have hr : va_Run p l e (F.R kf) s m args below meth c H locs cells slots 0 0 (F0 m pc ls st) rest (QV E H.size S.g As.toArray) (AA E H.size) := va_runS (Ts := TB) ⟨hx, hb, hml, hown, hts⟩ (hM u hu H.size) ⟨callB_of np hts (gwz h1) rfl rfl rfl (hts _ h2) (hts _ h6) h5 hR, hts _ h3⟩ ⟨PC_blind, hpre⟩ rfl hlen hls hst (lv_room hrest) hd hf
  refine va_callv hr hG.2.2.1 (fun q _ h => AA_inL hA hG q h) (AA_inL hA hG) (fun u9 t H1 locs1 ht hvm hw hB hz hk hS => ?_)
  exact kk u H1 locs1 (GL_cls (g1 := S.g) (c1 := 0) (w1 := 0) hG ⟨Nat.zero_le _, Nat.zero_le _⟩ hG.2.2.2.2.2.2.2.2 (by rw [← ht]; exact hB) hk hS) h
end COMBO
