def kcore (s : MdS) : MdS := (Md_thrown s, Md_trouble s, Md_where s, Md_tape s, Md_taped s, (0 : Int32), (0 : Int32), (0 : Int32), (0 : Int32), (0 : Int32), Md_fault s, (0 : Int32), (0 : Int64), Md_now s, Md_parted s, Md_lifted s, Md_seed s, (fun _ => (0 : Int32)), (fun _ => (0 : Int32)), (fun _ => (0 : Int64)), (fun _ => (0 : Int64)), (0 : Int32), (fun _ => (0 : Int32)), (fun _ => (0 : Int32)), (fun _ => (0 : Int32)), (fun _ => (0 : Int32)), (0 : Int32), (0 : Int32), (fun _ => (0 : Int64)), (fun _ => (0 : Int64)), Md_keptNow s, (fun _ => (0 : Int32)), (fun _ => (0 : Int32)), (fun _ => (0 : Int32)), Md_keptParted s, Md_keptSeed s, Md_keptLifted s, (0 : Int32), Md_marks s)
/-- alike but for what was kept of the past, and what is written anew at each call -/
def KP (md md' : MdS) : Prop := kcore md' = kcore md
theorem KP.refl (md : MdS) : KP md md := rfl
theorem KP.trans {a b c : MdS} (h : KP a b) (k : KP b c) : KP a c := Eq.trans k h
theorem Sc.kp {a b : MdS} (h : Sc a b) : KP a b := (congrArg kcore (show score b = score a from h) : kcore (score b) = kcore (score a))
theorem KP.thrown {a b : MdS} (h : KP a b) : Md_thrown b = Md_thrown a := (congrArg Md_thrown (show kcore b = kcore a from h) : Md_thrown (kcore b) = Md_thrown (kcore a))
theorem KP.trouble {a b : MdS} (h : KP a b) : Md_trouble b = Md_trouble a := (congrArg Md_trouble (show kcore b = kcore a from h) : Md_trouble (kcore b) = Md_trouble (kcore a))
theorem KP.where {a b : MdS} (h : KP a b) : Md_where b = Md_where a := (congrArg Md_where (show kcore b = kcore a from h) : Md_where (kcore b) = Md_where (kcore a))
theorem KP.tape {a b : MdS} (h : KP a b) : Md_tape b = Md_tape a := (congrArg Md_tape (show kcore b = kcore a from h) : Md_tape (kcore b) = Md_tape (kcore a))
theorem KP.taped {a b : MdS} (h : KP a b) : Md_taped b = Md_taped a := (congrArg Md_taped (show kcore b = kcore a from h) : Md_taped (kcore b) = Md_taped (kcore a))
theorem KP.fault {a b : MdS} (h : KP a b) : Md_fault b = Md_fault a := (congrArg Md_fault (show kcore b = kcore a from h) : Md_fault (kcore b) = Md_fault (kcore a))
theorem KP.now {a b : MdS} (h : KP a b) : Md_now b = Md_now a := (congrArg Md_now (show kcore b = kcore a from h) : Md_now (kcore b) = Md_now (kcore a))
theorem KP.parted {a b : MdS} (h : KP a b) : Md_parted b = Md_parted a := (congrArg Md_parted (show kcore b = kcore a from h) : Md_parted (kcore b) = Md_parted (kcore a))
theorem KP.lifted {a b : MdS} (h : KP a b) : Md_lifted b = Md_lifted a := (congrArg Md_lifted (show kcore b = kcore a from h) : Md_lifted (kcore b) = Md_lifted (kcore a))
theorem KP.seed {a b : MdS} (h : KP a b) : Md_seed b = Md_seed a := (congrArg Md_seed (show kcore b = kcore a from h) : Md_seed (kcore b) = Md_seed (kcore a))
theorem KP.u_pastNow (md : MdS) (f : Nat → Int64) : KP md (Md_pastNow' md f) := rfl
theorem KP.keptNow {a b : MdS} (h : KP a b) : Md_keptNow b = Md_keptNow a := (congrArg Md_keptNow (show kcore b = kcore a from h) : Md_keptNow (kcore b) = Md_keptNow (kcore a))
theorem KP.u_pastParted (md : MdS) (f : Nat → Int32) : KP md (Md_pastParted' md f) := rfl
theorem KP.u_pastSeed (md : MdS) (f : Nat → Int32) : KP md (Md_pastSeed' md f) := rfl
theorem KP.u_pastLifted (md : MdS) (f : Nat → Int32) : KP md (Md_pastLifted' md f) := rfl
theorem KP.keptParted {a b : MdS} (h : KP a b) : Md_keptParted b = Md_keptParted a := (congrArg Md_keptParted (show kcore b = kcore a from h) : Md_keptParted (kcore b) = Md_keptParted (kcore a))
theorem KP.keptSeed {a b : MdS} (h : KP a b) : Md_keptSeed b = Md_keptSeed a := (congrArg Md_keptSeed (show kcore b = kcore a from h) : Md_keptSeed (kcore b) = Md_keptSeed (kcore a))
theorem KP.keptLifted {a b : MdS} (h : KP a b) : Md_keptLifted b = Md_keptLifted a := (congrArg Md_keptLifted (show kcore b = kcore a from h) : Md_keptLifted (kcore b) = Md_keptLifted (kcore a))
theorem KP.u_acts (md : MdS) (f : Int32) : KP md (Md_acts' md f) := rfl
theorem KP.marks {a b : MdS} (h : KP a b) : Md_marks b = Md_marks a := (congrArg Md_marks (show kcore b = kcore a from h) : Md_marks (kcore b) = Md_marks (kcore a))
theorem gs_thrown (md : MdS) (f : Int32) : Md_thrown (Md_thrown' md f) = f := rfl
theorem gn_thrown_trouble (md : MdS) (f : Int32) : Md_thrown (Md_trouble' md f) = Md_thrown md := rfl
theorem gn_thrown_where (md : MdS) (f : Int32) : Md_thrown (Md_where' md f) = Md_thrown md := rfl
theorem gn_thrown_tape (md : MdS) (f : Nat → Int32) : Md_thrown (Md_tape' md f) = Md_thrown md := rfl
theorem gn_thrown_taped (md : MdS) (f : Int32) : Md_thrown (Md_taped' md f) = Md_thrown md := rfl
theorem gn_thrown_fault (md : MdS) (f : Int32) : Md_thrown (Md_fault' md f) = Md_thrown md := rfl
theorem gn_thrown_now (md : MdS) (f : Int64) : Md_thrown (Md_now' md f) = Md_thrown md := rfl
theorem gn_thrown_parted (md : MdS) (f : Int32) : Md_thrown (Md_parted' md f) = Md_thrown md := rfl
theorem gn_thrown_lifted (md : MdS) (f : Int32) : Md_thrown (Md_lifted' md f) = Md_thrown md := rfl
theorem gn_thrown_seed (md : MdS) (f : Int32) : Md_thrown (Md_seed' md f) = Md_thrown md := rfl
theorem gn_thrown_pastNow (md : MdS) (f : Nat → Int64) : Md_thrown (Md_pastNow' md f) = Md_thrown md := rfl
theorem gn_thrown_keptNow (md : MdS) (f : Nat → Int64) : Md_thrown (Md_keptNow' md f) = Md_thrown md := rfl
theorem gn_thrown_pastParted (md : MdS) (f : Nat → Int32) : Md_thrown (Md_pastParted' md f) = Md_thrown md := rfl
theorem gn_thrown_pastSeed (md : MdS) (f : Nat → Int32) : Md_thrown (Md_pastSeed' md f) = Md_thrown md := rfl
theorem gn_thrown_pastLifted (md : MdS) (f : Nat → Int32) : Md_thrown (Md_pastLifted' md f) = Md_thrown md := rfl
theorem gn_thrown_keptParted (md : MdS) (f : Nat → Int32) : Md_thrown (Md_keptParted' md f) = Md_thrown md := rfl
theorem gn_thrown_keptSeed (md : MdS) (f : Nat → Int32) : Md_thrown (Md_keptSeed' md f) = Md_thrown md := rfl
theorem gn_thrown_keptLifted (md : MdS) (f : Nat → Int32) : Md_thrown (Md_keptLifted' md f) = Md_thrown md := rfl
theorem gn_thrown_acts (md : MdS) (f : Int32) : Md_thrown (Md_acts' md f) = Md_thrown md := rfl
theorem gn_thrown_marks (md : MdS) (f : Int32) : Md_thrown (Md_marks' md f) = Md_thrown md := rfl
theorem gs_trouble (md : MdS) (f : Int32) : Md_trouble (Md_trouble' md f) = f := rfl
theorem gn_trouble_thrown (md : MdS) (f : Int32) : Md_trouble (Md_thrown' md f) = Md_trouble md := rfl
theorem gn_trouble_where (md : MdS) (f : Int32) : Md_trouble (Md_where' md f) = Md_trouble md := rfl
theorem gn_trouble_tape (md : MdS) (f : Nat → Int32) : Md_trouble (Md_tape' md f) = Md_trouble md := rfl
theorem gn_trouble_taped (md : MdS) (f : Int32) : Md_trouble (Md_taped' md f) = Md_trouble md := rfl
theorem gn_trouble_fault (md : MdS) (f : Int32) : Md_trouble (Md_fault' md f) = Md_trouble md := rfl
theorem gn_trouble_now (md : MdS) (f : Int64) : Md_trouble (Md_now' md f) = Md_trouble md := rfl
theorem gn_trouble_parted (md : MdS) (f : Int32) : Md_trouble (Md_parted' md f) = Md_trouble md := rfl
theorem gn_trouble_lifted (md : MdS) (f : Int32) : Md_trouble (Md_lifted' md f) = Md_trouble md := rfl
theorem gn_trouble_seed (md : MdS) (f : Int32) : Md_trouble (Md_seed' md f) = Md_trouble md := rfl
theorem gn_trouble_pastNow (md : MdS) (f : Nat → Int64) : Md_trouble (Md_pastNow' md f) = Md_trouble md := rfl
theorem gn_trouble_keptNow (md : MdS) (f : Nat → Int64) : Md_trouble (Md_keptNow' md f) = Md_trouble md := rfl
theorem gn_trouble_pastParted (md : MdS) (f : Nat → Int32) : Md_trouble (Md_pastParted' md f) = Md_trouble md := rfl
theorem gn_trouble_pastSeed (md : MdS) (f : Nat → Int32) : Md_trouble (Md_pastSeed' md f) = Md_trouble md := rfl
theorem gn_trouble_pastLifted (md : MdS) (f : Nat → Int32) : Md_trouble (Md_pastLifted' md f) = Md_trouble md := rfl
theorem gn_trouble_keptParted (md : MdS) (f : Nat → Int32) : Md_trouble (Md_keptParted' md f) = Md_trouble md := rfl
theorem gn_trouble_keptSeed (md : MdS) (f : Nat → Int32) : Md_trouble (Md_keptSeed' md f) = Md_trouble md := rfl
theorem gn_trouble_keptLifted (md : MdS) (f : Nat → Int32) : Md_trouble (Md_keptLifted' md f) = Md_trouble md := rfl
theorem gn_trouble_acts (md : MdS) (f : Int32) : Md_trouble (Md_acts' md f) = Md_trouble md := rfl
theorem gn_trouble_marks (md : MdS) (f : Int32) : Md_trouble (Md_marks' md f) = Md_trouble md := rfl
theorem gs_where (md : MdS) (f : Int32) : Md_where (Md_where' md f) = f := rfl
theorem gn_where_thrown (md : MdS) (f : Int32) : Md_where (Md_thrown' md f) = Md_where md := rfl
theorem gn_where_trouble (md : MdS) (f : Int32) : Md_where (Md_trouble' md f) = Md_where md := rfl
theorem gn_where_tape (md : MdS) (f : Nat → Int32) : Md_where (Md_tape' md f) = Md_where md := rfl
theorem gn_where_taped (md : MdS) (f : Int32) : Md_where (Md_taped' md f) = Md_where md := rfl
theorem gn_where_fault (md : MdS) (f : Int32) : Md_where (Md_fault' md f) = Md_where md := rfl
theorem gn_where_now (md : MdS) (f : Int64) : Md_where (Md_now' md f) = Md_where md := rfl
theorem gn_where_parted (md : MdS) (f : Int32) : Md_where (Md_parted' md f) = Md_where md := rfl
theorem gn_where_lifted (md : MdS) (f : Int32) : Md_where (Md_lifted' md f) = Md_where md := rfl
theorem gn_where_seed (md : MdS) (f : Int32) : Md_where (Md_seed' md f) = Md_where md := rfl
theorem gn_where_pastNow (md : MdS) (f : Nat → Int64) : Md_where (Md_pastNow' md f) = Md_where md := rfl
theorem gn_where_keptNow (md : MdS) (f : Nat → Int64) : Md_where (Md_keptNow' md f) = Md_where md := rfl
theorem gn_where_pastParted (md : MdS) (f : Nat → Int32) : Md_where (Md_pastParted' md f) = Md_where md := rfl
theorem gn_where_pastSeed (md : MdS) (f : Nat → Int32) : Md_where (Md_pastSeed' md f) = Md_where md := rfl
theorem gn_where_pastLifted (md : MdS) (f : Nat → Int32) : Md_where (Md_pastLifted' md f) = Md_where md := rfl
theorem gn_where_keptParted (md : MdS) (f : Nat → Int32) : Md_where (Md_keptParted' md f) = Md_where md := rfl
theorem gn_where_keptSeed (md : MdS) (f : Nat → Int32) : Md_where (Md_keptSeed' md f) = Md_where md := rfl
theorem gn_where_keptLifted (md : MdS) (f : Nat → Int32) : Md_where (Md_keptLifted' md f) = Md_where md := rfl
theorem gn_where_acts (md : MdS) (f : Int32) : Md_where (Md_acts' md f) = Md_where md := rfl
theorem gn_where_marks (md : MdS) (f : Int32) : Md_where (Md_marks' md f) = Md_where md := rfl
theorem gs_tape (md : MdS) (f : Nat → Int32) : Md_tape (Md_tape' md f) = f := rfl
theorem gn_tape_thrown (md : MdS) (f : Int32) : Md_tape (Md_thrown' md f) = Md_tape md := rfl
theorem gn_tape_trouble (md : MdS) (f : Int32) : Md_tape (Md_trouble' md f) = Md_tape md := rfl
theorem gn_tape_where (md : MdS) (f : Int32) : Md_tape (Md_where' md f) = Md_tape md := rfl
theorem gn_tape_taped (md : MdS) (f : Int32) : Md_tape (Md_taped' md f) = Md_tape md := rfl
theorem gn_tape_fault (md : MdS) (f : Int32) : Md_tape (Md_fault' md f) = Md_tape md := rfl
theorem gn_tape_now (md : MdS) (f : Int64) : Md_tape (Md_now' md f) = Md_tape md := rfl
theorem gn_tape_parted (md : MdS) (f : Int32) : Md_tape (Md_parted' md f) = Md_tape md := rfl
theorem gn_tape_lifted (md : MdS) (f : Int32) : Md_tape (Md_lifted' md f) = Md_tape md := rfl
theorem gn_tape_seed (md : MdS) (f : Int32) : Md_tape (Md_seed' md f) = Md_tape md := rfl
theorem gn_tape_pastNow (md : MdS) (f : Nat → Int64) : Md_tape (Md_pastNow' md f) = Md_tape md := rfl
theorem gn_tape_keptNow (md : MdS) (f : Nat → Int64) : Md_tape (Md_keptNow' md f) = Md_tape md := rfl
theorem gn_tape_pastParted (md : MdS) (f : Nat → Int32) : Md_tape (Md_pastParted' md f) = Md_tape md := rfl
theorem gn_tape_pastSeed (md : MdS) (f : Nat → Int32) : Md_tape (Md_pastSeed' md f) = Md_tape md := rfl
theorem gn_tape_pastLifted (md : MdS) (f : Nat → Int32) : Md_tape (Md_pastLifted' md f) = Md_tape md := rfl
theorem gn_tape_keptParted (md : MdS) (f : Nat → Int32) : Md_tape (Md_keptParted' md f) = Md_tape md := rfl
theorem gn_tape_keptSeed (md : MdS) (f : Nat → Int32) : Md_tape (Md_keptSeed' md f) = Md_tape md := rfl
theorem gn_tape_keptLifted (md : MdS) (f : Nat → Int32) : Md_tape (Md_keptLifted' md f) = Md_tape md := rfl
theorem gn_tape_acts (md : MdS) (f : Int32) : Md_tape (Md_acts' md f) = Md_tape md := rfl
theorem gn_tape_marks (md : MdS) (f : Int32) : Md_tape (Md_marks' md f) = Md_tape md := rfl
theorem gs_taped (md : MdS) (f : Int32) : Md_taped (Md_taped' md f) = f := rfl
theorem gn_taped_thrown (md : MdS) (f : Int32) : Md_taped (Md_thrown' md f) = Md_taped md := rfl
theorem gn_taped_trouble (md : MdS) (f : Int32) : Md_taped (Md_trouble' md f) = Md_taped md := rfl
theorem gn_taped_where (md : MdS) (f : Int32) : Md_taped (Md_where' md f) = Md_taped md := rfl
theorem gn_taped_tape (md : MdS) (f : Nat → Int32) : Md_taped (Md_tape' md f) = Md_taped md := rfl
theorem gn_taped_fault (md : MdS) (f : Int32) : Md_taped (Md_fault' md f) = Md_taped md := rfl
theorem gn_taped_now (md : MdS) (f : Int64) : Md_taped (Md_now' md f) = Md_taped md := rfl
theorem gn_taped_parted (md : MdS) (f : Int32) : Md_taped (Md_parted' md f) = Md_taped md := rfl
theorem gn_taped_lifted (md : MdS) (f : Int32) : Md_taped (Md_lifted' md f) = Md_taped md := rfl
theorem gn_taped_seed (md : MdS) (f : Int32) : Md_taped (Md_seed' md f) = Md_taped md := rfl
theorem gn_taped_pastNow (md : MdS) (f : Nat → Int64) : Md_taped (Md_pastNow' md f) = Md_taped md := rfl
theorem gn_taped_keptNow (md : MdS) (f : Nat → Int64) : Md_taped (Md_keptNow' md f) = Md_taped md := rfl
theorem gn_taped_pastParted (md : MdS) (f : Nat → Int32) : Md_taped (Md_pastParted' md f) = Md_taped md := rfl
theorem gn_taped_pastSeed (md : MdS) (f : Nat → Int32) : Md_taped (Md_pastSeed' md f) = Md_taped md := rfl
theorem gn_taped_pastLifted (md : MdS) (f : Nat → Int32) : Md_taped (Md_pastLifted' md f) = Md_taped md := rfl
theorem gn_taped_keptParted (md : MdS) (f : Nat → Int32) : Md_taped (Md_keptParted' md f) = Md_taped md := rfl
theorem gn_taped_keptSeed (md : MdS) (f : Nat → Int32) : Md_taped (Md_keptSeed' md f) = Md_taped md := rfl
theorem gn_taped_keptLifted (md : MdS) (f : Nat → Int32) : Md_taped (Md_keptLifted' md f) = Md_taped md := rfl
theorem gn_taped_acts (md : MdS) (f : Int32) : Md_taped (Md_acts' md f) = Md_taped md := rfl
theorem gn_taped_marks (md : MdS) (f : Int32) : Md_taped (Md_marks' md f) = Md_taped md := rfl
theorem gs_fault (md : MdS) (f : Int32) : Md_fault (Md_fault' md f) = f := rfl
theorem gn_fault_thrown (md : MdS) (f : Int32) : Md_fault (Md_thrown' md f) = Md_fault md := rfl
theorem gn_fault_trouble (md : MdS) (f : Int32) : Md_fault (Md_trouble' md f) = Md_fault md := rfl
theorem gn_fault_where (md : MdS) (f : Int32) : Md_fault (Md_where' md f) = Md_fault md := rfl
theorem gn_fault_tape (md : MdS) (f : Nat → Int32) : Md_fault (Md_tape' md f) = Md_fault md := rfl
theorem gn_fault_taped (md : MdS) (f : Int32) : Md_fault (Md_taped' md f) = Md_fault md := rfl
theorem gn_fault_now (md : MdS) (f : Int64) : Md_fault (Md_now' md f) = Md_fault md := rfl
theorem gn_fault_parted (md : MdS) (f : Int32) : Md_fault (Md_parted' md f) = Md_fault md := rfl
theorem gn_fault_lifted (md : MdS) (f : Int32) : Md_fault (Md_lifted' md f) = Md_fault md := rfl
theorem gn_fault_seed (md : MdS) (f : Int32) : Md_fault (Md_seed' md f) = Md_fault md := rfl
theorem gn_fault_pastNow (md : MdS) (f : Nat → Int64) : Md_fault (Md_pastNow' md f) = Md_fault md := rfl
theorem gn_fault_keptNow (md : MdS) (f : Nat → Int64) : Md_fault (Md_keptNow' md f) = Md_fault md := rfl
theorem gn_fault_pastParted (md : MdS) (f : Nat → Int32) : Md_fault (Md_pastParted' md f) = Md_fault md := rfl
theorem gn_fault_pastSeed (md : MdS) (f : Nat → Int32) : Md_fault (Md_pastSeed' md f) = Md_fault md := rfl
theorem gn_fault_pastLifted (md : MdS) (f : Nat → Int32) : Md_fault (Md_pastLifted' md f) = Md_fault md := rfl
theorem gn_fault_keptParted (md : MdS) (f : Nat → Int32) : Md_fault (Md_keptParted' md f) = Md_fault md := rfl
theorem gn_fault_keptSeed (md : MdS) (f : Nat → Int32) : Md_fault (Md_keptSeed' md f) = Md_fault md := rfl
theorem gn_fault_keptLifted (md : MdS) (f : Nat → Int32) : Md_fault (Md_keptLifted' md f) = Md_fault md := rfl
theorem gn_fault_acts (md : MdS) (f : Int32) : Md_fault (Md_acts' md f) = Md_fault md := rfl
theorem gn_fault_marks (md : MdS) (f : Int32) : Md_fault (Md_marks' md f) = Md_fault md := rfl
theorem gs_now (md : MdS) (f : Int64) : Md_now (Md_now' md f) = f := rfl
theorem gn_now_thrown (md : MdS) (f : Int32) : Md_now (Md_thrown' md f) = Md_now md := rfl
theorem gn_now_trouble (md : MdS) (f : Int32) : Md_now (Md_trouble' md f) = Md_now md := rfl
theorem gn_now_where (md : MdS) (f : Int32) : Md_now (Md_where' md f) = Md_now md := rfl
theorem gn_now_tape (md : MdS) (f : Nat → Int32) : Md_now (Md_tape' md f) = Md_now md := rfl
theorem gn_now_taped (md : MdS) (f : Int32) : Md_now (Md_taped' md f) = Md_now md := rfl
theorem gn_now_fault (md : MdS) (f : Int32) : Md_now (Md_fault' md f) = Md_now md := rfl
theorem gn_now_parted (md : MdS) (f : Int32) : Md_now (Md_parted' md f) = Md_now md := rfl
theorem gn_now_lifted (md : MdS) (f : Int32) : Md_now (Md_lifted' md f) = Md_now md := rfl
theorem gn_now_seed (md : MdS) (f : Int32) : Md_now (Md_seed' md f) = Md_now md := rfl
theorem gn_now_pastNow (md : MdS) (f : Nat → Int64) : Md_now (Md_pastNow' md f) = Md_now md := rfl
theorem gn_now_keptNow (md : MdS) (f : Nat → Int64) : Md_now (Md_keptNow' md f) = Md_now md := rfl
theorem gn_now_pastParted (md : MdS) (f : Nat → Int32) : Md_now (Md_pastParted' md f) = Md_now md := rfl
theorem gn_now_pastSeed (md : MdS) (f : Nat → Int32) : Md_now (Md_pastSeed' md f) = Md_now md := rfl
theorem gn_now_pastLifted (md : MdS) (f : Nat → Int32) : Md_now (Md_pastLifted' md f) = Md_now md := rfl
theorem gn_now_keptParted (md : MdS) (f : Nat → Int32) : Md_now (Md_keptParted' md f) = Md_now md := rfl
theorem gn_now_keptSeed (md : MdS) (f : Nat → Int32) : Md_now (Md_keptSeed' md f) = Md_now md := rfl
theorem gn_now_keptLifted (md : MdS) (f : Nat → Int32) : Md_now (Md_keptLifted' md f) = Md_now md := rfl
theorem gn_now_acts (md : MdS) (f : Int32) : Md_now (Md_acts' md f) = Md_now md := rfl
theorem gn_now_marks (md : MdS) (f : Int32) : Md_now (Md_marks' md f) = Md_now md := rfl
theorem gs_parted (md : MdS) (f : Int32) : Md_parted (Md_parted' md f) = f := rfl
theorem gn_parted_thrown (md : MdS) (f : Int32) : Md_parted (Md_thrown' md f) = Md_parted md := rfl
theorem gn_parted_trouble (md : MdS) (f : Int32) : Md_parted (Md_trouble' md f) = Md_parted md := rfl
theorem gn_parted_where (md : MdS) (f : Int32) : Md_parted (Md_where' md f) = Md_parted md := rfl
theorem gn_parted_tape (md : MdS) (f : Nat → Int32) : Md_parted (Md_tape' md f) = Md_parted md := rfl
theorem gn_parted_taped (md : MdS) (f : Int32) : Md_parted (Md_taped' md f) = Md_parted md := rfl
theorem gn_parted_fault (md : MdS) (f : Int32) : Md_parted (Md_fault' md f) = Md_parted md := rfl
theorem gn_parted_now (md : MdS) (f : Int64) : Md_parted (Md_now' md f) = Md_parted md := rfl
theorem gn_parted_lifted (md : MdS) (f : Int32) : Md_parted (Md_lifted' md f) = Md_parted md := rfl
theorem gn_parted_seed (md : MdS) (f : Int32) : Md_parted (Md_seed' md f) = Md_parted md := rfl
theorem gn_parted_pastNow (md : MdS) (f : Nat → Int64) : Md_parted (Md_pastNow' md f) = Md_parted md := rfl
theorem gn_parted_keptNow (md : MdS) (f : Nat → Int64) : Md_parted (Md_keptNow' md f) = Md_parted md := rfl
theorem gn_parted_pastParted (md : MdS) (f : Nat → Int32) : Md_parted (Md_pastParted' md f) = Md_parted md := rfl
theorem gn_parted_pastSeed (md : MdS) (f : Nat → Int32) : Md_parted (Md_pastSeed' md f) = Md_parted md := rfl
theorem gn_parted_pastLifted (md : MdS) (f : Nat → Int32) : Md_parted (Md_pastLifted' md f) = Md_parted md := rfl
theorem gn_parted_keptParted (md : MdS) (f : Nat → Int32) : Md_parted (Md_keptParted' md f) = Md_parted md := rfl
theorem gn_parted_keptSeed (md : MdS) (f : Nat → Int32) : Md_parted (Md_keptSeed' md f) = Md_parted md := rfl
theorem gn_parted_keptLifted (md : MdS) (f : Nat → Int32) : Md_parted (Md_keptLifted' md f) = Md_parted md := rfl
theorem gn_parted_acts (md : MdS) (f : Int32) : Md_parted (Md_acts' md f) = Md_parted md := rfl
theorem gn_parted_marks (md : MdS) (f : Int32) : Md_parted (Md_marks' md f) = Md_parted md := rfl
theorem gs_lifted (md : MdS) (f : Int32) : Md_lifted (Md_lifted' md f) = f := rfl
theorem gn_lifted_thrown (md : MdS) (f : Int32) : Md_lifted (Md_thrown' md f) = Md_lifted md := rfl
theorem gn_lifted_trouble (md : MdS) (f : Int32) : Md_lifted (Md_trouble' md f) = Md_lifted md := rfl
theorem gn_lifted_where (md : MdS) (f : Int32) : Md_lifted (Md_where' md f) = Md_lifted md := rfl
theorem gn_lifted_tape (md : MdS) (f : Nat → Int32) : Md_lifted (Md_tape' md f) = Md_lifted md := rfl
theorem gn_lifted_taped (md : MdS) (f : Int32) : Md_lifted (Md_taped' md f) = Md_lifted md := rfl
theorem gn_lifted_fault (md : MdS) (f : Int32) : Md_lifted (Md_fault' md f) = Md_lifted md := rfl
theorem gn_lifted_now (md : MdS) (f : Int64) : Md_lifted (Md_now' md f) = Md_lifted md := rfl
theorem gn_lifted_parted (md : MdS) (f : Int32) : Md_lifted (Md_parted' md f) = Md_lifted md := rfl
theorem gn_lifted_seed (md : MdS) (f : Int32) : Md_lifted (Md_seed' md f) = Md_lifted md := rfl
theorem gn_lifted_pastNow (md : MdS) (f : Nat → Int64) : Md_lifted (Md_pastNow' md f) = Md_lifted md := rfl
theorem gn_lifted_keptNow (md : MdS) (f : Nat → Int64) : Md_lifted (Md_keptNow' md f) = Md_lifted md := rfl
theorem gn_lifted_pastParted (md : MdS) (f : Nat → Int32) : Md_lifted (Md_pastParted' md f) = Md_lifted md := rfl
theorem gn_lifted_pastSeed (md : MdS) (f : Nat → Int32) : Md_lifted (Md_pastSeed' md f) = Md_lifted md := rfl
theorem gn_lifted_pastLifted (md : MdS) (f : Nat → Int32) : Md_lifted (Md_pastLifted' md f) = Md_lifted md := rfl
theorem gn_lifted_keptParted (md : MdS) (f : Nat → Int32) : Md_lifted (Md_keptParted' md f) = Md_lifted md := rfl
theorem gn_lifted_keptSeed (md : MdS) (f : Nat → Int32) : Md_lifted (Md_keptSeed' md f) = Md_lifted md := rfl
theorem gn_lifted_keptLifted (md : MdS) (f : Nat → Int32) : Md_lifted (Md_keptLifted' md f) = Md_lifted md := rfl
theorem gn_lifted_acts (md : MdS) (f : Int32) : Md_lifted (Md_acts' md f) = Md_lifted md := rfl
theorem gn_lifted_marks (md : MdS) (f : Int32) : Md_lifted (Md_marks' md f) = Md_lifted md := rfl
theorem gs_seed (md : MdS) (f : Int32) : Md_seed (Md_seed' md f) = f := rfl
theorem gn_seed_thrown (md : MdS) (f : Int32) : Md_seed (Md_thrown' md f) = Md_seed md := rfl
theorem gn_seed_trouble (md : MdS) (f : Int32) : Md_seed (Md_trouble' md f) = Md_seed md := rfl
theorem gn_seed_where (md : MdS) (f : Int32) : Md_seed (Md_where' md f) = Md_seed md := rfl
theorem gn_seed_tape (md : MdS) (f : Nat → Int32) : Md_seed (Md_tape' md f) = Md_seed md := rfl
theorem gn_seed_taped (md : MdS) (f : Int32) : Md_seed (Md_taped' md f) = Md_seed md := rfl
theorem gn_seed_fault (md : MdS) (f : Int32) : Md_seed (Md_fault' md f) = Md_seed md := rfl
theorem gn_seed_now (md : MdS) (f : Int64) : Md_seed (Md_now' md f) = Md_seed md := rfl
theorem gn_seed_parted (md : MdS) (f : Int32) : Md_seed (Md_parted' md f) = Md_seed md := rfl
theorem gn_seed_lifted (md : MdS) (f : Int32) : Md_seed (Md_lifted' md f) = Md_seed md := rfl
theorem gn_seed_pastNow (md : MdS) (f : Nat → Int64) : Md_seed (Md_pastNow' md f) = Md_seed md := rfl
theorem gn_seed_keptNow (md : MdS) (f : Nat → Int64) : Md_seed (Md_keptNow' md f) = Md_seed md := rfl
theorem gn_seed_pastParted (md : MdS) (f : Nat → Int32) : Md_seed (Md_pastParted' md f) = Md_seed md := rfl
theorem gn_seed_pastSeed (md : MdS) (f : Nat → Int32) : Md_seed (Md_pastSeed' md f) = Md_seed md := rfl
theorem gn_seed_pastLifted (md : MdS) (f : Nat → Int32) : Md_seed (Md_pastLifted' md f) = Md_seed md := rfl
theorem gn_seed_keptParted (md : MdS) (f : Nat → Int32) : Md_seed (Md_keptParted' md f) = Md_seed md := rfl
theorem gn_seed_keptSeed (md : MdS) (f : Nat → Int32) : Md_seed (Md_keptSeed' md f) = Md_seed md := rfl
theorem gn_seed_keptLifted (md : MdS) (f : Nat → Int32) : Md_seed (Md_keptLifted' md f) = Md_seed md := rfl
theorem gn_seed_acts (md : MdS) (f : Int32) : Md_seed (Md_acts' md f) = Md_seed md := rfl
theorem gn_seed_marks (md : MdS) (f : Int32) : Md_seed (Md_marks' md f) = Md_seed md := rfl
theorem gs_pastNow (md : MdS) (f : Nat → Int64) : Md_pastNow (Md_pastNow' md f) = f := rfl
theorem gn_pastNow_thrown (md : MdS) (f : Int32) : Md_pastNow (Md_thrown' md f) = Md_pastNow md := rfl
theorem gn_pastNow_trouble (md : MdS) (f : Int32) : Md_pastNow (Md_trouble' md f) = Md_pastNow md := rfl
theorem gn_pastNow_where (md : MdS) (f : Int32) : Md_pastNow (Md_where' md f) = Md_pastNow md := rfl
theorem gn_pastNow_tape (md : MdS) (f : Nat → Int32) : Md_pastNow (Md_tape' md f) = Md_pastNow md := rfl
theorem gn_pastNow_taped (md : MdS) (f : Int32) : Md_pastNow (Md_taped' md f) = Md_pastNow md := rfl
theorem gn_pastNow_fault (md : MdS) (f : Int32) : Md_pastNow (Md_fault' md f) = Md_pastNow md := rfl
theorem gn_pastNow_now (md : MdS) (f : Int64) : Md_pastNow (Md_now' md f) = Md_pastNow md := rfl
theorem gn_pastNow_parted (md : MdS) (f : Int32) : Md_pastNow (Md_parted' md f) = Md_pastNow md := rfl
theorem gn_pastNow_lifted (md : MdS) (f : Int32) : Md_pastNow (Md_lifted' md f) = Md_pastNow md := rfl
theorem gn_pastNow_seed (md : MdS) (f : Int32) : Md_pastNow (Md_seed' md f) = Md_pastNow md := rfl
theorem gn_pastNow_keptNow (md : MdS) (f : Nat → Int64) : Md_pastNow (Md_keptNow' md f) = Md_pastNow md := rfl
theorem gn_pastNow_pastParted (md : MdS) (f : Nat → Int32) : Md_pastNow (Md_pastParted' md f) = Md_pastNow md := rfl
theorem gn_pastNow_pastSeed (md : MdS) (f : Nat → Int32) : Md_pastNow (Md_pastSeed' md f) = Md_pastNow md := rfl
theorem gn_pastNow_pastLifted (md : MdS) (f : Nat → Int32) : Md_pastNow (Md_pastLifted' md f) = Md_pastNow md := rfl
theorem gn_pastNow_keptParted (md : MdS) (f : Nat → Int32) : Md_pastNow (Md_keptParted' md f) = Md_pastNow md := rfl
theorem gn_pastNow_keptSeed (md : MdS) (f : Nat → Int32) : Md_pastNow (Md_keptSeed' md f) = Md_pastNow md := rfl
theorem gn_pastNow_keptLifted (md : MdS) (f : Nat → Int32) : Md_pastNow (Md_keptLifted' md f) = Md_pastNow md := rfl
theorem gn_pastNow_acts (md : MdS) (f : Int32) : Md_pastNow (Md_acts' md f) = Md_pastNow md := rfl
theorem gn_pastNow_marks (md : MdS) (f : Int32) : Md_pastNow (Md_marks' md f) = Md_pastNow md := rfl
theorem gs_keptNow (md : MdS) (f : Nat → Int64) : Md_keptNow (Md_keptNow' md f) = f := rfl
theorem gn_keptNow_thrown (md : MdS) (f : Int32) : Md_keptNow (Md_thrown' md f) = Md_keptNow md := rfl
theorem gn_keptNow_trouble (md : MdS) (f : Int32) : Md_keptNow (Md_trouble' md f) = Md_keptNow md := rfl
theorem gn_keptNow_where (md : MdS) (f : Int32) : Md_keptNow (Md_where' md f) = Md_keptNow md := rfl
theorem gn_keptNow_tape (md : MdS) (f : Nat → Int32) : Md_keptNow (Md_tape' md f) = Md_keptNow md := rfl
theorem gn_keptNow_taped (md : MdS) (f : Int32) : Md_keptNow (Md_taped' md f) = Md_keptNow md := rfl
theorem gn_keptNow_fault (md : MdS) (f : Int32) : Md_keptNow (Md_fault' md f) = Md_keptNow md := rfl
theorem gn_keptNow_now (md : MdS) (f : Int64) : Md_keptNow (Md_now' md f) = Md_keptNow md := rfl
theorem gn_keptNow_parted (md : MdS) (f : Int32) : Md_keptNow (Md_parted' md f) = Md_keptNow md := rfl
theorem gn_keptNow_lifted (md : MdS) (f : Int32) : Md_keptNow (Md_lifted' md f) = Md_keptNow md := rfl
theorem gn_keptNow_seed (md : MdS) (f : Int32) : Md_keptNow (Md_seed' md f) = Md_keptNow md := rfl
theorem gn_keptNow_pastNow (md : MdS) (f : Nat → Int64) : Md_keptNow (Md_pastNow' md f) = Md_keptNow md := rfl
theorem gn_keptNow_pastParted (md : MdS) (f : Nat → Int32) : Md_keptNow (Md_pastParted' md f) = Md_keptNow md := rfl
theorem gn_keptNow_pastSeed (md : MdS) (f : Nat → Int32) : Md_keptNow (Md_pastSeed' md f) = Md_keptNow md := rfl
theorem gn_keptNow_pastLifted (md : MdS) (f : Nat → Int32) : Md_keptNow (Md_pastLifted' md f) = Md_keptNow md := rfl
theorem gn_keptNow_keptParted (md : MdS) (f : Nat → Int32) : Md_keptNow (Md_keptParted' md f) = Md_keptNow md := rfl
theorem gn_keptNow_keptSeed (md : MdS) (f : Nat → Int32) : Md_keptNow (Md_keptSeed' md f) = Md_keptNow md := rfl
theorem gn_keptNow_keptLifted (md : MdS) (f : Nat → Int32) : Md_keptNow (Md_keptLifted' md f) = Md_keptNow md := rfl
theorem gn_keptNow_acts (md : MdS) (f : Int32) : Md_keptNow (Md_acts' md f) = Md_keptNow md := rfl
theorem gn_keptNow_marks (md : MdS) (f : Int32) : Md_keptNow (Md_marks' md f) = Md_keptNow md := rfl
theorem gs_pastParted (md : MdS) (f : Nat → Int32) : Md_pastParted (Md_pastParted' md f) = f := rfl
theorem gn_pastParted_thrown (md : MdS) (f : Int32) : Md_pastParted (Md_thrown' md f) = Md_pastParted md := rfl
theorem gn_pastParted_trouble (md : MdS) (f : Int32) : Md_pastParted (Md_trouble' md f) = Md_pastParted md := rfl
theorem gn_pastParted_where (md : MdS) (f : Int32) : Md_pastParted (Md_where' md f) = Md_pastParted md := rfl
theorem gn_pastParted_tape (md : MdS) (f : Nat → Int32) : Md_pastParted (Md_tape' md f) = Md_pastParted md := rfl
theorem gn_pastParted_taped (md : MdS) (f : Int32) : Md_pastParted (Md_taped' md f) = Md_pastParted md := rfl
theorem gn_pastParted_fault (md : MdS) (f : Int32) : Md_pastParted (Md_fault' md f) = Md_pastParted md := rfl
theorem gn_pastParted_now (md : MdS) (f : Int64) : Md_pastParted (Md_now' md f) = Md_pastParted md := rfl
theorem gn_pastParted_parted (md : MdS) (f : Int32) : Md_pastParted (Md_parted' md f) = Md_pastParted md := rfl
theorem gn_pastParted_lifted (md : MdS) (f : Int32) : Md_pastParted (Md_lifted' md f) = Md_pastParted md := rfl
theorem gn_pastParted_seed (md : MdS) (f : Int32) : Md_pastParted (Md_seed' md f) = Md_pastParted md := rfl
theorem gn_pastParted_pastNow (md : MdS) (f : Nat → Int64) : Md_pastParted (Md_pastNow' md f) = Md_pastParted md := rfl
theorem gn_pastParted_keptNow (md : MdS) (f : Nat → Int64) : Md_pastParted (Md_keptNow' md f) = Md_pastParted md := rfl
theorem gn_pastParted_pastSeed (md : MdS) (f : Nat → Int32) : Md_pastParted (Md_pastSeed' md f) = Md_pastParted md := rfl
theorem gn_pastParted_pastLifted (md : MdS) (f : Nat → Int32) : Md_pastParted (Md_pastLifted' md f) = Md_pastParted md := rfl
theorem gn_pastParted_keptParted (md : MdS) (f : Nat → Int32) : Md_pastParted (Md_keptParted' md f) = Md_pastParted md := rfl
theorem gn_pastParted_keptSeed (md : MdS) (f : Nat → Int32) : Md_pastParted (Md_keptSeed' md f) = Md_pastParted md := rfl
theorem gn_pastParted_keptLifted (md : MdS) (f : Nat → Int32) : Md_pastParted (Md_keptLifted' md f) = Md_pastParted md := rfl
theorem gn_pastParted_acts (md : MdS) (f : Int32) : Md_pastParted (Md_acts' md f) = Md_pastParted md := rfl
theorem gn_pastParted_marks (md : MdS) (f : Int32) : Md_pastParted (Md_marks' md f) = Md_pastParted md := rfl
theorem gs_pastSeed (md : MdS) (f : Nat → Int32) : Md_pastSeed (Md_pastSeed' md f) = f := rfl
theorem gn_pastSeed_thrown (md : MdS) (f : Int32) : Md_pastSeed (Md_thrown' md f) = Md_pastSeed md := rfl
theorem gn_pastSeed_trouble (md : MdS) (f : Int32) : Md_pastSeed (Md_trouble' md f) = Md_pastSeed md := rfl
theorem gn_pastSeed_where (md : MdS) (f : Int32) : Md_pastSeed (Md_where' md f) = Md_pastSeed md := rfl
theorem gn_pastSeed_tape (md : MdS) (f : Nat → Int32) : Md_pastSeed (Md_tape' md f) = Md_pastSeed md := rfl
theorem gn_pastSeed_taped (md : MdS) (f : Int32) : Md_pastSeed (Md_taped' md f) = Md_pastSeed md := rfl
theorem gn_pastSeed_fault (md : MdS) (f : Int32) : Md_pastSeed (Md_fault' md f) = Md_pastSeed md := rfl
theorem gn_pastSeed_now (md : MdS) (f : Int64) : Md_pastSeed (Md_now' md f) = Md_pastSeed md := rfl
theorem gn_pastSeed_parted (md : MdS) (f : Int32) : Md_pastSeed (Md_parted' md f) = Md_pastSeed md := rfl
theorem gn_pastSeed_lifted (md : MdS) (f : Int32) : Md_pastSeed (Md_lifted' md f) = Md_pastSeed md := rfl
theorem gn_pastSeed_seed (md : MdS) (f : Int32) : Md_pastSeed (Md_seed' md f) = Md_pastSeed md := rfl
theorem gn_pastSeed_pastNow (md : MdS) (f : Nat → Int64) : Md_pastSeed (Md_pastNow' md f) = Md_pastSeed md := rfl
theorem gn_pastSeed_keptNow (md : MdS) (f : Nat → Int64) : Md_pastSeed (Md_keptNow' md f) = Md_pastSeed md := rfl
theorem gn_pastSeed_pastParted (md : MdS) (f : Nat → Int32) : Md_pastSeed (Md_pastParted' md f) = Md_pastSeed md := rfl
theorem gn_pastSeed_pastLifted (md : MdS) (f : Nat → Int32) : Md_pastSeed (Md_pastLifted' md f) = Md_pastSeed md := rfl
theorem gn_pastSeed_keptParted (md : MdS) (f : Nat → Int32) : Md_pastSeed (Md_keptParted' md f) = Md_pastSeed md := rfl
theorem gn_pastSeed_keptSeed (md : MdS) (f : Nat → Int32) : Md_pastSeed (Md_keptSeed' md f) = Md_pastSeed md := rfl
theorem gn_pastSeed_keptLifted (md : MdS) (f : Nat → Int32) : Md_pastSeed (Md_keptLifted' md f) = Md_pastSeed md := rfl
theorem gn_pastSeed_acts (md : MdS) (f : Int32) : Md_pastSeed (Md_acts' md f) = Md_pastSeed md := rfl
theorem gn_pastSeed_marks (md : MdS) (f : Int32) : Md_pastSeed (Md_marks' md f) = Md_pastSeed md := rfl
theorem gs_pastLifted (md : MdS) (f : Nat → Int32) : Md_pastLifted (Md_pastLifted' md f) = f := rfl
theorem gn_pastLifted_thrown (md : MdS) (f : Int32) : Md_pastLifted (Md_thrown' md f) = Md_pastLifted md := rfl
theorem gn_pastLifted_trouble (md : MdS) (f : Int32) : Md_pastLifted (Md_trouble' md f) = Md_pastLifted md := rfl
theorem gn_pastLifted_where (md : MdS) (f : Int32) : Md_pastLifted (Md_where' md f) = Md_pastLifted md := rfl
theorem gn_pastLifted_tape (md : MdS) (f : Nat → Int32) : Md_pastLifted (Md_tape' md f) = Md_pastLifted md := rfl
theorem gn_pastLifted_taped (md : MdS) (f : Int32) : Md_pastLifted (Md_taped' md f) = Md_pastLifted md := rfl
theorem gn_pastLifted_fault (md : MdS) (f : Int32) : Md_pastLifted (Md_fault' md f) = Md_pastLifted md := rfl
theorem gn_pastLifted_now (md : MdS) (f : Int64) : Md_pastLifted (Md_now' md f) = Md_pastLifted md := rfl
theorem gn_pastLifted_parted (md : MdS) (f : Int32) : Md_pastLifted (Md_parted' md f) = Md_pastLifted md := rfl
theorem gn_pastLifted_lifted (md : MdS) (f : Int32) : Md_pastLifted (Md_lifted' md f) = Md_pastLifted md := rfl
theorem gn_pastLifted_seed (md : MdS) (f : Int32) : Md_pastLifted (Md_seed' md f) = Md_pastLifted md := rfl
theorem gn_pastLifted_pastNow (md : MdS) (f : Nat → Int64) : Md_pastLifted (Md_pastNow' md f) = Md_pastLifted md := rfl
theorem gn_pastLifted_keptNow (md : MdS) (f : Nat → Int64) : Md_pastLifted (Md_keptNow' md f) = Md_pastLifted md := rfl
theorem gn_pastLifted_pastParted (md : MdS) (f : Nat → Int32) : Md_pastLifted (Md_pastParted' md f) = Md_pastLifted md := rfl
theorem gn_pastLifted_pastSeed (md : MdS) (f : Nat → Int32) : Md_pastLifted (Md_pastSeed' md f) = Md_pastLifted md := rfl
theorem gn_pastLifted_keptParted (md : MdS) (f : Nat → Int32) : Md_pastLifted (Md_keptParted' md f) = Md_pastLifted md := rfl
theorem gn_pastLifted_keptSeed (md : MdS) (f : Nat → Int32) : Md_pastLifted (Md_keptSeed' md f) = Md_pastLifted md := rfl
theorem gn_pastLifted_keptLifted (md : MdS) (f : Nat → Int32) : Md_pastLifted (Md_keptLifted' md f) = Md_pastLifted md := rfl
theorem gn_pastLifted_acts (md : MdS) (f : Int32) : Md_pastLifted (Md_acts' md f) = Md_pastLifted md := rfl
theorem gn_pastLifted_marks (md : MdS) (f : Int32) : Md_pastLifted (Md_marks' md f) = Md_pastLifted md := rfl
theorem gs_keptParted (md : MdS) (f : Nat → Int32) : Md_keptParted (Md_keptParted' md f) = f := rfl
theorem gn_keptParted_thrown (md : MdS) (f : Int32) : Md_keptParted (Md_thrown' md f) = Md_keptParted md := rfl
theorem gn_keptParted_trouble (md : MdS) (f : Int32) : Md_keptParted (Md_trouble' md f) = Md_keptParted md := rfl
theorem gn_keptParted_where (md : MdS) (f : Int32) : Md_keptParted (Md_where' md f) = Md_keptParted md := rfl
theorem gn_keptParted_tape (md : MdS) (f : Nat → Int32) : Md_keptParted (Md_tape' md f) = Md_keptParted md := rfl
theorem gn_keptParted_taped (md : MdS) (f : Int32) : Md_keptParted (Md_taped' md f) = Md_keptParted md := rfl
theorem gn_keptParted_fault (md : MdS) (f : Int32) : Md_keptParted (Md_fault' md f) = Md_keptParted md := rfl
theorem gn_keptParted_now (md : MdS) (f : Int64) : Md_keptParted (Md_now' md f) = Md_keptParted md := rfl
theorem gn_keptParted_parted (md : MdS) (f : Int32) : Md_keptParted (Md_parted' md f) = Md_keptParted md := rfl
theorem gn_keptParted_lifted (md : MdS) (f : Int32) : Md_keptParted (Md_lifted' md f) = Md_keptParted md := rfl
theorem gn_keptParted_seed (md : MdS) (f : Int32) : Md_keptParted (Md_seed' md f) = Md_keptParted md := rfl
theorem gn_keptParted_pastNow (md : MdS) (f : Nat → Int64) : Md_keptParted (Md_pastNow' md f) = Md_keptParted md := rfl
theorem gn_keptParted_keptNow (md : MdS) (f : Nat → Int64) : Md_keptParted (Md_keptNow' md f) = Md_keptParted md := rfl
theorem gn_keptParted_pastParted (md : MdS) (f : Nat → Int32) : Md_keptParted (Md_pastParted' md f) = Md_keptParted md := rfl
theorem gn_keptParted_pastSeed (md : MdS) (f : Nat → Int32) : Md_keptParted (Md_pastSeed' md f) = Md_keptParted md := rfl
theorem gn_keptParted_pastLifted (md : MdS) (f : Nat → Int32) : Md_keptParted (Md_pastLifted' md f) = Md_keptParted md := rfl
theorem gn_keptParted_keptSeed (md : MdS) (f : Nat → Int32) : Md_keptParted (Md_keptSeed' md f) = Md_keptParted md := rfl
theorem gn_keptParted_keptLifted (md : MdS) (f : Nat → Int32) : Md_keptParted (Md_keptLifted' md f) = Md_keptParted md := rfl
theorem gn_keptParted_acts (md : MdS) (f : Int32) : Md_keptParted (Md_acts' md f) = Md_keptParted md := rfl
theorem gn_keptParted_marks (md : MdS) (f : Int32) : Md_keptParted (Md_marks' md f) = Md_keptParted md := rfl
theorem gs_keptSeed (md : MdS) (f : Nat → Int32) : Md_keptSeed (Md_keptSeed' md f) = f := rfl
theorem gn_keptSeed_thrown (md : MdS) (f : Int32) : Md_keptSeed (Md_thrown' md f) = Md_keptSeed md := rfl
theorem gn_keptSeed_trouble (md : MdS) (f : Int32) : Md_keptSeed (Md_trouble' md f) = Md_keptSeed md := rfl
theorem gn_keptSeed_where (md : MdS) (f : Int32) : Md_keptSeed (Md_where' md f) = Md_keptSeed md := rfl
theorem gn_keptSeed_tape (md : MdS) (f : Nat → Int32) : Md_keptSeed (Md_tape' md f) = Md_keptSeed md := rfl
theorem gn_keptSeed_taped (md : MdS) (f : Int32) : Md_keptSeed (Md_taped' md f) = Md_keptSeed md := rfl
theorem gn_keptSeed_fault (md : MdS) (f : Int32) : Md_keptSeed (Md_fault' md f) = Md_keptSeed md := rfl
theorem gn_keptSeed_now (md : MdS) (f : Int64) : Md_keptSeed (Md_now' md f) = Md_keptSeed md := rfl
theorem gn_keptSeed_parted (md : MdS) (f : Int32) : Md_keptSeed (Md_parted' md f) = Md_keptSeed md := rfl
theorem gn_keptSeed_lifted (md : MdS) (f : Int32) : Md_keptSeed (Md_lifted' md f) = Md_keptSeed md := rfl
theorem gn_keptSeed_seed (md : MdS) (f : Int32) : Md_keptSeed (Md_seed' md f) = Md_keptSeed md := rfl
theorem gn_keptSeed_pastNow (md : MdS) (f : Nat → Int64) : Md_keptSeed (Md_pastNow' md f) = Md_keptSeed md := rfl
theorem gn_keptSeed_keptNow (md : MdS) (f : Nat → Int64) : Md_keptSeed (Md_keptNow' md f) = Md_keptSeed md := rfl
theorem gn_keptSeed_pastParted (md : MdS) (f : Nat → Int32) : Md_keptSeed (Md_pastParted' md f) = Md_keptSeed md := rfl
theorem gn_keptSeed_pastSeed (md : MdS) (f : Nat → Int32) : Md_keptSeed (Md_pastSeed' md f) = Md_keptSeed md := rfl
theorem gn_keptSeed_pastLifted (md : MdS) (f : Nat → Int32) : Md_keptSeed (Md_pastLifted' md f) = Md_keptSeed md := rfl
theorem gn_keptSeed_keptParted (md : MdS) (f : Nat → Int32) : Md_keptSeed (Md_keptParted' md f) = Md_keptSeed md := rfl
theorem gn_keptSeed_keptLifted (md : MdS) (f : Nat → Int32) : Md_keptSeed (Md_keptLifted' md f) = Md_keptSeed md := rfl
theorem gn_keptSeed_acts (md : MdS) (f : Int32) : Md_keptSeed (Md_acts' md f) = Md_keptSeed md := rfl
theorem gn_keptSeed_marks (md : MdS) (f : Int32) : Md_keptSeed (Md_marks' md f) = Md_keptSeed md := rfl
theorem gs_keptLifted (md : MdS) (f : Nat → Int32) : Md_keptLifted (Md_keptLifted' md f) = f := rfl
theorem gn_keptLifted_thrown (md : MdS) (f : Int32) : Md_keptLifted (Md_thrown' md f) = Md_keptLifted md := rfl
theorem gn_keptLifted_trouble (md : MdS) (f : Int32) : Md_keptLifted (Md_trouble' md f) = Md_keptLifted md := rfl
theorem gn_keptLifted_where (md : MdS) (f : Int32) : Md_keptLifted (Md_where' md f) = Md_keptLifted md := rfl
theorem gn_keptLifted_tape (md : MdS) (f : Nat → Int32) : Md_keptLifted (Md_tape' md f) = Md_keptLifted md := rfl
theorem gn_keptLifted_taped (md : MdS) (f : Int32) : Md_keptLifted (Md_taped' md f) = Md_keptLifted md := rfl
theorem gn_keptLifted_fault (md : MdS) (f : Int32) : Md_keptLifted (Md_fault' md f) = Md_keptLifted md := rfl
theorem gn_keptLifted_now (md : MdS) (f : Int64) : Md_keptLifted (Md_now' md f) = Md_keptLifted md := rfl
theorem gn_keptLifted_parted (md : MdS) (f : Int32) : Md_keptLifted (Md_parted' md f) = Md_keptLifted md := rfl
theorem gn_keptLifted_lifted (md : MdS) (f : Int32) : Md_keptLifted (Md_lifted' md f) = Md_keptLifted md := rfl
theorem gn_keptLifted_seed (md : MdS) (f : Int32) : Md_keptLifted (Md_seed' md f) = Md_keptLifted md := rfl
theorem gn_keptLifted_pastNow (md : MdS) (f : Nat → Int64) : Md_keptLifted (Md_pastNow' md f) = Md_keptLifted md := rfl
theorem gn_keptLifted_keptNow (md : MdS) (f : Nat → Int64) : Md_keptLifted (Md_keptNow' md f) = Md_keptLifted md := rfl
theorem gn_keptLifted_pastParted (md : MdS) (f : Nat → Int32) : Md_keptLifted (Md_pastParted' md f) = Md_keptLifted md := rfl
theorem gn_keptLifted_pastSeed (md : MdS) (f : Nat → Int32) : Md_keptLifted (Md_pastSeed' md f) = Md_keptLifted md := rfl
theorem gn_keptLifted_pastLifted (md : MdS) (f : Nat → Int32) : Md_keptLifted (Md_pastLifted' md f) = Md_keptLifted md := rfl
theorem gn_keptLifted_keptParted (md : MdS) (f : Nat → Int32) : Md_keptLifted (Md_keptParted' md f) = Md_keptLifted md := rfl
theorem gn_keptLifted_keptSeed (md : MdS) (f : Nat → Int32) : Md_keptLifted (Md_keptSeed' md f) = Md_keptLifted md := rfl
theorem gn_keptLifted_acts (md : MdS) (f : Int32) : Md_keptLifted (Md_acts' md f) = Md_keptLifted md := rfl
theorem gn_keptLifted_marks (md : MdS) (f : Int32) : Md_keptLifted (Md_marks' md f) = Md_keptLifted md := rfl
theorem gs_acts (md : MdS) (f : Int32) : Md_acts (Md_acts' md f) = f := rfl
theorem gn_acts_thrown (md : MdS) (f : Int32) : Md_acts (Md_thrown' md f) = Md_acts md := rfl
theorem gn_acts_trouble (md : MdS) (f : Int32) : Md_acts (Md_trouble' md f) = Md_acts md := rfl
theorem gn_acts_where (md : MdS) (f : Int32) : Md_acts (Md_where' md f) = Md_acts md := rfl
theorem gn_acts_tape (md : MdS) (f : Nat → Int32) : Md_acts (Md_tape' md f) = Md_acts md := rfl
theorem gn_acts_taped (md : MdS) (f : Int32) : Md_acts (Md_taped' md f) = Md_acts md := rfl
theorem gn_acts_fault (md : MdS) (f : Int32) : Md_acts (Md_fault' md f) = Md_acts md := rfl
theorem gn_acts_now (md : MdS) (f : Int64) : Md_acts (Md_now' md f) = Md_acts md := rfl
theorem gn_acts_parted (md : MdS) (f : Int32) : Md_acts (Md_parted' md f) = Md_acts md := rfl
theorem gn_acts_lifted (md : MdS) (f : Int32) : Md_acts (Md_lifted' md f) = Md_acts md := rfl
theorem gn_acts_seed (md : MdS) (f : Int32) : Md_acts (Md_seed' md f) = Md_acts md := rfl
theorem gn_acts_pastNow (md : MdS) (f : Nat → Int64) : Md_acts (Md_pastNow' md f) = Md_acts md := rfl
theorem gn_acts_keptNow (md : MdS) (f : Nat → Int64) : Md_acts (Md_keptNow' md f) = Md_acts md := rfl
theorem gn_acts_pastParted (md : MdS) (f : Nat → Int32) : Md_acts (Md_pastParted' md f) = Md_acts md := rfl
theorem gn_acts_pastSeed (md : MdS) (f : Nat → Int32) : Md_acts (Md_pastSeed' md f) = Md_acts md := rfl
theorem gn_acts_pastLifted (md : MdS) (f : Nat → Int32) : Md_acts (Md_pastLifted' md f) = Md_acts md := rfl
theorem gn_acts_keptParted (md : MdS) (f : Nat → Int32) : Md_acts (Md_keptParted' md f) = Md_acts md := rfl
theorem gn_acts_keptSeed (md : MdS) (f : Nat → Int32) : Md_acts (Md_keptSeed' md f) = Md_acts md := rfl
theorem gn_acts_keptLifted (md : MdS) (f : Nat → Int32) : Md_acts (Md_keptLifted' md f) = Md_acts md := rfl
theorem gn_acts_marks (md : MdS) (f : Int32) : Md_acts (Md_marks' md f) = Md_acts md := rfl
theorem gs_marks (md : MdS) (f : Int32) : Md_marks (Md_marks' md f) = f := rfl
theorem gn_marks_thrown (md : MdS) (f : Int32) : Md_marks (Md_thrown' md f) = Md_marks md := rfl
theorem gn_marks_trouble (md : MdS) (f : Int32) : Md_marks (Md_trouble' md f) = Md_marks md := rfl
theorem gn_marks_where (md : MdS) (f : Int32) : Md_marks (Md_where' md f) = Md_marks md := rfl
theorem gn_marks_tape (md : MdS) (f : Nat → Int32) : Md_marks (Md_tape' md f) = Md_marks md := rfl
theorem gn_marks_taped (md : MdS) (f : Int32) : Md_marks (Md_taped' md f) = Md_marks md := rfl
theorem gn_marks_fault (md : MdS) (f : Int32) : Md_marks (Md_fault' md f) = Md_marks md := rfl
theorem gn_marks_now (md : MdS) (f : Int64) : Md_marks (Md_now' md f) = Md_marks md := rfl
theorem gn_marks_parted (md : MdS) (f : Int32) : Md_marks (Md_parted' md f) = Md_marks md := rfl
theorem gn_marks_lifted (md : MdS) (f : Int32) : Md_marks (Md_lifted' md f) = Md_marks md := rfl
theorem gn_marks_seed (md : MdS) (f : Int32) : Md_marks (Md_seed' md f) = Md_marks md := rfl
theorem gn_marks_pastNow (md : MdS) (f : Nat → Int64) : Md_marks (Md_pastNow' md f) = Md_marks md := rfl
theorem gn_marks_keptNow (md : MdS) (f : Nat → Int64) : Md_marks (Md_keptNow' md f) = Md_marks md := rfl
theorem gn_marks_pastParted (md : MdS) (f : Nat → Int32) : Md_marks (Md_pastParted' md f) = Md_marks md := rfl
theorem gn_marks_pastSeed (md : MdS) (f : Nat → Int32) : Md_marks (Md_pastSeed' md f) = Md_marks md := rfl
theorem gn_marks_pastLifted (md : MdS) (f : Nat → Int32) : Md_marks (Md_pastLifted' md f) = Md_marks md := rfl
theorem gn_marks_keptParted (md : MdS) (f : Nat → Int32) : Md_marks (Md_keptParted' md f) = Md_marks md := rfl
theorem gn_marks_keptSeed (md : MdS) (f : Nat → Int32) : Md_marks (Md_keptSeed' md f) = Md_marks md := rfl
theorem gn_marks_keptLifted (md : MdS) (f : Nat → Int32) : Md_marks (Md_keptLifted' md f) = Md_marks md := rfl
theorem gn_marks_acts (md : MdS) (f : Int32) : Md_marks (Md_acts' md f) = Md_marks md := rfl
