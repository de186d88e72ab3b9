def lcore (s : MdS) : MdS := (Md_thrown s, Md_trouble s, Md_where s, Md_tape s, Md_taped s, Md_size s, Md_spot s, Md_sort s, Md_place s, Md_number s, Md_fault s, Md_wrongAt s, Md_word s, Md_now s, Md_parted s, Md_lifted s, Md_seed s, (fun _ => (0 : Int32)), (fun _ => (0 : Int32)), Md_come s, Md_table s, Md_many s, Md_ahead s, Md_after s, Md_row s, Md_equation s, Md_arcs s, Md_drawn s, Md_ways s, Md_pastNow s, Md_keptNow s, Md_pastParted s, Md_pastSeed s, Md_pastLifted s, Md_keptParted s, Md_keptSeed s, Md_keptLifted s, Md_acts s, Md_marks s)
def score (s : MdS) : MdS := (Md_thrown s, Md_trouble s, Md_where s, Md_tape s, Md_taped s, (0 : Int32), (0 : Int32), (0 : Int32), (0 : Int32), (0 : Int32), Md_fault s, (0 : Int32), (0 : Int64), Md_now s, Md_parted s, Md_lifted s, Md_seed s, (fun _ => (0 : Int32)), (fun _ => (0 : Int32)), (fun _ => (0 : Int64)), (fun _ => (0 : Int64)), (0 : Int32), (fun _ => (0 : Int32)), (fun _ => (0 : Int32)), (fun _ => (0 : Int32)), (fun _ => (0 : Int32)), (0 : Int32), (0 : Int32), (fun _ => (0 : Int64)), Md_pastNow s, Md_keptNow s, Md_pastParted s, Md_pastSeed s, Md_pastLifted s, Md_keptParted s, Md_keptSeed s, Md_keptLifted s, Md_acts s, Md_marks s)
/-- alike but for what was looked at; alike but for what is written anew at each call -/
def Lk (md md' : MdS) : Prop := lcore md' = lcore md
def Sc (md md' : MdS) : Prop := score md' = score md
theorem Lk.refl (md : MdS) : Lk md md := rfl
theorem Sc.refl (md : MdS) : Sc md md := rfl
theorem Lk.trans {a b c : MdS} (h : Lk a b) (k : Lk b c) : Lk a c := Eq.trans k h
theorem Sc.trans {a b c : MdS} (h : Sc a b) (k : Sc b c) : Sc a c := Eq.trans k h
theorem Lk.sc {a b : MdS} (h : Lk a b) : Sc a b := (congrArg score (show lcore b = lcore a from h) : score (lcore b) = score (lcore a))
theorem Lk.thrown {a b : MdS} (h : Lk a b) : Md_thrown b = Md_thrown a := (congrArg Md_thrown (show lcore b = lcore a from h) : Md_thrown (lcore b) = Md_thrown (lcore a))
theorem Sc.thrown {a b : MdS} (h : Sc a b) : Md_thrown b = Md_thrown a := (congrArg Md_thrown (show score b = score a from h) : Md_thrown (score b) = Md_thrown (score a))
theorem Lk.trouble {a b : MdS} (h : Lk a b) : Md_trouble b = Md_trouble a := (congrArg Md_trouble (show lcore b = lcore a from h) : Md_trouble (lcore b) = Md_trouble (lcore a))
theorem Sc.trouble {a b : MdS} (h : Sc a b) : Md_trouble b = Md_trouble a := (congrArg Md_trouble (show score b = score a from h) : Md_trouble (score b) = Md_trouble (score a))
theorem Lk.where {a b : MdS} (h : Lk a b) : Md_where b = Md_where a := (congrArg Md_where (show lcore b = lcore a from h) : Md_where (lcore b) = Md_where (lcore a))
theorem Sc.where {a b : MdS} (h : Sc a b) : Md_where b = Md_where a := (congrArg Md_where (show score b = score a from h) : Md_where (score b) = Md_where (score a))
theorem Lk.tape {a b : MdS} (h : Lk a b) : Md_tape b = Md_tape a := (congrArg Md_tape (show lcore b = lcore a from h) : Md_tape (lcore b) = Md_tape (lcore a))
theorem Sc.tape {a b : MdS} (h : Sc a b) : Md_tape b = Md_tape a := (congrArg Md_tape (show score b = score a from h) : Md_tape (score b) = Md_tape (score a))
theorem Lk.taped {a b : MdS} (h : Lk a b) : Md_taped b = Md_taped a := (congrArg Md_taped (show lcore b = lcore a from h) : Md_taped (lcore b) = Md_taped (lcore a))
theorem Sc.taped {a b : MdS} (h : Sc a b) : Md_taped b = Md_taped a := (congrArg Md_taped (show score b = score a from h) : Md_taped (score b) = Md_taped (score a))
theorem Lk.size {a b : MdS} (h : Lk a b) : Md_size b = Md_size a := (congrArg Md_size (show lcore b = lcore a from h) : Md_size (lcore b) = Md_size (lcore a))
theorem Sc.u_size (md : MdS) (f : Int32) : Sc md (Md_size' md f) := rfl
theorem Lk.spot {a b : MdS} (h : Lk a b) : Md_spot b = Md_spot a := (congrArg Md_spot (show lcore b = lcore a from h) : Md_spot (lcore b) = Md_spot (lcore a))
theorem Sc.u_spot (md : MdS) (f : Int32) : Sc md (Md_spot' md f) := rfl
theorem Lk.sort {a b : MdS} (h : Lk a b) : Md_sort b = Md_sort a := (congrArg Md_sort (show lcore b = lcore a from h) : Md_sort (lcore b) = Md_sort (lcore a))
theorem Sc.u_sort (md : MdS) (f : Int32) : Sc md (Md_sort' md f) := rfl
theorem Lk.place {a b : MdS} (h : Lk a b) : Md_place b = Md_place a := (congrArg Md_place (show lcore b = lcore a from h) : Md_place (lcore b) = Md_place (lcore a))
theorem Sc.u_place (md : MdS) (f : Int32) : Sc md (Md_place' md f) := rfl
theorem Lk.number {a b : MdS} (h : Lk a b) : Md_number b = Md_number a := (congrArg Md_number (show lcore b = lcore a from h) : Md_number (lcore b) = Md_number (lcore a))
theorem Sc.u_number (md : MdS) (f : Int32) : Sc md (Md_number' md f) := rfl
theorem Lk.fault {a b : MdS} (h : Lk a b) : Md_fault b = Md_fault a := (congrArg Md_fault (show lcore b = lcore a from h) : Md_fault (lcore b) = Md_fault (lcore a))
theorem Sc.fault {a b : MdS} (h : Sc a b) : Md_fault b = Md_fault a := (congrArg Md_fault (show score b = score a from h) : Md_fault (score b) = Md_fault (score a))
theorem Lk.wrongAt {a b : MdS} (h : Lk a b) : Md_wrongAt b = Md_wrongAt a := (congrArg Md_wrongAt (show lcore b = lcore a from h) : Md_wrongAt (lcore b) = Md_wrongAt (lcore a))
theorem Sc.u_wrongAt (md : MdS) (f : Int32) : Sc md (Md_wrongAt' md f) := rfl
theorem Lk.word {a b : MdS} (h : Lk a b) : Md_word b = Md_word a := (congrArg Md_word (show lcore b = lcore a from h) : Md_word (lcore b) = Md_word (lcore a))
theorem Sc.u_word (md : MdS) (f : Int64) : Sc md (Md_word' md f) := rfl
theorem Lk.now {a b : MdS} (h : Lk a b) : Md_now b = Md_now a := (congrArg Md_now (show lcore b = lcore a from h) : Md_now (lcore b) = Md_now (lcore a))
theorem Sc.now {a b : MdS} (h : Sc a b) : Md_now b = Md_now a := (congrArg Md_now (show score b = score a from h) : Md_now (score b) = Md_now (score a))
theorem Lk.parted {a b : MdS} (h : Lk a b) : Md_parted b = Md_parted a := (congrArg Md_parted (show lcore b = lcore a from h) : Md_parted (lcore b) = Md_parted (lcore a))
theorem Sc.parted {a b : MdS} (h : Sc a b) : Md_parted b = Md_parted a := (congrArg Md_parted (show score b = score a from h) : Md_parted (score b) = Md_parted (score a))
theorem Lk.lifted {a b : MdS} (h : Lk a b) : Md_lifted b = Md_lifted a := (congrArg Md_lifted (show lcore b = lcore a from h) : Md_lifted (lcore b) = Md_lifted (lcore a))
theorem Sc.lifted {a b : MdS} (h : Sc a b) : Md_lifted b = Md_lifted a := (congrArg Md_lifted (show score b = score a from h) : Md_lifted (score b) = Md_lifted (score a))
theorem Lk.seed {a b : MdS} (h : Lk a b) : Md_seed b = Md_seed a := (congrArg Md_seed (show lcore b = lcore a from h) : Md_seed (lcore b) = Md_seed (lcore a))
theorem Sc.seed {a b : MdS} (h : Sc a b) : Md_seed b = Md_seed a := (congrArg Md_seed (show score b = score a from h) : Md_seed (score b) = Md_seed (score a))
theorem Lk.u_spotOf (md : MdS) (f : Nat → Int32) : Lk md (Md_spotOf' md f) := rfl
theorem Sc.u_spotOf (md : MdS) (f : Nat → Int32) : Sc md (Md_spotOf' md f) := rfl
theorem Lk.u_nextOf (md : MdS) (f : Nat → Int32) : Lk md (Md_nextOf' md f) := rfl
theorem Sc.u_nextOf (md : MdS) (f : Nat → Int32) : Sc md (Md_nextOf' md f) := rfl
theorem Lk.come {a b : MdS} (h : Lk a b) : Md_come b = Md_come a := (congrArg Md_come (show lcore b = lcore a from h) : Md_come (lcore b) = Md_come (lcore a))
theorem Sc.u_come (md : MdS) (f : Nat → Int64) : Sc md (Md_come' md f) := rfl
theorem Lk.table {a b : MdS} (h : Lk a b) : Md_table b = Md_table a := (congrArg Md_table (show lcore b = lcore a from h) : Md_table (lcore b) = Md_table (lcore a))
theorem Sc.u_table (md : MdS) (f : Nat → Int64) : Sc md (Md_table' md f) := rfl
theorem Lk.many {a b : MdS} (h : Lk a b) : Md_many b = Md_many a := (congrArg Md_many (show lcore b = lcore a from h) : Md_many (lcore b) = Md_many (lcore a))
theorem Sc.u_many (md : MdS) (f : Int32) : Sc md (Md_many' md f) := rfl
theorem Lk.ahead {a b : MdS} (h : Lk a b) : Md_ahead b = Md_ahead a := (congrArg Md_ahead (show lcore b = lcore a from h) : Md_ahead (lcore b) = Md_ahead (lcore a))
theorem Sc.u_ahead (md : MdS) (f : Nat → Int32) : Sc md (Md_ahead' md f) := rfl
theorem Lk.after {a b : MdS} (h : Lk a b) : Md_after b = Md_after a := (congrArg Md_after (show lcore b = lcore a from h) : Md_after (lcore b) = Md_after (lcore a))
theorem Sc.u_after (md : MdS) (f : Nat → Int32) : Sc md (Md_after' md f) := rfl
theorem Lk.row {a b : MdS} (h : Lk a b) : Md_row b = Md_row a := (congrArg Md_row (show lcore b = lcore a from h) : Md_row (lcore b) = Md_row (lcore a))
theorem Sc.u_row (md : MdS) (f : Nat → Int32) : Sc md (Md_row' md f) := rfl
theorem Lk.equation {a b : MdS} (h : Lk a b) : Md_equation b = Md_equation a := (congrArg Md_equation (show lcore b = lcore a from h) : Md_equation (lcore b) = Md_equation (lcore a))
theorem Sc.u_equation (md : MdS) (f : Nat → Int32) : Sc md (Md_equation' md f) := rfl
theorem Lk.arcs {a b : MdS} (h : Lk a b) : Md_arcs b = Md_arcs a := (congrArg Md_arcs (show lcore b = lcore a from h) : Md_arcs (lcore b) = Md_arcs (lcore a))
theorem Sc.u_arcs (md : MdS) (f : Int32) : Sc md (Md_arcs' md f) := rfl
theorem Lk.drawn {a b : MdS} (h : Lk a b) : Md_drawn b = Md_drawn a := (congrArg Md_drawn (show lcore b = lcore a from h) : Md_drawn (lcore b) = Md_drawn (lcore a))
theorem Sc.u_drawn (md : MdS) (f : Int32) : Sc md (Md_drawn' md f) := rfl
theorem Lk.ways {a b : MdS} (h : Lk a b) : Md_ways b = Md_ways a := (congrArg Md_ways (show lcore b = lcore a from h) : Md_ways (lcore b) = Md_ways (lcore a))
theorem Sc.u_ways (md : MdS) (f : Nat → Int64) : Sc md (Md_ways' md f) := rfl
theorem Lk.pastNow {a b : MdS} (h : Lk a b) : Md_pastNow b = Md_pastNow a := (congrArg Md_pastNow (show lcore b = lcore a from h) : Md_pastNow (lcore b) = Md_pastNow (lcore a))
theorem Sc.pastNow {a b : MdS} (h : Sc a b) : Md_pastNow b = Md_pastNow a := (congrArg Md_pastNow (show score b = score a from h) : Md_pastNow (score b) = Md_pastNow (score a))
theorem Lk.keptNow {a b : MdS} (h : Lk a b) : Md_keptNow b = Md_keptNow a := (congrArg Md_keptNow (show lcore b = lcore a from h) : Md_keptNow (lcore b) = Md_keptNow (lcore a))
theorem Sc.keptNow {a b : MdS} (h : Sc a b) : Md_keptNow b = Md_keptNow a := (congrArg Md_keptNow (show score b = score a from h) : Md_keptNow (score b) = Md_keptNow (score a))
theorem Lk.pastParted {a b : MdS} (h : Lk a b) : Md_pastParted b = Md_pastParted a := (congrArg Md_pastParted (show lcore b = lcore a from h) : Md_pastParted (lcore b) = Md_pastParted (lcore a))
theorem Sc.pastParted {a b : MdS} (h : Sc a b) : Md_pastParted b = Md_pastParted a := (congrArg Md_pastParted (show score b = score a from h) : Md_pastParted (score b) = Md_pastParted (score a))
theorem Lk.pastSeed {a b : MdS} (h : Lk a b) : Md_pastSeed b = Md_pastSeed a := (congrArg Md_pastSeed (show lcore b = lcore a from h) : Md_pastSeed (lcore b) = Md_pastSeed (lcore a))
theorem Sc.pastSeed {a b : MdS} (h : Sc a b) : Md_pastSeed b = Md_pastSeed a := (congrArg Md_pastSeed (show score b = score a from h) : Md_pastSeed (score b) = Md_pastSeed (score a))
theorem Lk.pastLifted {a b : MdS} (h : Lk a b) : Md_pastLifted b = Md_pastLifted a := (congrArg Md_pastLifted (show lcore b = lcore a from h) : Md_pastLifted (lcore b) = Md_pastLifted (lcore a))
theorem Sc.pastLifted {a b : MdS} (h : Sc a b) : Md_pastLifted b = Md_pastLifted a := (congrArg Md_pastLifted (show score b = score a from h) : Md_pastLifted (score b) = Md_pastLifted (score a))
theorem Lk.keptParted {a b : MdS} (h : Lk a b) : Md_keptParted b = Md_keptParted a := (congrArg Md_keptParted (show lcore b = lcore a from h) : Md_keptParted (lcore b) = Md_keptParted (lcore a))
theorem Sc.keptParted {a b : MdS} (h : Sc a b) : Md_keptParted b = Md_keptParted a := (congrArg Md_keptParted (show score b = score a from h) : Md_keptParted (score b) = Md_keptParted (score a))
theorem Lk.keptSeed {a b : MdS} (h : Lk a b) : Md_keptSeed b = Md_keptSeed a := (congrArg Md_keptSeed (show lcore b = lcore a from h) : Md_keptSeed (lcore b) = Md_keptSeed (lcore a))
theorem Sc.keptSeed {a b : MdS} (h : Sc a b) : Md_keptSeed b = Md_keptSeed a := (congrArg Md_keptSeed (show score b = score a from h) : Md_keptSeed (score b) = Md_keptSeed (score a))
theorem Lk.keptLifted {a b : MdS} (h : Lk a b) : Md_keptLifted b = Md_keptLifted a := (congrArg Md_keptLifted (show lcore b = lcore a from h) : Md_keptLifted (lcore b) = Md_keptLifted (lcore a))
theorem Sc.keptLifted {a b : MdS} (h : Sc a b) : Md_keptLifted b = Md_keptLifted a := (congrArg Md_keptLifted (show score b = score a from h) : Md_keptLifted (score b) = Md_keptLifted (score a))
theorem Lk.acts {a b : MdS} (h : Lk a b) : Md_acts b = Md_acts a := (congrArg Md_acts (show lcore b = lcore a from h) : Md_acts (lcore b) = Md_acts (lcore a))
theorem Sc.acts {a b : MdS} (h : Sc a b) : Md_acts b = Md_acts a := (congrArg Md_acts (show score b = score a from h) : Md_acts (score b) = Md_acts (score a))
theorem Lk.marks {a b : MdS} (h : Lk a b) : Md_marks b = Md_marks a := (congrArg Md_marks (show lcore b = lcore a from h) : Md_marks (lcore b) = Md_marks (lcore a))
theorem Sc.marks {a b : MdS} (h : Sc a b) : Md_marks b = Md_marks a := (congrArg Md_marks (show score b = score a from h) : Md_marks (score b) = Md_marks (score a))
