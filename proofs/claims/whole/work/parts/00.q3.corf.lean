theorem gs_spotOf (md : MdS) (f : Nat → Int32) : Md_spotOf (Md_spotOf' md f) = f := rfl
theorem gn_spotOf_nextOf (md : MdS) (f : Nat → Int32) : Md_spotOf (Md_nextOf' md f) = Md_spotOf md := rfl
theorem gn_spotOf_come (md : MdS) (f : Nat → Int64) : Md_spotOf (Md_come' md f) = Md_spotOf md := rfl
theorem gn_spotOf_table (md : MdS) (f : Nat → Int64) : Md_spotOf (Md_table' md f) = Md_spotOf md := rfl
theorem gn_spotOf_many (md : MdS) (f : Int32) : Md_spotOf (Md_many' md f) = Md_spotOf md := rfl
theorem gn_spotOf_ahead (md : MdS) (f : Nat → Int32) : Md_spotOf (Md_ahead' md f) = Md_spotOf md := rfl
theorem gn_spotOf_after (md : MdS) (f : Nat → Int32) : Md_spotOf (Md_after' md f) = Md_spotOf md := rfl
theorem gn_spotOf_row (md : MdS) (f : Nat → Int32) : Md_spotOf (Md_row' md f) = Md_spotOf md := rfl
theorem gn_spotOf_equation (md : MdS) (f : Nat → Int32) : Md_spotOf (Md_equation' md f) = Md_spotOf md := rfl
theorem gn_spotOf_arcs (md : MdS) (f : Int32) : Md_spotOf (Md_arcs' md f) = Md_spotOf md := rfl
theorem gn_spotOf_drawn (md : MdS) (f : Int32) : Md_spotOf (Md_drawn' md f) = Md_spotOf md := rfl
theorem gn_spotOf_ways (md : MdS) (f : Nat → Int64) : Md_spotOf (Md_ways' md f) = Md_spotOf md := rfl
theorem gs_nextOf (md : MdS) (f : Nat → Int32) : Md_nextOf (Md_nextOf' md f) = f := rfl
theorem gn_nextOf_spotOf (md : MdS) (f : Nat → Int32) : Md_nextOf (Md_spotOf' md f) = Md_nextOf md := rfl
theorem gn_nextOf_come (md : MdS) (f : Nat → Int64) : Md_nextOf (Md_come' md f) = Md_nextOf md := rfl
theorem gn_nextOf_table (md : MdS) (f : Nat → Int64) : Md_nextOf (Md_table' md f) = Md_nextOf md := rfl
theorem gn_nextOf_many (md : MdS) (f : Int32) : Md_nextOf (Md_many' md f) = Md_nextOf md := rfl
theorem gn_nextOf_ahead (md : MdS) (f : Nat → Int32) : Md_nextOf (Md_ahead' md f) = Md_nextOf md := rfl
theorem gn_nextOf_after (md : MdS) (f : Nat → Int32) : Md_nextOf (Md_after' md f) = Md_nextOf md := rfl
theorem gn_nextOf_row (md : MdS) (f : Nat → Int32) : Md_nextOf (Md_row' md f) = Md_nextOf md := rfl
theorem gn_nextOf_equation (md : MdS) (f : Nat → Int32) : Md_nextOf (Md_equation' md f) = Md_nextOf md := rfl
theorem gn_nextOf_arcs (md : MdS) (f : Int32) : Md_nextOf (Md_arcs' md f) = Md_nextOf md := rfl
theorem gn_nextOf_drawn (md : MdS) (f : Int32) : Md_nextOf (Md_drawn' md f) = Md_nextOf md := rfl
theorem gn_nextOf_ways (md : MdS) (f : Nat → Int64) : Md_nextOf (Md_ways' md f) = Md_nextOf md := rfl
theorem gs_come (md : MdS) (f : Nat → Int64) : Md_come (Md_come' md f) = f := rfl
theorem gn_come_spotOf (md : MdS) (f : Nat → Int32) : Md_come (Md_spotOf' md f) = Md_come md := rfl
theorem gn_come_nextOf (md : MdS) (f : Nat → Int32) : Md_come (Md_nextOf' md f) = Md_come md := rfl
theorem gn_come_table (md : MdS) (f : Nat → Int64) : Md_come (Md_table' md f) = Md_come md := rfl
theorem gn_come_many (md : MdS) (f : Int32) : Md_come (Md_many' md f) = Md_come md := rfl
theorem gn_come_ahead (md : MdS) (f : Nat → Int32) : Md_come (Md_ahead' md f) = Md_come md := rfl
theorem gn_come_after (md : MdS) (f : Nat → Int32) : Md_come (Md_after' md f) = Md_come md := rfl
theorem gn_come_row (md : MdS) (f : Nat → Int32) : Md_come (Md_row' md f) = Md_come md := rfl
theorem gn_come_equation (md : MdS) (f : Nat → Int32) : Md_come (Md_equation' md f) = Md_come md := rfl
theorem gn_come_arcs (md : MdS) (f : Int32) : Md_come (Md_arcs' md f) = Md_come md := rfl
theorem gn_come_drawn (md : MdS) (f : Int32) : Md_come (Md_drawn' md f) = Md_come md := rfl
theorem gn_come_ways (md : MdS) (f : Nat → Int64) : Md_come (Md_ways' md f) = Md_come md := rfl
theorem gs_table (md : MdS) (f : Nat → Int64) : Md_table (Md_table' md f) = f := rfl
theorem gn_table_spotOf (md : MdS) (f : Nat → Int32) : Md_table (Md_spotOf' md f) = Md_table md := rfl
theorem gn_table_nextOf (md : MdS) (f : Nat → Int32) : Md_table (Md_nextOf' md f) = Md_table md := rfl
theorem gn_table_come (md : MdS) (f : Nat → Int64) : Md_table (Md_come' md f) = Md_table md := rfl
theorem gn_table_many (md : MdS) (f : Int32) : Md_table (Md_many' md f) = Md_table md := rfl
theorem gn_table_ahead (md : MdS) (f : Nat → Int32) : Md_table (Md_ahead' md f) = Md_table md := rfl
theorem gn_table_after (md : MdS) (f : Nat → Int32) : Md_table (Md_after' md f) = Md_table md := rfl
theorem gn_table_row (md : MdS) (f : Nat → Int32) : Md_table (Md_row' md f) = Md_table md := rfl
theorem gn_table_equation (md : MdS) (f : Nat → Int32) : Md_table (Md_equation' md f) = Md_table md := rfl
theorem gn_table_arcs (md : MdS) (f : Int32) : Md_table (Md_arcs' md f) = Md_table md := rfl
theorem gn_table_drawn (md : MdS) (f : Int32) : Md_table (Md_drawn' md f) = Md_table md := rfl
theorem gn_table_ways (md : MdS) (f : Nat → Int64) : Md_table (Md_ways' md f) = Md_table md := rfl
theorem gs_many (md : MdS) (f : Int32) : Md_many (Md_many' md f) = f := rfl
theorem gn_many_spotOf (md : MdS) (f : Nat → Int32) : Md_many (Md_spotOf' md f) = Md_many md := rfl
theorem gn_many_nextOf (md : MdS) (f : Nat → Int32) : Md_many (Md_nextOf' md f) = Md_many md := rfl
theorem gn_many_come (md : MdS) (f : Nat → Int64) : Md_many (Md_come' md f) = Md_many md := rfl
theorem gn_many_table (md : MdS) (f : Nat → Int64) : Md_many (Md_table' md f) = Md_many md := rfl
theorem gn_many_ahead (md : MdS) (f : Nat → Int32) : Md_many (Md_ahead' md f) = Md_many md := rfl
theorem gn_many_after (md : MdS) (f : Nat → Int32) : Md_many (Md_after' md f) = Md_many md := rfl
theorem gn_many_row (md : MdS) (f : Nat → Int32) : Md_many (Md_row' md f) = Md_many md := rfl
theorem gn_many_equation (md : MdS) (f : Nat → Int32) : Md_many (Md_equation' md f) = Md_many md := rfl
theorem gn_many_arcs (md : MdS) (f : Int32) : Md_many (Md_arcs' md f) = Md_many md := rfl
theorem gn_many_drawn (md : MdS) (f : Int32) : Md_many (Md_drawn' md f) = Md_many md := rfl
theorem gn_many_ways (md : MdS) (f : Nat → Int64) : Md_many (Md_ways' md f) = Md_many md := rfl
theorem gs_ahead (md : MdS) (f : Nat → Int32) : Md_ahead (Md_ahead' md f) = f := rfl
theorem gn_ahead_spotOf (md : MdS) (f : Nat → Int32) : Md_ahead (Md_spotOf' md f) = Md_ahead md := rfl
theorem gn_ahead_nextOf (md : MdS) (f : Nat → Int32) : Md_ahead (Md_nextOf' md f) = Md_ahead md := rfl
theorem gn_ahead_come (md : MdS) (f : Nat → Int64) : Md_ahead (Md_come' md f) = Md_ahead md := rfl
theorem gn_ahead_table (md : MdS) (f : Nat → Int64) : Md_ahead (Md_table' md f) = Md_ahead md := rfl
theorem gn_ahead_many (md : MdS) (f : Int32) : Md_ahead (Md_many' md f) = Md_ahead md := rfl
theorem gn_ahead_after (md : MdS) (f : Nat → Int32) : Md_ahead (Md_after' md f) = Md_ahead md := rfl
theorem gn_ahead_row (md : MdS) (f : Nat → Int32) : Md_ahead (Md_row' md f) = Md_ahead md := rfl
theorem gn_ahead_equation (md : MdS) (f : Nat → Int32) : Md_ahead (Md_equation' md f) = Md_ahead md := rfl
theorem gn_ahead_arcs (md : MdS) (f : Int32) : Md_ahead (Md_arcs' md f) = Md_ahead md := rfl
theorem gn_ahead_drawn (md : MdS) (f : Int32) : Md_ahead (Md_drawn' md f) = Md_ahead md := rfl
theorem gn_ahead_ways (md : MdS) (f : Nat → Int64) : Md_ahead (Md_ways' md f) = Md_ahead md := rfl
theorem gs_after (md : MdS) (f : Nat → Int32) : Md_after (Md_after' md f) = f := rfl
theorem gn_after_spotOf (md : MdS) (f : Nat → Int32) : Md_after (Md_spotOf' md f) = Md_after md := rfl
theorem gn_after_nextOf (md : MdS) (f : Nat → Int32) : Md_after (Md_nextOf' md f) = Md_after md := rfl
theorem gn_after_come (md : MdS) (f : Nat → Int64) : Md_after (Md_come' md f) = Md_after md := rfl
theorem gn_after_table (md : MdS) (f : Nat → Int64) : Md_after (Md_table' md f) = Md_after md := rfl
theorem gn_after_many (md : MdS) (f : Int32) : Md_after (Md_many' md f) = Md_after md := rfl
theorem gn_after_ahead (md : MdS) (f : Nat → Int32) : Md_after (Md_ahead' md f) = Md_after md := rfl
theorem gn_after_row (md : MdS) (f : Nat → Int32) : Md_after (Md_row' md f) = Md_after md := rfl
theorem gn_after_equation (md : MdS) (f : Nat → Int32) : Md_after (Md_equation' md f) = Md_after md := rfl
theorem gn_after_arcs (md : MdS) (f : Int32) : Md_after (Md_arcs' md f) = Md_after md := rfl
theorem gn_after_drawn (md : MdS) (f : Int32) : Md_after (Md_drawn' md f) = Md_after md := rfl
theorem gn_after_ways (md : MdS) (f : Nat → Int64) : Md_after (Md_ways' md f) = Md_after md := rfl
theorem gs_row (md : MdS) (f : Nat → Int32) : Md_row (Md_row' md f) = f := rfl
theorem gn_row_spotOf (md : MdS) (f : Nat → Int32) : Md_row (Md_spotOf' md f) = Md_row md := rfl
theorem gn_row_nextOf (md : MdS) (f : Nat → Int32) : Md_row (Md_nextOf' md f) = Md_row md := rfl
theorem gn_row_come (md : MdS) (f : Nat → Int64) : Md_row (Md_come' md f) = Md_row md := rfl
theorem gn_row_table (md : MdS) (f : Nat → Int64) : Md_row (Md_table' md f) = Md_row md := rfl
theorem gn_row_many (md : MdS) (f : Int32) : Md_row (Md_many' md f) = Md_row md := rfl
theorem gn_row_ahead (md : MdS) (f : Nat → Int32) : Md_row (Md_ahead' md f) = Md_row md := rfl
theorem gn_row_after (md : MdS) (f : Nat → Int32) : Md_row (Md_after' md f) = Md_row md := rfl
theorem gn_row_equation (md : MdS) (f : Nat → Int32) : Md_row (Md_equation' md f) = Md_row md := rfl
theorem gn_row_arcs (md : MdS) (f : Int32) : Md_row (Md_arcs' md f) = Md_row md := rfl
theorem gn_row_drawn (md : MdS) (f : Int32) : Md_row (Md_drawn' md f) = Md_row md := rfl
theorem gn_row_ways (md : MdS) (f : Nat → Int64) : Md_row (Md_ways' md f) = Md_row md := rfl
theorem gs_equation (md : MdS) (f : Nat → Int32) : Md_equation (Md_equation' md f) = f := rfl
theorem gn_equation_spotOf (md : MdS) (f : Nat → Int32) : Md_equation (Md_spotOf' md f) = Md_equation md := rfl
theorem gn_equation_nextOf (md : MdS) (f : Nat → Int32) : Md_equation (Md_nextOf' md f) = Md_equation md := rfl
theorem gn_equation_come (md : MdS) (f : Nat → Int64) : Md_equation (Md_come' md f) = Md_equation md := rfl
theorem gn_equation_table (md : MdS) (f : Nat → Int64) : Md_equation (Md_table' md f) = Md_equation md := rfl
theorem gn_equation_many (md : MdS) (f : Int32) : Md_equation (Md_many' md f) = Md_equation md := rfl
theorem gn_equation_ahead (md : MdS) (f : Nat → Int32) : Md_equation (Md_ahead' md f) = Md_equation md := rfl
theorem gn_equation_after (md : MdS) (f : Nat → Int32) : Md_equation (Md_after' md f) = Md_equation md := rfl
theorem gn_equation_row (md : MdS) (f : Nat → Int32) : Md_equation (Md_row' md f) = Md_equation md := rfl
theorem gn_equation_arcs (md : MdS) (f : Int32) : Md_equation (Md_arcs' md f) = Md_equation md := rfl
theorem gn_equation_drawn (md : MdS) (f : Int32) : Md_equation (Md_drawn' md f) = Md_equation md := rfl
theorem gn_equation_ways (md : MdS) (f : Nat → Int64) : Md_equation (Md_ways' md f) = Md_equation md := rfl
theorem gs_arcs (md : MdS) (f : Int32) : Md_arcs (Md_arcs' md f) = f := rfl
theorem gn_arcs_spotOf (md : MdS) (f : Nat → Int32) : Md_arcs (Md_spotOf' md f) = Md_arcs md := rfl
theorem gn_arcs_nextOf (md : MdS) (f : Nat → Int32) : Md_arcs (Md_nextOf' md f) = Md_arcs md := rfl
theorem gn_arcs_come (md : MdS) (f : Nat → Int64) : Md_arcs (Md_come' md f) = Md_arcs md := rfl
theorem gn_arcs_table (md : MdS) (f : Nat → Int64) : Md_arcs (Md_table' md f) = Md_arcs md := rfl
theorem gn_arcs_many (md : MdS) (f : Int32) : Md_arcs (Md_many' md f) = Md_arcs md := rfl
theorem gn_arcs_ahead (md : MdS) (f : Nat → Int32) : Md_arcs (Md_ahead' md f) = Md_arcs md := rfl
theorem gn_arcs_after (md : MdS) (f : Nat → Int32) : Md_arcs (Md_after' md f) = Md_arcs md := rfl
theorem gn_arcs_row (md : MdS) (f : Nat → Int32) : Md_arcs (Md_row' md f) = Md_arcs md := rfl
theorem gn_arcs_equation (md : MdS) (f : Nat → Int32) : Md_arcs (Md_equation' md f) = Md_arcs md := rfl
theorem gn_arcs_drawn (md : MdS) (f : Int32) : Md_arcs (Md_drawn' md f) = Md_arcs md := rfl
theorem gn_arcs_ways (md : MdS) (f : Nat → Int64) : Md_arcs (Md_ways' md f) = Md_arcs md := rfl
theorem gs_drawn (md : MdS) (f : Int32) : Md_drawn (Md_drawn' md f) = f := rfl
theorem gn_drawn_spotOf (md : MdS) (f : Nat → Int32) : Md_drawn (Md_spotOf' md f) = Md_drawn md := rfl
theorem gn_drawn_nextOf (md : MdS) (f : Nat → Int32) : Md_drawn (Md_nextOf' md f) = Md_drawn md := rfl
theorem gn_drawn_come (md : MdS) (f : Nat → Int64) : Md_drawn (Md_come' md f) = Md_drawn md := rfl
theorem gn_drawn_table (md : MdS) (f : Nat → Int64) : Md_drawn (Md_table' md f) = Md_drawn md := rfl
theorem gn_drawn_many (md : MdS) (f : Int32) : Md_drawn (Md_many' md f) = Md_drawn md := rfl
theorem gn_drawn_ahead (md : MdS) (f : Nat → Int32) : Md_drawn (Md_ahead' md f) = Md_drawn md := rfl
theorem gn_drawn_after (md : MdS) (f : Nat → Int32) : Md_drawn (Md_after' md f) = Md_drawn md := rfl
theorem gn_drawn_row (md : MdS) (f : Nat → Int32) : Md_drawn (Md_row' md f) = Md_drawn md := rfl
theorem gn_drawn_equation (md : MdS) (f : Nat → Int32) : Md_drawn (Md_equation' md f) = Md_drawn md := rfl
theorem gn_drawn_arcs (md : MdS) (f : Int32) : Md_drawn (Md_arcs' md f) = Md_drawn md := rfl
theorem gn_drawn_ways (md : MdS) (f : Nat → Int64) : Md_drawn (Md_ways' md f) = Md_drawn md := rfl
theorem gs_ways (md : MdS) (f : Nat → Int64) : Md_ways (Md_ways' md f) = f := rfl
theorem gn_ways_spotOf (md : MdS) (f : Nat → Int32) : Md_ways (Md_spotOf' md f) = Md_ways md := rfl
theorem gn_ways_nextOf (md : MdS) (f : Nat → Int32) : Md_ways (Md_nextOf' md f) = Md_ways md := rfl
theorem gn_ways_come (md : MdS) (f : Nat → Int64) : Md_ways (Md_come' md f) = Md_ways md := rfl
theorem gn_ways_table (md : MdS) (f : Nat → Int64) : Md_ways (Md_table' md f) = Md_ways md := rfl
theorem gn_ways_many (md : MdS) (f : Int32) : Md_ways (Md_many' md f) = Md_ways md := rfl
theorem gn_ways_ahead (md : MdS) (f : Nat → Int32) : Md_ways (Md_ahead' md f) = Md_ways md := rfl
theorem gn_ways_after (md : MdS) (f : Nat → Int32) : Md_ways (Md_after' md f) = Md_ways md := rfl
theorem gn_ways_row (md : MdS) (f : Nat → Int32) : Md_ways (Md_row' md f) = Md_ways md := rfl
theorem gn_ways_equation (md : MdS) (f : Nat → Int32) : Md_ways (Md_equation' md f) = Md_ways md := rfl
theorem gn_ways_arcs (md : MdS) (f : Int32) : Md_ways (Md_arcs' md f) = Md_ways md := rfl
theorem gn_ways_drawn (md : MdS) (f : Int32) : Md_ways (Md_drawn' md f) = Md_ways md := rfl
