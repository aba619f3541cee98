-- THE CALLS OF THE LAW
section LC
variable {n : Nat} {sh : ZS}
theorem r_letter {x1 x2 x3 : Int} : lCall sh n 96 148 [.inl x1, .inl x2, .inl x3] := lCall.mk (gs_i (gs_i (gs_i gs_nil))) (by omega) (by omega) fun t R I ht hW h => c_letter (d := 800) hW h
theorem r_rank {x1 x2 : Int} : lCall sh n 97 149 [.inl x1, .inl x2] := lCall.mk (gs_i (gs_i gs_nil)) (by omega) (by omega) fun t R I ht hW h => c_rank (d := 800) hW h
theorem r_rack {x1 x2 : Int} : lCall sh n 98 150 [.inl x1, .inl x2] := lCall.mk (gs_i (gs_i gs_nil)) (by omega) (by omega) fun t R I ht hW h => c_rack (d := 800) hW h
theorem r_feed {x1 x2 x3 x4 x5 : Int} : lCall sh n 99 153 [.inl x1, .inl x2, .inl x3, .inl x4, .inl x5] := lCall.mk (gs_i (gs_i (gs_i (gs_i (gs_i gs_nil))))) (by omega) (by omega) fun t R I ht hW h => c_feed (d := 800) hW h
theorem r_law {x1 : Int} : lCall sh n 100 174 [.inl x1] := lCall.mkR (gs_i gs_nil) (by omega) (by omega) fun t R I ht hW h => c_law (d := 800) hW h
theorem r_order {x1 : Int} : lCall sh n 101 192 [.inl x1] := lCall.mk (gs_i gs_nil) (by omega) (by omega) fun t R I ht hW h => c_order (d := 800) hW h
theorem r_letterIs {x1 x2 : Int} : lCall sh n 102 193 [.inl x1, .inl x2] := lCall.mk (gs_i (gs_i gs_nil)) (by omega) (by omega) fun t R I ht hW h => c_letterIs (d := 800) hW h
theorem r_at {x1 : Int} : lCall sh n 103 194 [.inl x1] := lCall.mk (gs_i gs_nil) (by omega) (by omega) fun t R I ht hW h => c_at (d := 800) hW h
theorem r_goes {x1 : Int} : lCall sh n 104 195 [.inl x1] := lCall.mk (gs_i gs_nil) (by omega) (by omega) fun t R I ht hW h => c_goes (d := 800) hW h
theorem r_tried {x1 x2 : Int} : lCall sh n 105 198 [.inl x1, .inl x2] := lCall.mk (gs_i (gs_i gs_nil)) (by omega) (by omega) fun t R I ht hW h => c_tried (d := 800) hW h
theorem r_out : lCall sh n 106 197 [] := lCall.mk gs_nil (by omega) (by omega) fun t R I ht hW h => c_out (d := 800) hW h
theorem r_forAny {x1 x2 : Int} : lCall sh n 107 199 [.inl x1, .inl x2] := lCall.mk (gs_i (gs_i gs_nil)) (by omega) (by omega) fun t R I ht hW h => c_forAny (d := 800) hW h
theorem r_runs {x1 : Int} : lCall sh n 108 202 [.inl x1] := lCall.mk (gs_i gs_nil) (by omega) (by omega) fun t R I ht hW h => c_runs (d := 800) hW h
theorem r_plan : lCall sh n 109 206 [] := lCall.mk gs_nil (by omega) (by omega) fun t R I ht hW h => c_plan (d := 800) hW h
theorem r_planned {x1 x2 : Int} : lCall sh n 110 208 [.inl x1, .inl x2] := lCall.mk (gs_i (gs_i gs_nil)) (by omega) (by omega) fun t R I ht hW h => c_planned (d := 800) hW h
theorem r_planDone : lCall sh n 111 209 [] := lCall.mk gs_nil (by omega) (by omega) fun t R I ht hW h => c_planDone (d := 800) hW h
theorem r_tables {x1 x2 x3 : Int} : lCall sh n 112 218 [.inl x1, .inl x2, .inl x3] := lCall.mkR (gs_i (gs_i (gs_i gs_nil))) (by omega) (by omega) fun t R I ht hW h => c_tables (d := 800) hW h
theorem r_table {x1 x2 x3 x4 : Int} : lCall sh n 113 219 [.inl x1, .inl x2, .inl x3, .inl x4] := lCall.mkR (gs_i (gs_i (gs_i (gs_i gs_nil)))) (by omega) (by omega) fun t R I ht hW h => c_table (d := 800) hW h
theorem r_yardQueues : lCall sh n 114 221 [] := lCall.mk gs_nil (by omega) (by omega) fun t R I ht hW h => c_yardQueues (d := 800) hW h
theorem r_yardPipes : lCall sh n 115 222 [] := lCall.mk gs_nil (by omega) (by omega) fun t R I ht hW h => c_yardPipes (d := 800) hW h
theorem r_yard {x1 x2 : Int} : lCall sh n 116 226 [.inl x1, .inl x2] := lCall.mk (gs_i (gs_i gs_nil)) (by omega) (by omega) fun t R I ht hW h => c_yard (d := 800) hW h
theorem r_together {x1 : Int} : lCall sh n 117 231 [.inl x1] := lCall.mk (gs_i gs_nil) (by omega) (by omega) fun t R I ht hW h => c_together (d := 800) hW h
theorem r_blunder {x1 x2 x3 x4 x5 : Int} : lCall sh n 118 236 [.inl x1, .inl x2, .inl x3, .inl x4, .inl x5] := lCall.mk (gs_i (gs_i (gs_i (gs_i (gs_i gs_nil))))) (by omega) (by omega) fun t R I ht hW h => c_blunder (d := 800) hW h
theorem r_badly {x1 x2 : Int} : lCall sh n 119 238 [.inl x1, .inl x2] := lCall.mk (gs_i (gs_i gs_nil)) (by omega) (by omega) fun t R I ht hW h => c_badly (d := 800) hW ht h
theorem r_clerks {x1 : Int} : lCall sh n 120 239 [.inl x1] := lCall.mk (gs_i gs_nil) (by omega) (by omega) fun t R I ht hW h => c_clerks (d := 800) hW h
theorem r_wanted {x1 : Int} : lCall sh n 121 240 [.inl x1] := lCall.mk (gs_i gs_nil) (by omega) (by omega) fun t R I ht hW h => c_wanted (d := 800) hW h
theorem r_seed {x1 : Int} : lCall sh n 122 241 [.inl x1] := lCall.mk (gs_i gs_nil) (by omega) (by omega) fun t R I ht hW h => c_seed (d := 800) hW h
theorem r_shuffle : lCall sh n 123 242 [] := lCall.mk gs_nil (by omega) (by omega) fun t R I ht hW h => c_shuffle (d := 800) hW h
theorem r_keep : lCall sh n 124 243 [] := lCall.mk gs_nil (by omega) (by omega) fun t R I ht hW h => c_keep (d := 800) hW h
theorem r_undo : lCall sh n 125 244 [] := lCall.mk gs_nil (by omega) (by omega) fun t R I ht hW h => c_undo (d := 800) hW h
theorem r_check {x1 : Int} : lCall sh n 126 246 [.inl x1] := lCall.mk (gs_i gs_nil) (by omega) (by omega) fun t R I ht hW h => c_check (d := 800) hW h
theorem r_count {x1 : Int} : lCall sh n 127 249 [.inl x1] := lCall.mk (gs_i gs_nil) (by omega) (by omega) fun t R I ht hW h => c_count (d := 800) hW h
end LC
