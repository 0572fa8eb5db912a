/-! how many CELLS: bits counted -/
