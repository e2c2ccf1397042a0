/-! the tables of 35.okLaw are the bytes', and the words are there: by program (wip/whole/ok.py) -/
theorem ok_Law_cell : gOk m_Law_cell := fun q hq => List.all_eq_true.mp (show (mT m_Law_cell).all (gOkQ m_Law_cell) = true by decide +kernel) q hq
theorem ok_Law_put : gOk m_Law_put := fun q hq => List.all_eq_true.mp (show (mT m_Law_put).all (gOkQ m_Law_put) = true by decide +kernel) q hq
theorem ok_Law_spread : gOk m_Law_spread := fun q hq => List.all_eq_true.mp (show (mT m_Law_spread).all (gOkQ m_Law_spread) = true by decide +kernel) q hq
theorem ok_Law_punch : gOk m_Law_punch := fun q hq => List.all_eq_true.mp (show (mT m_Law_punch).all (gOkQ m_Law_punch) = true by decide +kernel) q hq
theorem ok_Law_strip : gOk m_Law_strip := fun q hq => List.all_eq_true.mp (show (mT m_Law_strip).all (gOkQ m_Law_strip) = true by decide +kernel) q hq
theorem ok_Law_write : gOk m_Law_write := fun q hq => List.all_eq_true.mp (show (mT m_Law_write).all (gOkQ m_Law_write) = true by decide +kernel) q hq
theorem ok_Law_look : gOk m_Law_look := fun q hq => List.all_eq_true.mp (show (mT m_Law_look).all (gOkQ m_Law_look) = true by decide +kernel) q hq
theorem ok_Law_written : gOk m_Law_written := fun q hq => List.all_eq_true.mp (show (mT m_Law_written).all (gOkQ m_Law_written) = true by decide +kernel) q hq
theorem ok_Law_reach : gOk m_Law_reach := fun q hq => List.all_eq_true.mp (show (mT m_Law_reach).all (gOkQ m_Law_reach) = true by decide +kernel) q hq
theorem ok_Law_count : gOk m_Law_count := fun q hq => List.all_eq_true.mp (show (mT m_Law_count).all (gOkQ m_Law_count) = true by decide +kernel) q hq
theorem ok_Law_rootByte : gOk m_Law_rootByte := fun q hq => List.all_eq_true.mp (show (mT m_Law_rootByte).all (gOkQ m_Law_rootByte) = true by decide +kernel) q hq
theorem ok_Law_nodeByte : gOk m_Law_nodeByte := fun q hq => List.all_eq_true.mp (show (mT m_Law_nodeByte).all (gOkQ m_Law_nodeByte) = true by decide +kernel) q hq
