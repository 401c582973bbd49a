/-! PV: block equations (printed by wip/whole/blocks.py) -/

