/** All that can be asked of a DriftSea, and all that comes of it later: what has changed one shows here. */
final class Trail {
    private static final int MOST_UNDONE = 8;

    private final DriftSea sea;
    private final StringBuilder told = new StringBuilder();

    private Trail(DriftSea sea) {
        this.sea = sea;
    }

    /** Uses the DriftSea up: it has other TEXTS, SEASONS and PRICES then. Fewer than 450 calls. */
    static String of(DriftSea sea) {
        Trail trail = new Trail(sea);
        trail.look();
        trail.lookAtPast();
        trail.lookAtTape();
        trail.goBack();
        trail.goOn();
        return trail.told.toString();
    }

    private void tell(long answer) {
        told.append(answer).append(' ');
    }

    private void look() {
        for (int what = 0; what <= 14; what++) {
            tell(sea.count(what));
        }
        for (int isle = 0; isle < sea.count(0); isle++) {
            for (int what = 0; what <= 9; what++) {
                tell(Check.isle(sea, isle, what));
            }
        }
        for (int tie = 0; tie < sea.count(2); tie++) {
            for (int what = 0; what <= 4; what++) {
                tell(sea.tie(tie, what));
            }
        }
        for (int bridge = 0; bridge < sea.count(3); bridge++) {
            for (int what = 0; what <= 3; what++) {
                tell(sea.bridge(bridge, what));
            }
        }
        told.append('\n');
    }

    private void lookAtPast() {
        for (int i = 0; i < Math.min(MOST_UNDONE, sea.count(14)); i++) {
            for (int what = 0; what <= 2; what++) {
                tell(sea.log(i, what));
            }
        }
        tell(sea.fits(-1));
        tell(sea.fits(0));
        tell(sea.secret(-1));
        tell(sea.secret(0));
        told.append('\n');
    }

    private void lookAtTape() {
        tell(sea.fault(0));
        tell(sea.fault(1));
        int pull = sea.text(1);
        tell(pull);
        if (pull >= 0) {
            int holding = sea.count(7);
            sea.pull(pull);
            tell(sea.tie(0, 4));
            sea.pull(holding);
        }
        tell(sea.tie(0, 4));
        told.append('\n');
    }

    private void goBack() {
        for (int i = 0; i < MOST_UNDONE; i++) {
            int season = sea.undo();
            tell(season);
            if (season >= 0) {
                lookShortly();
            }
        }
        tell(sea.back());
        lookShortly();
        for (int isle = 0; isle < sea.count(0); isle++) {
            tell(Check.isle(sea, isle, 9));
        }
        told.append('\n');
    }

    private void goOn() {
        tell(sea.years(3, 5L));
        lookShortly();
        told.append('\n');
    }

    private void lookShortly() {
        for (int isle = 0; isle < sea.count(0); isle++) {
            for (int what = 0; what <= 4; what++) {
                tell(Check.isle(sea, isle, what));
            }
        }
        for (int tie = 0; tie < sea.count(2); tie++) {
            tell(sea.tie(tie, 2));
        }
        for (int bridge = 0; bridge < sea.count(3); bridge++) {
            tell(sea.bridge(bridge, 3));
        }
        tell(sea.count(6));
        tell(sea.count(13));
        tell(sea.count(14));
    }
}
