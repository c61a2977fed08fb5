import java.util.ArrayList;
import java.util.List;

/** All that can be seen of a county, for tests in which nothing may have changed; some 300 calls, and it is used up. */
final class Eye {
    private final KiteSummons x;
    private final List<Integer> seen = new ArrayList<>();

    private Eye(KiteSummons x) {
        this.x = x;
    }

    static List<Integer> see(KiteSummons x) {
        Eye eye = new Eye(x);
        eye.county();
        eye.host();
        eye.rest();
        // (what is kept is seen last, as it takes the place of all)
        eye.seen.add(x.again());
        eye.county();
        eye.winds();
        return eye.seen;
    }

    private void county() {
        for (int what = 0; what < 7; what++) {
            seen.add(x.state(what));
        }
        for (int k = 0; k < x.many(0); k++) {
            for (int what = 0; what < 10; what++) {
                seen.add(x.kiteOf(k, what));
            }
        }
        for (int f = 0; f < 6; f++) {
            seen.add(x.farmOf(f, 0) * 100 + x.farmOf(f, 1));
        }
    }

    private void host() {
        for (int what = 0; what < 7; what++) {
            seen.add(x.many(what));
        }
        for (int k = 0; k < x.many(4); k++) {
            for (int what = 0; what < 3; what++) {
                seen.add(x.row(k, what));
            }
        }
        for (int sheet = 0; sheet < 4; sheet++) {
            for (int sort = 0; sort < 5; sort++) {
                int first = x.item(sheet, sort, 0);
                seen.add(first);
                for (int i = 1; i < 4 && first != -11 && first != -13; i++) {
                    seen.add(x.item(sheet, sort, i));
                }
            }
        }
        for (int shelf = 0; shelf < 4; shelf++) {
            for (int as : new int[] {0, 1, 4, 10, 12, 13}) {
                seen.add(x.taken(shelf, as));
            }
        }
        for (int i = 0; i <= x.many(6); i++) {
            seen.add(x.trace(i));
        }
    }

    private void rest() {
        seen.add(x.on(16));
        seen.add(x.best(2));
        for (int what = 0; what < 3; what++) {
            seen.add(x.span(what));
        }
        seen.add(x.liar());
        seen.add(x.seed(0));
        seen.add(x.feed(0, 1));
    }

    private void winds() {
        for (int gust = 0; gust < 16; gust++) {
            seen.add(x.wind(gust, 0));
        }
        seen.add(x.seed(0));
        seen.add(x.on(16));
        seen.add(x.span(0));
        seen.add(x.liar());
    }
}
