/** All that answers tell of a market, as one text. It takes some 400 calls and uses the market up: ask it of a twin. */
final class Seen {
    private final CrustMarket x;
    private final StringBuilder s = new StringBuilder();

    private Seen(CrustMarket x) {
        this.x = x;
    }

    /** Without the TAPE and fault(), which a text with a FAULT changes. */
    static String market(CrustMarket x) {
        Seen seen = new Seen(x);
        seen.numbers();
        seen.rows();
        seen.thoughts();
        seen.lists();
        seen.past();
        return seen.s.toString();
    }

    static String all(CrustMarket x) {
        Seen seen = new Seen(x);
        seen.add("fault", x.fault(0), x.fault(1));
        seen.tape();
        return seen.s + market(x);
    }

    private void add(String name, int... answers) {
        s.append(name);
        for (int answer : answers) {
            s.append(' ').append(answer);
        }
        s.append('\n');
    }

    // What the TAPE holds is seen by reading it, which leaves THE LAW as it was if it is none.
    private void tape() {
        int length = 400;
        while (length > 380 && !x.end(length)) {
            length--;
        }
        if (length == 380) {
            length = x.feed(0x3b3b3b3b, 0, 0, 0, 0) - 20;
        }
        add("tape", length, x.text(1), x.fault(0), x.fault(1));
    }

    private void numbers() {
        for (int what = 0; what <= 18; what++) {
            add("look " + what, x.look(what));
        }
    }

    private void rows() {
        for (int i = 0; i < x.look(2); i++) {
            add("remain", x.remain(i, 0), x.remain(i, 1), x.remain(i, 2), x.remain(i, 3), x.remain(i, 4), x.remain(i, 5), x.remain(i, 6));
        }
        for (int k = 0; k < x.look(0); k++) {
            add("kind", x.kind(k, 0), x.kind(k, 1), x.left(k, 1, false), x.left(k, 7, false), x.left(k, 3, true));
        }
        for (int i = 0; i < x.look(12); i++) {
            add("want", x.want(i, 0), x.want(i, 1), x.want(i, 2), x.want(i, 3), x.want(i, 4));
        }
        for (int i = Math.max(0, x.look(8) - 12); i < x.look(8); i++) {
            add("book", x.book(i, 0), x.book(i, 1), x.book(i, 2), x.book(i, 3));
        }
    }

    private void thoughts() {
        for (int what = 0; what < 4; what++) {
            add("goes", x.goes(1, what), x.goes(3, what), x.goes(60, what));
        }
        for (int size = 0; size < 12; size++) {
            add("crumbs", x.crumbs(size, 0));
        }
        add("cooks", x.cooks(0), x.cooks(1));
    }

    private void lists() {
        for (int i = 0; i < 6; i++) {
            add("lists", x.cuts(99, 10 + i), x.forged(500, 1 << i, 0), x.forged(500, 0, 1 << i), x.back(i));
            add("ring", x.ring(i, 0), x.ring(i, 1), x.ring(i, 2), x.ring(0, i), x.ring(1, i));
        }
        add("more", x.cuts(99, 0), x.cuts(29, 0), x.dusk(999, 1, 0), x.dusk(999, 1, 1), x.dusk(1, 1, 0));
    }

    private void past() {
        for (int i = 0; i < 7; i++) {
            add("undo", x.undo() ? 1 : 0, x.look(1), x.look(2), x.look(3), x.look(8), x.look(9));
        }
    }
}
