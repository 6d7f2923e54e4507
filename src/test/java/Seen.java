/**
 * What an object tells of itself, as one text: what an image keeps, what heard() heard, the tape, the ACTS that can
 * be undone and the images. The object is used up by it: tape and ACTS are gone then.
 */
final class Seen {
    /** What the calls ahead of it may have taken of the 512 is left to them. */
    private static final int MOST_CALLS = 430;

    private final StreetNames x;
    private final StringBuilder text = new StringBuilder();
    private int calls = 0;

    private Seen(StreetNames x) {
        this.x = x;
    }

    static String all(StreetNames x) {
        Seen seen = new Seen(x);
        seen.town("now");
        seen.heard();
        seen.tape();
        seen.past();
        seen.images();
        Check.due("calls of Seen are few", seen.calls <= MOST_CALLS, true);
        return seen.text.toString();
    }

    /** What the questions answer that look at several things at once, and who is meant by words. */
    static String answers(StreetNames x, String... words) {
        Seen seen = new Seen(x);
        seen.town("now");
        for (int one = -1; one < 3; one++) {
            seen.ofStreet(one);
            seen.ask(x.clash(one));
            seen.ask(x.plan(one));
            for (int other = 0; other < 2; other++) {
                seen.ofTwo(one, other);
            }
        }
        seen.ask(x.least());
        seen.ask(x.bill(7));
        for (String word : words) {
            seen.ask(Check.find(x, word));
            seen.ask(Check.fades(x, word));
            seen.ask(Check.heard(x, word));
            seen.heard();
            seen.calls += 6;
        }
        Check.due("calls of Seen are few", seen.calls <= MOST_CALLS, true);
        return seen.text.toString();
    }

    private void ofStreet(int street) {
        ask(x.circle(street));
        ask(x.planned(street));
        ask(x.takes(street, -1));
        ask(x.ordered(street));
        ask(x.fewest(street));
        ask(x.stepped(street, 99));
        ask(x.cost(street, 7));
        ask(x.at(street, 1));
    }

    private void ofTwo(int one, int other) {
        ask(x.alike(0, one, 1, other));
        ask(x.nearest(one, other, 0));
        ask(x.why(one, other));
        ask(x.then(one, other));
        ask(x.would(one, other, 5));
        ask(x.gaps(one, other));
    }

    private long ask(long answer) {
        calls++;
        text.append(answer).append(' ');
        return answer;
    }

    private void town(String when) {
        text.append("\n").append(when).append(": ");
        for (int what = 0; what < 12; what++) {
            ask(x.has(what));
        }
        for (int kind = 0; kind < 3; kind++) {
            names(kind);
        }
        for (int k = 0; ask(x.alias(k, 0)) >= 0; k++) {
            ask(x.alias(k, 1));
        }
        for (int s = 0; ask(x.houses(s)) >= 0; s++) {
            houses(s);
        }
        ask(x.plan(2));
    }

    private void names(int kind) {
        for (int k = 0; x.letter(kind, k, 0) > 0; k++) {
            calls++;
            for (int i = 0; i < 10 && ask(x.letter(kind, k, i)) > 0; i++) {
                ask(x.key(kind, k, i));
            }
        }
        calls++;
    }

    private void houses(int street) {
        for (int h = 0; ask(x.house(street, h, 0)) >= 0; h++) {
            ask(x.house(street, h, 1));
            ask(x.house(street, h, 2));
        }
    }

    private void heard() {
        text.append("\nheard: ");
        for (int i = 0; ask(x.heardAt(i)) > 0; i++) {
            continue;
        }
    }

    /** What stands on it is told if it is a word, else only that it is none. */
    private void tape() {
        text.append("\ntape: ");
        ask(x.heard());
        heard();
    }

    private void past() {
        for (int i = 0; i < 20 && ask(x.has(11)) > 0; i++) {
            ask(x.undo() ? 1 : 0);
            town("undone");
        }
    }

    private void images() {
        for (int k = 0; k < 2; k++) {
            if (ask(x.back(k) ? 1 : 0) == 1) {
                town("image " + k);
            }
        }
    }
}
