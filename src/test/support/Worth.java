/** What a term or formula is worth in one state: its number, or 1 when it holds and 0 when not. */
final class Worth {
    private final String text;
    private final int[] state;
    private int place;

    private Worth(String text, int[] state) {
        this.text = text;
        this.state = state;
    }

    /** The state has the numbers of a, b, c, x and z. */
    static int of(String text, int[] state) {
        return new Worth(text, state).here();
    }

    private int here() {
        char head = text.charAt(place++);
        if ("abcxz".indexOf(head) >= 0) {
            return state["abcxz".indexOf(head)];
        }
        if (head >= '0' && head <= '7') {
            return head - '0';
        }
        if (head == 'T') {
            return 1;
        }
        int p = here();
        if (head == '!') {
            return 1 - p;
        }
        int q = here();
        switch (head) {
            case '+':
                return (p + q) % 8;
            case '-':
                return (p - q + 8) % 8;
            case '*':
                return p * q % 8;
            case '=':
                return p == q ? 1 : 0;
            case '<':
                return p < q ? 1 : 0;
            case '&':
                return p * q;
            case '|':
                return Math.max(p, q);
            default:
                return p <= q ? 1 : 0;
        }
    }
}
