/** LANGUAGE.md, rule 7: no call throws, whatever its arguments, also after the 512th (answers are free then). */
public final class NeverThrowsTest {
    private static final int[] EDGES = {Integer.MIN_VALUE, Integer.MIN_VALUE + 1, -33, -1, 0, 1, 2, 3, 4, 5, 6, 30,
        31, 32, 33, Integer.MAX_VALUE - 1, Integer.MAX_VALUE};

    public static void main(String[] args) {
        Draws draws = new Draws(1);
        MeldLog x = new MeldLog();
        int sum = 0;
        for (int i = 0; i < 20000; i++) {
            int a = EDGES[draws.below(EDGES.length)];
            int b = EDGES[draws.below(EDGES.length)];
            int c = EDGES[draws.below(EDGES.length)];
            sum += x.begin(a) + x.write(a, b, c) + x.erase(a, c) + x.read(a, b) + x.peek(a, b);
            sum += x.countRange(a, b, c) + x.abort(b) + x.commit(c) + x.latest() + (x.has(a, b) ? 1 : 0);
            int near = x.latest() - draws.below(9);
            sum += x.at(near, b) + x.size(near) + x.changed(near, x.latest()) + x.changed(a, b) + x.at(a, b);
        }
        System.out.println("NeverThrowsTest: the answers' sum is " + sum);
    }
}
