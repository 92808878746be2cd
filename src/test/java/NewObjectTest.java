/** Promise 1: SIZE is 40 plus size modulo 128. */
public final class NewObjectTest {
    public static void main(String[] args) {
        sizeIs(0, 40);
        sizeIs(1, 41);
        sizeIs(127, 167);
        sizeIs(128, 40);
        sizeIs(300, 84);
        sizeIs(-1, 167);
        sizeIs(-128, 40);
        sizeIs(-127, 41);
        sizeIs(Integer.MAX_VALUE, 167);
        sizeIs(Integer.MIN_VALUE, 40);
        freshState();
        Talk.end();
    }

    /** Fills the heap by a chain of cells, of two words each; then one word is left if SIZE is odd. */
    private static void sizeIs(int size, int want) {
        Talk talk = new Talk(size);
        talk.said("(set n 0)(set l nil)(while t(set l(cons l nil))(set n(+ n 2)))", "2 1 IllegalStateException");
        Talk.due("cells' words in size " + size, Integer.toString(talk.machine.number(4)), Integer.toString(want / 2 * 2));
        talk.counts(0, want / 2 * 2);
        String last = want % 2 == 1 ? "5" : "IllegalStateException";
        talk.said("(vec 0 0)", last);
    }

    private static void freshState() {
        Talk talk = new Talk(5);
        for (int what = 0; what <= 10; what++) {
            talk.counts(what, what == 5 ? 3 : 0);
        }
        Talk.due("kind of t", Talk.told(() -> talk.machine.kind(0)), "3");
        Talk.due("kind of it", Talk.told(() -> talk.machine.kind(1)), "0");
        Talk.due("kind of quote", Talk.told(() -> talk.machine.kind(2)), "0");
        Talk.due("number of t", Talk.told(() -> talk.machine.number(0)), "0");
        Talk.due("take", Talk.told(() -> talk.machine.take()), "NoSuchElementException");
        Talk.due("collect", Talk.told(() -> talk.machine.collect()), "0");
        Talk.due("cancel", Talk.told(() -> talk.machine.cancel()), "0");
    }
}
