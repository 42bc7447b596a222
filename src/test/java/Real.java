/** The class that is tested; a test that makes more calls than the document promises fails. */
final class Real implements Face {
    private final QuorumLog log = new QuorumLog();
    private int calls;

    private QuorumLog log() {
        calls++;
        if (calls > MOST_CALLS) {
            throw new AssertionError("a test makes more than 512 calls of one object");
        }
        return log;
    }

    @Override
    public int start(int members, int seed) {
        return log().start(members, seed);
    }

    @Override
    public int tick(int ticks) {
        return log().tick(ticks);
    }

    @Override
    public int setDelay(int delay) {
        return log().setDelay(delay);
    }

    @Override
    public boolean setLink(int one, int other, boolean isCut) {
        return log().setLink(one, other, isCut);
    }

    @Override
    public int crash(int node) {
        return log().crash(node);
    }

    @Override
    public int restart(int node) {
        return log().restart(node);
    }

    @Override
    public int submit(int node, int value) {
        return log().submit(node, value);
    }

    @Override
    public int reconfigure(int node, int members) {
        return log().reconfigure(node, members);
    }

    @Override
    public int pack(int node) {
        return log().pack(node);
    }

    @Override
    public int read(int node) {
        return log().read(node);
    }

    @Override
    public int node(int node, int what) {
        return log().node(node, what);
    }

    @Override
    public int noted(int leader, int other, int what) {
        return log().noted(leader, other, what);
    }

    @Override
    public int entry(int node, int index, int what) {
        return log().entry(node, index, what);
    }

    @Override
    public int messages() {
        return log().messages();
    }

    @Override
    public int message(int i, int what) {
        return log().message(i, what);
    }

    @Override
    public int lose(int i) {
        return log().lose(i);
    }

    @Override
    public int leader() {
        return log().leader();
    }

    @Override
    public int winner(int term) {
        return log().winner(term);
    }

    @Override
    public int alike(int one, int other) {
        return log().alike(one, other);
    }

    @Override
    public int statistic(int what) {
        return log().statistic(what);
    }

    @Override
    public double share(int node) {
        return log().share(node);
    }

    @Override
    public int feed(char letter) {
        return log().feed(letter);
    }

    @Override
    public int perform() {
        return log().perform();
    }

    @Override
    public int write(int node) {
        return log().write(node);
    }

    @Override
    public char text(int i) {
        return log().text(i);
    }

    @Override
    public int save() {
        return log().save();
    }

    @Override
    public int restore() {
        return log().restore();
    }
}
