/** The document's face, so that the same can be asked of the class and of the Model. */
interface Face {
    int MOST_CALLS = 512;

    int start(int members, int seed);

    int tick(int ticks);

    int setDelay(int delay);

    boolean setLink(int one, int other, boolean isCut);

    int crash(int node);

    int restart(int node);

    int submit(int node, int value);

    int reconfigure(int node, int members);

    int pack(int node);

    int read(int node);

    int node(int node, int what);

    int noted(int leader, int other, int what);

    int entry(int node, int index, int what);

    int messages();

    int message(int i, int what);

    int lose(int i);

    int leader();

    int winner(int term);

    int alike(int one, int other);

    int statistic(int what);

    double share(int node);

    int feed(char letter);

    int perform();

    int write(int node);

    char text(int i);

    int save();

    int restore();
}
