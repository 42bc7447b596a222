import java.util.NoSuchElementException;

/**
 * A simulator of a replicated log: five nodes, the messages between them, and the scripts that
 * drive them. This class tests what a call is given; the classes inside it do what is asked.
 */
public final class QuorumLog {
    private static final int NODES = 5;
    private static final int GROUPS = 1 << NODES;
    private static final int LOG_SIZE = 24;
    private static final int BATCH = 4;
    private static final int MESSAGES = 40;
    private static final int TERMS = 100;
    private static final int BEAT = 3;
    private static final int LEASE = 6;
    private static final int MOST_TICKS = 60;
    private static final int MOST_DELAY = 5;
    private static final int NONE = -1;

    private static final int FOLLOWER = 0;
    private static final int CANDIDATE = 1;
    private static final int LEADER = 2;

    private static final int VALUE = 0;
    private static final int JOINT = 1;
    private static final int GROUP = 2;
    private static final int BLANK = 3;

    private static final int REQUEST = 0;
    private static final int REPLY = 1;
    private static final int APPEND = 2;
    private static final int ANSWER = 3;
    private static final int SNAPSHOT = 4;

    /** What a node has still to do after it has received a message or counted down. */
    private static final int REST = 0;
    private static final int WIN = 1;
    private static final int COMMIT = 2;
    private static final int SEND = 3;

    private static final int SCRIPT_SIZE = 80;
    /** More than fit into a script: the shortest command has seven characters. */
    private static final int MOST_COMMANDS = 16;
    private static final int SYNTAX_ERROR = -100;

    private static final int TICK = 0;
    private static final int CRASH = 1;
    private static final int RESTART = 2;
    private static final int CUT = 3;
    private static final int JOIN = 4;
    private static final int PUT = 5;
    private static final int PACK = 6;

    private final Cluster cluster;
    private Cluster kept;
    private final Script script;
    private final StringBuilder written;

    public QuorumLog() {
        cluster = new Cluster();
        script = new Script();
        written = new StringBuilder();
        cluster.begin(7, 0);
    }

    public int start(int members, int seed) throws IllegalArgumentException {
        if (!isGroup(members)) {
            throw new IllegalArgumentException("no such members");
        }
        cluster.begin(members, seed);
        return Integer.bitCount(members);
    }

    public int tick(int ticks) throws IllegalArgumentException {
        if (!areTicks(ticks)) {
            throw new IllegalArgumentException("the number of ticks is 1 to 60");
        }
        cluster.advance(ticks);
        return cluster.time;
    }

    public int setDelay(int delay) throws IllegalArgumentException {
        if (delay < 1 || delay > MOST_DELAY) {
            throw new IllegalArgumentException("the delay is 1 to 5");
        }
        int previous = cluster.network.delay;
        cluster.network.delay = delay;
        return previous;
    }

    public boolean setLink(int one, int other, boolean isCut)
            throws IndexOutOfBoundsException, IllegalArgumentException {
        if (!isNode(one) || !isNode(other)) {
            throw new IndexOutOfBoundsException("no such node");
        }
        if (one == other) {
            throw new IllegalArgumentException("a link has two nodes");
        }
        boolean wasCut = cluster.network.isCut(one, other);
        cluster.network.setCut(one, other, isCut);
        return wasCut;
    }

    public int crash(int node) throws IndexOutOfBoundsException, IllegalStateException {
        Replica one = replicaAt(node);
        if (!one.isUp) {
            throw new IllegalStateException("the node is down");
        }
        one.goDown();
        return one.term;
    }

    public int restart(int node) throws IndexOutOfBoundsException, IllegalStateException {
        Replica one = replicaAt(node);
        if (one.isUp) {
            throw new IllegalStateException("the node is up");
        }
        cluster.revive(one);
        return one.log.lastIndex();
    }

    public int submit(int node, int value)
            throws IndexOutOfBoundsException, IllegalStateException, UnsupportedOperationException {
        Replica one = replicaAt(node);
        if (one.role != LEADER) {
            throw new IllegalStateException("the node is no leader");
        }
        if (one.log.isFull()) {
            throw new UnsupportedOperationException("the log is full");
        }
        return cluster.add(one, VALUE, value);
    }

    public int reconfigure(int node, int members) throws IndexOutOfBoundsException,
            IllegalArgumentException, IllegalStateException, UnsupportedOperationException {
        Replica one = replicaAt(node);
        if (!isGroup(members)) {
            throw new IllegalArgumentException("no such members");
        }
        if (one.role != LEADER) {
            throw new IllegalStateException("the node is no leader");
        }
        if (one.log.isJoint() || !one.isConfigurationCommitted()) {
            throw new IllegalStateException("a change of members is under way");
        }
        if (one.log.isFull()) {
            throw new UnsupportedOperationException("the log is full");
        }
        return cluster.add(one, JOINT, GROUPS * one.log.newGroup + members);
    }

    public int pack(int node) throws IndexOutOfBoundsException, IllegalStateException {
        Replica one = replicaAt(node);
        if (!one.isUp) {
            throw new IllegalStateException("the node is down");
        }
        return one.log.packTo(one.commit);
    }

    public int read(int node)
            throws IndexOutOfBoundsException, IllegalStateException, UnsupportedOperationException {
        Replica one = replicaAt(node);
        if (one.role != LEADER) {
            throw new IllegalStateException("the node is no leader");
        }
        if (!one.canAnswerReads(cluster.time)) {
            throw new UnsupportedOperationException("the leader cannot answer a read");
        }
        return one.log.resultAt(one.commit);
    }

    public int node(int node, int what) throws IndexOutOfBoundsException, IllegalArgumentException {
        Replica one = replicaAt(node);
        if (what < 0 || what > 13) {
            throw new IllegalArgumentException("what is 0 to 13");
        }
        switch (what) {
            case 0: return one.isUp ? 1 : 0;
            case 1: return one.role;
            case 2: return one.term;
            case 3: return one.vote;
            case 4: return one.commit;
            case 5: return one.log.lastIndex();
            case 6: return one.log.lastTerm();
            case 7: return one.log.baseIndex;
            case 8: return one.log.resultAt(one.commit);
            case 9: return one.timer;
            case 10: return one.log.oldGroup;
            case 11: return one.log.newGroup;
            case 12: return one.lease(cluster.time);
            default: return one.role == CANDIDATE ? one.voters : 0;
        }
    }

    public int noted(int leader, int other, int what)
            throws IndexOutOfBoundsException, IllegalArgumentException, IllegalStateException {
        Replica one = replicaAt(leader);
        if (!isNode(other)) {
            throw new IndexOutOfBoundsException("no such node");
        }
        if (leader == other || what < 0 || what > 2) {
            throw new IllegalArgumentException("another node, and what is 0 to 2");
        }
        if (one.role != LEADER) {
            throw new IllegalStateException("the node is no leader");
        }
        switch (what) {
            case 0: return one.next[other];
            case 1: return one.match[other];
            default: return one.echo[other];
        }
    }

    public int entry(int node, int index, int what)
            throws IndexOutOfBoundsException, IllegalArgumentException {
        Log log = replicaAt(node).log;
        if (!log.has(index)) {
            throw new IndexOutOfBoundsException("no such entry");
        }
        if (what < 0 || what > 2) {
            throw new IllegalArgumentException("what is 0 to 2");
        }
        switch (what) {
            case 0: return log.termAt(index);
            case 1: return log.kindAt(index);
            default: return log.valueAt(index);
        }
    }

    public int messages() {
        return cluster.network.count;
    }

    public int message(int i, int what) throws IndexOutOfBoundsException, IllegalArgumentException {
        if (!cluster.network.has(i)) {
            throw new IndexOutOfBoundsException("no such message");
        }
        if (what < 0 || what > 6) {
            throw new IllegalArgumentException("what is 0 to 6");
        }
        Message one = cluster.network.rows[i];
        switch (what) {
            case 0: return one.kind;
            case 1: return one.sender;
            case 2: return one.receiver;
            case 3: return one.term;
            case 4: return one.due;
            case 5: return one.index;
            default: return one.detail();
        }
    }

    public int lose(int i) throws IndexOutOfBoundsException {
        if (!cluster.network.has(i)) {
            throw new IndexOutOfBoundsException("no such message");
        }
        cluster.network.remove(i);
        cluster.network.lost++;
        return cluster.network.count;
    }

    public int leader() throws NoSuchElementException {
        int found = NONE;
        int term = NONE;
        for (int i = 0; i < NODES; i++) {
            Replica one = cluster.replicas[i];
            if (one.isUp && one.role == LEADER && one.term > term) {
                found = i;
                term = one.term;
            }
        }
        if (found == NONE) {
            throw new NoSuchElementException("there is no leader");
        }
        return found;
    }

    public int winner(int term) throws NoSuchElementException {
        if (term < 0 || term >= TERMS || cluster.winners[term] == NONE) {
            throw new NoSuchElementException("no node has won in this term");
        }
        return cluster.winners[term];
    }

    public int alike(int one, int other) throws IndexOutOfBoundsException {
        Log first = replicaAt(one).log;
        Log second = replicaAt(other).log;
        int index = Math.max(first.baseIndex, second.baseIndex);
        int last = Math.min(first.lastIndex(), second.lastIndex());
        if (index > last) {
            return NONE;
        }
        while (index < last && first.termAt(index + 1) == second.termAt(index + 1)) {
            index++;
        }
        return index;
    }

    public int statistic(int what) throws IllegalArgumentException {
        if (what < 0 || what > 6) {
            throw new IllegalArgumentException("what is 0 to 6");
        }
        switch (what) {
            case 0: return cluster.time;
            case 1: return cluster.network.sent;
            case 2: return cluster.network.lost;
            case 3: return cluster.stood;
            case 4: return cluster.won;
            case 5: return cluster.removed;
            default: return cluster.installed;
        }
    }

    public double share(int node) throws IndexOutOfBoundsException, ArithmeticException {
        int members = replicaAt(node).log.members();
        int committed = 0;
        int all = 0;
        for (int i = 0; i < NODES; i++) {
            Replica one = cluster.replicas[i];
            if (one.isUp && (members >> i & 1) == 1) {
                committed += one.commit;
                all += one.log.lastIndex();
            }
        }
        if (all == 0) {
            throw new ArithmeticException("the members have no entries");
        }
        return (double) committed / (double) all;
    }

    public int feed(char letter) throws IllegalStateException {
        if (script.isFull()) {
            throw new IllegalStateException("the input buffer is full");
        }
        script.add(letter);
        return script.length;
    }

    public int perform() throws UnsupportedOperationException {
        int answer = script.parse();
        script.length = 0;
        for (int i = 0; i < answer && i < MOST_COMMANDS; i++) {
            if (!isPossible(script.words[i], script.firsts[i], script.seconds[i])) {
                throw new UnsupportedOperationException("a command cannot be performed");
            }
            carryOut(script.words[i], script.firsts[i], script.seconds[i]);
        }
        return answer;
    }

    public int write(int node) throws IndexOutOfBoundsException {
        Replica one = replicaAt(node);
        Log log = one.log;
        written.setLength(0);
        if (log.baseIndex != 0) {
            written.append('[').append(log.baseIndex).append(']');
        }
        for (int index = log.baseIndex + 1; index <= log.lastIndex(); index++) {
            if (written.length() > 0) {
                written.append(' ');
            }
            writeEntry(log, index);
            if (index <= one.commit) {
                written.append('!');
            }
        }
        return written.length();
    }

    public char text(int i) throws IndexOutOfBoundsException {
        if (i < 0 || i >= written.length()) {
            throw new IndexOutOfBoundsException("the text has no such index");
        }
        return written.charAt(i);
    }

    public int save() {
        if (kept == null) {
            kept = new Cluster();
        }
        kept.copyFrom(cluster);
        return kept.time;
    }

    public int restore() throws IllegalStateException {
        if (kept == null) {
            throw new IllegalStateException("nothing was saved");
        }
        cluster.copyFrom(kept);
        return cluster.time;
    }

    private static boolean isNode(int node) {
        return node >= 0 && node < NODES;
    }

    private static boolean isGroup(int members) {
        return members > 0 && members < GROUPS;
    }

    private static boolean areTicks(int ticks) {
        return ticks >= 1 && ticks <= MOST_TICKS;
    }

    private Replica replicaAt(int node) {
        if (node < 0 || node >= NODES) {
            throw new IndexOutOfBoundsException("no such node");
        }
        return cluster.replicas[node];
    }

    private void writeEntry(Log log, int index) {
        int kind = log.kindAt(index);
        written.append(log.termAt(index)).append(':');
        if (kind == BLANK) {
            written.append('-');
            return;
        }
        if (kind == JOINT) {
            written.append('J');
        } else if (kind == GROUP) {
            written.append('C');
        }
        written.append(log.valueAt(index));
    }

    private boolean isPossible(int word, int first, int second) {
        if (word == TICK) {
            return areTicks(first);
        }
        if (!isNode(first)) {
            return false;
        }
        Replica one = cluster.replicas[first];
        switch (word) {
            case CRASH:
            case PACK:
                return one.isUp;
            case RESTART:
                return !one.isUp;
            case PUT:
                return one.role == LEADER && !one.log.isFull();
            default:
                return isNode(second) && first != second;
        }
    }

    private void carryOut(int word, int first, int second) {
        if (word == TICK) {
            cluster.advance(first);
            return;
        }
        Replica one = replicaAt(first);
        switch (word) {
            case CRASH:
                one.goDown();
                break;
            case RESTART:
                cluster.revive(one);
                break;
            case PUT:
                cluster.add(one, VALUE, second);
                break;
            case PACK:
                one.log.packTo(one.commit);
                break;
            default:
                cluster.network.setCut(first, second, word == CUT);
        }
    }

    /** The simulation: what time it is, the nodes, and the messages between them. */
    private static final class Cluster {
        final Replica[] replicas;
        final Network network;
        final int[] winners;
        int seed;
        int time;
        int stood;
        int won;
        int removed;
        int installed;

        Cluster() {
            replicas = new Replica[NODES];
            for (int i = 0; i < NODES; i++) {
                replicas[i] = new Replica(i);
            }
            network = new Network();
            winners = new int[TERMS];
        }

        void begin(int members, int newSeed) {
            seed = newSeed;
            time = 0;
            stood = 0;
            won = 0;
            removed = 0;
            installed = 0;
            for (int i = 0; i < TERMS; i++) {
                winners[i] = NONE;
            }
            network.clear();
            for (int i = 0; i < NODES; i++) {
                replicas[i].clear(members);
                resetTimer(replicas[i]);
            }
        }

        void copyFrom(Cluster other) {
            seed = other.seed;
            time = other.time;
            stood = other.stood;
            won = other.won;
            removed = other.removed;
            installed = other.installed;
            System.arraycopy(other.winners, 0, winners, 0, TERMS);
            network.copyFrom(other.network);
            for (int i = 0; i < NODES; i++) {
                replicas[i].copyFrom(other.replicas[i]);
            }
        }

        void advance(int ticks) {
            for (int i = 0; i < ticks; i++) {
                time++;
                int waiting = 0;
                // Messages that are sent meanwhile stand behind those that are looked at.
                for (int left = network.count; left > 0; left--) {
                    if (!network.isDue(waiting, time)) {
                        waiting++;
                        continue;
                    }
                    network.remove(waiting);
                    Message got = network.taken;
                    if (isNode(got.sender) && isNode(got.receiver)) {
                        finish(replicas[got.receiver], receive(replicas[got.receiver], got));
                    }
                }
                for (int n = 0; n < NODES; n++) {
                    finish(replicas[n], countDown(replicas[n]));
                }
            }
        }

        void revive(Replica one) {
            one.isUp = true;
            one.commit = one.log.baseIndex;
            resetTimer(one);
        }

        /** Appends an entry to the log of a leader, and returns its index. */
        int add(Replica leader, int kind, int value) {
            int index = leader.log.lastIndex() + 1;
            leader.log.append(leader.term, kind, value);
            commit(leader);
            return index;
        }

        private void resetTimer(Replica one) {
            int x = (seed + 5 * one.term + one.id) * -1640531527 >>> 20;
            one.timer = 8 + (x & 7);
        }

        private int countDown(Replica one) {
            if (!one.isUp || one.role != LEADER && !one.isMember()) {
                return REST;
            }
            one.timer--;
            if (one.timer != 0) {
                return REST;
            }
            if (one.role != LEADER) {
                return stand(one);
            }
            one.timer = BEAT;
            return SEND;
        }

        private int stand(Replica one) {
            stood++;
            one.term++;
            one.role = CANDIDATE;
            one.vote = one.id;
            one.voters = 1 << one.id;
            resetTimer(one);
            for (int i = 0; i < NODES; i++) {
                if (i != one.id && one.log.isMember(i)) {
                    Message request = open(REQUEST, one, i);
                    request.index = one.log.lastIndex();
                    request.indexTerm = one.log.lastTerm();
                    network.post();
                }
            }
            return one.log.isQuorum(one.voters) ? WIN : REST;
        }

        /** Does what is left to do; apart from where it arose, so that few calls stand open. */
        private void finish(Replica one, int todo) {
            if (todo == WIN) {
                becomeLeader(one);
            }
            if (todo == WIN || todo == COMMIT) {
                commit(one);
            }
            if (todo == WIN || todo == SEND) {
                sendToMembers(one);
            }
        }

        private void becomeLeader(Replica one) {
            won++;
            if (one.term >= 0 && one.term < TERMS) {
                winners[one.term] = one.id;
            }
            one.lead();
            one.log.append(one.term, BLANK, 0);
        }

        private void commit(Replica leader) {
            Log log = leader.log;
            for (int index = log.lastIndex(); index > leader.commit; index--) {
                if (log.termAt(index) == leader.term && log.isQuorum(leader.holders(index))) {
                    leader.commit = index;
                }
            }
            if (!leader.isConfigurationCommitted()) {
                return;
            }
            if (log.isJoint()) {
                log.append(leader.term, GROUP, log.newGroup);
            } else if (!leader.isMember()) {
                leader.follow();
                resetTimer(leader);
            }
        }

        private void sendToMembers(Replica leader) {
            for (int i = 0; i < NODES; i++) {
                if (i != leader.id && leader.log.isMember(i)) {
                    sendTo(leader, i);
                }
            }
        }

        private void sendTo(Replica leader, int other) {
            Log log = leader.log;
            int next = leader.next[other];
            if (next <= log.baseIndex) {
                log.copySnapshot(open(SNAPSHOT, leader, other));
            } else {
                Message append = open(APPEND, leader, other);
                append.index = next - 1;
                append.indexTerm = log.termAt(next - 1);
                append.commit = leader.commit;
                log.copyEntries(next, append);
            }
            network.post();
        }

        /** The draft of a message, which is sent by post. */
        private Message open(int kind, Replica sender, int receiver) {
            Message draft = network.draft;
            draft.clear();
            draft.kind = kind;
            draft.sender = sender.id;
            draft.receiver = receiver;
            draft.term = sender.term;
            draft.due = time + network.delay;
            draft.told = time;
            return draft;
        }

        private int receive(Replica one, Message got) {
            if (!one.isUp) {
                network.lost++;
                return REST;
            }
            if (got.term > one.term) {
                one.term = got.term;
                one.vote = NONE;
                one.follow();
            }
            switch (got.kind) {
                case REQUEST: return takeRequest(one, got);
                case REPLY: return takeReply(one, got);
                case ANSWER: return takeAnswer(one, got);
                default: break;
            }
            if (got.term < one.term) {
                answer(one, got, false, 0);
                return REST;
            }
            one.follow();
            resetTimer(one);
            return got.kind == APPEND ? takeAppend(one, got) : takeSnapshot(one, got);
        }

        private int takeRequest(Replica one, Message got) {
            boolean isGranted = got.term == one.term
                    && (one.vote == NONE || one.vote == got.sender)
                    && one.log.isNotAheadOf(got.index, got.indexTerm);
            if (isGranted) {
                one.vote = got.sender;
                resetTimer(one);
            }
            Message reply = open(REPLY, one, got.sender);
            reply.isGranted = isGranted;
            network.post();
            return REST;
        }

        private int takeReply(Replica one, Message got) {
            if (one.role != CANDIDATE || got.term != one.term || !got.isGranted) {
                return REST;
            }
            one.voters |= 1 << got.sender;
            return one.log.isQuorum(one.voters) ? WIN : REST;
        }

        private int takeAnswer(Replica one, Message got) {
            int other = got.sender;
            if (one.role != LEADER || got.term != one.term) {
                return REST;
            }
            if (!got.isGranted) {
                one.next[other] = Math.max(1, Math.min(one.next[other] - 1, got.index + 1));
                sendTo(one, other);
                return REST;
            }
            one.match[other] = Math.max(one.match[other], got.index);
            one.next[other] = one.match[other] + 1;
            one.echo[other] = Math.max(one.echo[other], got.told);
            return COMMIT;
        }

        private int takeAppend(Replica one, Message got) {
            Log log = one.log;
            if (!log.fits(got.index, got.indexTerm)) {
                answer(one, got, false, Math.min(log.lastIndex(), got.index - 1));
                return REST;
            }
            int end = got.index;
            for (int i = 0; i < got.count && i < BATCH; i++) {
                int index = end + 1;
                if (log.has(index) && log.termAt(index) != got.terms[i]) {
                    removed += log.cutFrom(index);
                }
                if (index > log.lastIndex() && !log.append(got.terms[i], got.kinds[i], got.values[i])) {
                    break;
                }
                end = index;
            }
            one.commit = Math.max(one.commit, Math.min(got.commit, end));
            answer(one, got, true, end);
            return REST;
        }

        private int takeSnapshot(Replica one, Message got) {
            if (got.index > one.commit) {
                one.log.install(got);
                one.commit = got.index;
                installed++;
            }
            answer(one, got, true, one.commit);
            return REST;
        }

        private void answer(Replica one, Message got, boolean isSuccess, int index) {
            Message answer = open(ANSWER, one, got.sender);
            answer.isGranted = isSuccess;
            answer.index = index;
            answer.told = got.told;
            network.post();
        }
    }

    /** A node: its role and its log, and while it leads, what it has noted about the others. */
    private static final class Replica {
        final int id;
        final Log log;
        final int[] next;
        final int[] match;
        final int[] echo;
        boolean isUp;
        int role;
        int term;
        int vote;
        int commit;
        int timer;
        int voters;

        Replica(int number) {
            id = number;
            log = new Log();
            next = new int[NODES];
            match = new int[NODES];
            echo = new int[NODES];
        }

        void clear(int members) {
            log.clear(members);
            isUp = true;
            role = FOLLOWER;
            term = 0;
            vote = NONE;
            commit = 0;
            voters = 0;
        }

        void copyFrom(Replica other) {
            log.copyFrom(other.log);
            System.arraycopy(other.next, 0, next, 0, NODES);
            System.arraycopy(other.match, 0, match, 0, NODES);
            System.arraycopy(other.echo, 0, echo, 0, NODES);
            isUp = other.isUp;
            role = other.role;
            term = other.term;
            vote = other.vote;
            commit = other.commit;
            timer = other.timer;
            voters = other.voters;
        }

        void goDown() {
            isUp = false;
            role = FOLLOWER;
        }

        void follow() {
            role = FOLLOWER;
        }

        void lead() {
            role = LEADER;
            timer = BEAT;
            for (int i = 0; i < NODES; i++) {
                next[i] = log.lastIndex() + 1;
                match[i] = 0;
                echo[i] = NONE;
            }
        }

        boolean isMember() {
            return log.isMember(id);
        }

        boolean isConfigurationCommitted() {
            return log.configurationIndex <= commit;
        }

        /** The nodes that are known to have the entry with this index. */
        int holders(int index) {
            int set = 1 << id;
            for (int i = 0; i < NODES; i++) {
                if (match[i] >= index) {
                    set |= 1 << i;
                }
            }
            return set;
        }

        int lease(int time) {
            if (role != LEADER) {
                return NONE;
            }
            int best = NONE;
            for (int i = 0; i < NODES; i++) {
                int since = i == id ? time : echo[i];
                if (since > best && log.isQuorum(heardSince(since))) {
                    best = since;
                }
            }
            return best == NONE ? NONE : best + LEASE;
        }

        boolean canAnswerReads(int time) {
            return time < lease(time) && log.termAt(commit) == term;
        }

        /** The time of the leader itself is never before the time of an echo. */
        private int heardSince(int since) {
            int set = 1 << id;
            for (int i = 0; i < NODES; i++) {
                if (echo[i] >= since) {
                    set |= 1 << i;
                }
            }
            return set;
        }
    }

    /** A snapshot, the base, and the entries after it; the configuration is kept as it is found. */
    private static final class Log {
        final int[] terms;
        final int[] kinds;
        final int[] values;
        int size;
        int baseIndex;
        int baseTerm;
        int baseResult;
        int baseOldGroup;
        int baseNewGroup;
        int configurationIndex;
        int oldGroup;
        int newGroup;

        Log() {
            terms = new int[LOG_SIZE];
            kinds = new int[LOG_SIZE];
            values = new int[LOG_SIZE];
        }

        void clear(int members) {
            size = 0;
            baseIndex = 0;
            baseTerm = 0;
            baseResult = 0;
            baseOldGroup = 0;
            baseNewGroup = members;
            findConfiguration();
        }

        void copyFrom(Log other) {
            System.arraycopy(other.terms, 0, terms, 0, LOG_SIZE);
            System.arraycopy(other.kinds, 0, kinds, 0, LOG_SIZE);
            System.arraycopy(other.values, 0, values, 0, LOG_SIZE);
            size = other.size;
            baseIndex = other.baseIndex;
            baseTerm = other.baseTerm;
            baseResult = other.baseResult;
            baseOldGroup = other.baseOldGroup;
            baseNewGroup = other.baseNewGroup;
            findConfiguration();
        }

        boolean isFull() {
            return size >= LOG_SIZE;
        }

        int lastIndex() {
            return baseIndex + size;
        }

        int lastTerm() {
            return size > 0 && size <= LOG_SIZE ? terms[size - 1] : baseTerm;
        }

        boolean has(int index) {
            return index > baseIndex && index <= baseIndex + size;
        }

        /** The term of the entry or the snapshot there. */
        int termAt(int index) {
            return partAt(terms, index, baseTerm);
        }

        int kindAt(int index) {
            return partAt(kinds, index, BLANK);
        }

        int valueAt(int index) {
            return partAt(values, index, 0);
        }

        private int partAt(int[] parts, int index, int otherwise) {
            int i = index - baseIndex - 1;
            return i >= 0 && i < size && i < parts.length ? parts[i] : otherwise;
        }

        /** A log is ahead of another one if its last term is, or its last index with this term. */
        boolean isNotAheadOf(int otherIndex, int otherTerm) {
            int own = lastTerm();
            return otherTerm > own || otherTerm == own && otherIndex >= lastIndex();
        }

        /** What is in a snapshot is committed, and so its terms are not compared. */
        boolean fits(int previousIndex, int previousTerm) {
            return previousIndex <= baseIndex
                    || previousIndex <= lastIndex() && termAt(previousIndex) == previousTerm;
        }

        boolean append(int term, int kind, int value) {
            if (size < 0 || size >= LOG_SIZE) {
                return false;
            }
            terms[size] = term;
            kinds[size] = kind;
            values[size] = value;
            size++;
            findConfiguration();
            return true;
        }

        /** Removes the entries from this index on, and returns their number. */
        int cutFrom(int index) {
            int count = baseIndex + size - index + 1;
            if (count <= 0 || count > size) {
                return 0;
            }
            size -= count;
            findConfiguration();
            return count;
        }

        /** Makes the entries up to this index a snapshot, and returns their number. */
        int packTo(int index) {
            int count = index - baseIndex;
            if (count <= 0 || count > size) {
                return 0;
            }
            baseResult = resultAt(index);
            baseTerm = termAt(index);
            for (int i = 0; i < count && i < LOG_SIZE; i++) {
                if (isConfiguration(i)) {
                    baseOldGroup = values[i] / GROUPS;
                    baseNewGroup = values[i] % GROUPS;
                }
            }
            baseIndex = index;
            dropFirst(count);
            findConfiguration();
            return count;
        }

        /** Takes the snapshot of a message; entries that come after it there stay. */
        void install(Message got) {
            boolean isKnown = has(got.index) && termAt(got.index) == got.indexTerm;
            dropFirst(isKnown ? got.index - baseIndex : size);
            baseIndex = got.index;
            baseTerm = got.indexTerm;
            baseResult = got.result;
            baseOldGroup = got.oldGroup;
            baseNewGroup = got.newGroup;
            findConfiguration();
        }

        void copySnapshot(Message to) {
            to.index = baseIndex;
            to.indexTerm = baseTerm;
            to.result = baseResult;
            to.oldGroup = baseOldGroup;
            to.newGroup = baseNewGroup;
        }

        void copyEntries(int from, Message to) {
            int first = from - baseIndex - 1;
            to.count = 0;
            for (int k = 0; k < BATCH; k++) {
                int i = first + k;
                if (i < 0 || i >= size || i >= LOG_SIZE) {
                    return;
                }
                to.terms[k] = terms[i];
                to.kinds[k] = kinds[i];
                to.values[k] = values[i];
                to.count = k + 1;
            }
        }

        int resultAt(int index) {
            int result = baseResult;
            for (int i = 0; i < size && i < LOG_SIZE && i < index - baseIndex; i++) {
                if (kinds[i] == VALUE) {
                    result = 31 * result + values[i];
                }
            }
            return result;
        }

        boolean isJoint() {
            return oldGroup != 0;
        }

        int members() {
            return oldGroup | newGroup;
        }

        boolean isMember(int node) {
            return ((oldGroup | newGroup) >> node & 1) == 1;
        }

        boolean isQuorum(int set) {
            if (2 * Integer.bitCount(set & newGroup) <= Integer.bitCount(newGroup)) {
                return false;
            }
            return oldGroup == 0 || 2 * Integer.bitCount(set & oldGroup) > Integer.bitCount(oldGroup);
        }

        private void dropFirst(int count) {
            if (count < 0 || count > size || size > LOG_SIZE) {
                return;
            }
            System.arraycopy(terms, count, terms, 0, size - count);
            System.arraycopy(kinds, count, kinds, 0, size - count);
            System.arraycopy(values, count, values, 0, size - count);
            size -= count;
        }

        private boolean isConfiguration(int i) {
            return kinds[i] == JOINT || kinds[i] == GROUP;
        }

        /**
         * Every change of the log ends with this, because the configuration is asked for far more
         * often. The value of a single group has the old group 0.
         */
        private void findConfiguration() {
            configurationIndex = baseIndex;
            oldGroup = baseOldGroup;
            newGroup = baseNewGroup;
            for (int i = 0; i < size && i < LOG_SIZE; i++) {
                if (isConfiguration(i)) {
                    configurationIndex = baseIndex + 1 + i;
                    oldGroup = values[i] / GROUPS;
                    newGroup = values[i] % GROUPS;
                }
            }
        }
    }

    /** A message; what its kind has no use for is 0. */
    private static final class Message {
        final int[] terms;
        final int[] kinds;
        final int[] values;
        int count;
        int kind;
        int sender;
        int receiver;
        int term;
        int due;
        int told;
        int index;
        int indexTerm;
        boolean isGranted;
        int commit;
        int result;
        int oldGroup;
        int newGroup;

        Message() {
            terms = new int[BATCH];
            kinds = new int[BATCH];
            values = new int[BATCH];
        }

        void clear() {
            count = 0;
            index = 0;
            indexTerm = 0;
            isGranted = false;
            commit = 0;
            result = 0;
            oldGroup = 0;
            newGroup = 0;
        }

        void copyFrom(Message other) {
            System.arraycopy(other.terms, 0, terms, 0, BATCH);
            System.arraycopy(other.kinds, 0, kinds, 0, BATCH);
            System.arraycopy(other.values, 0, values, 0, BATCH);
            count = other.count;
            kind = other.kind;
            sender = other.sender;
            receiver = other.receiver;
            term = other.term;
            due = other.due;
            told = other.told;
            index = other.index;
            indexTerm = other.indexTerm;
            isGranted = other.isGranted;
            commit = other.commit;
            result = other.result;
            oldGroup = other.oldGroup;
            newGroup = other.newGroup;
        }

        int detail() {
            switch (kind) {
                case REPLY:
                case ANSWER:
                    return isGranted ? 1 : 0;
                case APPEND:
                    return count;
                default:
                    return indexTerm;
            }
        }
    }

    /**
     * The messages on their way, in the order of sending. Rows are swapped with the draft of the
     * next message and with the one that was taken last, so that none is ever made anew.
     */
    private static final class Network {
        final Message[] rows;
        Message draft;
        Message taken;
        int count;
        int cuts;
        int delay;
        int sent;
        int lost;

        Network() {
            rows = new Message[MESSAGES];
            for (int i = 0; i < MESSAGES; i++) {
                rows[i] = new Message();
            }
            draft = new Message();
            taken = new Message();
        }

        void clear() {
            count = 0;
            cuts = 0;
            delay = 1;
            sent = 0;
            lost = 0;
        }

        void copyFrom(Network other) {
            count = other.count;
            cuts = other.cuts;
            delay = other.delay;
            sent = other.sent;
            lost = other.lost;
            for (int i = 0; i < count && i < MESSAGES; i++) {
                rows[i].copyFrom(other.rows[i]);
            }
        }

        boolean has(int i) {
            return i >= 0 && i < count && i < MESSAGES;
        }

        boolean isDue(int i, int time) {
            return i >= 0 && i < count && i < MESSAGES && rows[i].due <= time;
        }

        boolean isCut(int one, int other) {
            return (cuts >> one * NODES + other & 1) == 1;
        }

        void setCut(int one, int other, boolean isCut) {
            int link = 1 << one * NODES + other | 1 << other * NODES + one;
            cuts = isCut ? cuts | link : cuts & ~link;
        }

        /** Sends the draft. */
        void post() {
            sent++;
            if (count < 0 || count >= MESSAGES || isCut(draft.sender, draft.receiver)) {
                lost++;
                return;
            }
            Message free = rows[count];
            rows[count] = draft;
            draft = free;
            count++;
        }

        /** Takes a message out of the rows. */
        void remove(int i) {
            if (i < 0 || i >= count || count > MESSAGES) {
                return;
            }
            Message gone = rows[i];
            for (int k = i; k < count - 1; k++) {
                rows[k] = rows[k + 1];
            }
            count--;
            rows[count] = taken;
            taken = gone;
        }
    }

    /** The input buffer, and the commands that were found in it. */
    private static final class Script {
        final char[] letters;
        final int[] words;
        final int[] firsts;
        final int[] seconds;
        int length;
        int position;

        Script() {
            letters = new char[SCRIPT_SIZE];
            words = new int[MOST_COMMANDS];
            firsts = new int[MOST_COMMANDS];
            seconds = new int[MOST_COMMANDS];
        }

        boolean isFull() {
            return length >= SCRIPT_SIZE;
        }

        void add(char letter) {
            if (length >= 0 && length < SCRIPT_SIZE) {
                letters[length] = letter;
                length++;
            }
        }

        /** The number of commands, or -100 minus the error position. */
        int parse() {
            int count = 0;
            position = 0;
            do {
                if (!parseCommand(count)) {
                    return SYNTAX_ERROR - position;
                }
                count++;
            } while (position < length && count < MOST_COMMANDS);
            return count;
        }

        /** Leaves the position at the error if there is one. */
        private boolean parseCommand(int i) {
            int from = position;
            while (position < length && isBetween('a', 'z')) {
                position++;
            }
            int word = wordFrom(from);
            if (word == NONE) {
                position = from;
                return false;
            }
            words[i] = word;
            if (!skip(' ') || !parseNumber(firsts, i)) {
                return false;
            }
            boolean isPair = word == CUT || word == JOIN || word == PUT;
            if (isPair && (!skip(',') || !parseNumber(seconds, i))) {
                return false;
            }
            return skip(';');
        }

        private int wordFrom(int from) {
            if (isWord("tick", from)) {
                return TICK;
            }
            if (isWord("crash", from)) {
                return CRASH;
            }
            if (isWord("restart", from)) {
                return RESTART;
            }
            if (isWord("cut", from)) {
                return CUT;
            }
            if (isWord("join", from)) {
                return JOIN;
            }
            if (isWord("put", from)) {
                return PUT;
            }
            return isWord("pack", from) ? PACK : NONE;
        }

        private boolean isWord(String word, int from) {
            if (position - from != word.length()) {
                return false;
            }
            for (int i = 0; i < word.length(); i++) {
                if (word.charAt(i) != letters[from + i]) {
                    return false;
                }
            }
            return true;
        }

        private boolean parseNumber(int[] row, int i) {
            int from = position;
            int number = 0;
            while (position < from + 3 && isBetween('0', '9')) {
                number = 10 * number + letters[position] - '0';
                position++;
            }
            row[i] = number;
            return position > from;
        }

        private boolean skip(char letter) {
            if (!isBetween(letter, letter)) {
                return false;
            }
            position++;
            return true;
        }

        private boolean isBetween(char first, char last) {
            return position >= 0 && position < length && position < SCRIPT_SIZE
                    && letters[position] >= first && letters[position] <= last;
        }
    }
}
